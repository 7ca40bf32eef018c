/-! written by wip/tools/mkk.py: steps between cut points -/
set_option maxRecDepth 4000 in
theorem k_X10_put_0 {G : mG} {E : mE} {B : mB} {μ : mM} (C : Cx G mX10_put E) {x1 : Int32} (kk1 : Wm G mX10_put E B μ 3 [(0, .ref (gb G + 1)), (1, .int x1), (2, .int 24)] []) : Wm G mX10_put E B μ 0 [(0, .ref (gb G + 1)), (1, .int x1)] [] := by
  refine L_bipush C (v := 24) dX10_put_0 rfl ?_
  refine L_istore_n C (i := 2) dX10_put_2 rfl (Nat.le_of_ble_eq_true rfl) ?_
  exact kk1
theorem e_X10_put {G : mG} {Q : mM → Prop} {μ : mM} {x1 : Int32} (k : ∀ E, Cx G mX10_put E → Wm G mX10_put E (bm G mX10_put E (pV Q)) μ 0 [(0, .ref (gb G + 1)), (1, .int x1)] []) : CtV G mX10_put [.ref (gb G + 1), .int x1] μ Q := CtV.of pn_X10 (Nat.le_of_ble_eq_true rfl) k
set_option maxRecDepth 4000 in
theorem k_X10_put_3 {G : mG} {E : mE} {Q : mM → Prop} {μ : mM} (C : Cx G mX10_put E) {x1 : Int32} {x2 : Int32} (rr1 : (x2 < 0 ∨ (¬ x2 < 0 ∧ 200 ≤ (μ 1 1))) → Q μ) (ss2 : ¬ x2 < 0 → ¬ 200 ≤ (μ 1 1) → vp_in (μ 1 1) 200) (kk3 : ¬ x2 < 0 → ¬ 200 ≤ (μ 1 1) → Wm G mX10_put E (bm G mX10_put E (pV Q)) (ms (ms μ 2 (μ 1 1).toNatClampNeg ((iush x1 x2) &&& (255 : Int32))) 1 1 ((μ 1 1) + (1 : Int32))) 3 [(0, .ref (gb G + 1)), (1, .int x1), (2, .int (x2 + ((-8) : Int32)))] []) : Wm G mX10_put E (bm G mX10_put E (pV Q)) μ 3 [(0, .ref (gb G + 1)), (1, .int x1), (2, .int x2)] [] := by
  refine L_iload_n C (i := 2) dX10_put_3 rfl rfl ?_
  refine L_if_lt C (tgt := 49) dX10_put_4 rfl (fun p1 => ?_) (fun p1 => ?_)
  · exact L_irV C dX10_put_49 rfl (rr1 (Or.inl p1))
  · refine L_aload_n C (i := 0) dX10_put_7 rfl rfl ?_
    refine L_getI C dX10_put_8 sh_1 fl_X10_15 rfl ?_
    refine L_sipush C (v := 200) dX10_put_11 rfl ?_
    refine L_icmp_ge C (tgt := 49) dX10_put_14 rfl (fun p2 => ?_) (fun p2 => ?_)
    · exact L_irV C dX10_put_49 rfl (rr1 (Or.inr ⟨p1, p2⟩))
    · refine L_aload_n C (i := 0) dX10_put_17 rfl rfl ?_
      refine L_getC C (c' := 2) dX10_put_18 sh_1 fl_X10_9 rfl rfl ?_
      refine L_aload_n C (i := 0) dX10_put_21 rfl rfl ?_
      refine L_getI C dX10_put_22 sh_1 fl_X10_15 rfl ?_
      refine L_iload_n C (i := 1) dX10_put_25 rfl rfl ?_
      refine L_iload_n C (i := 2) dX10_put_26 rfl rfl ?_
      refine L_iushr C dX10_put_27 ?_
      refine L_sipush C (v := 255) dX10_put_28 rfl ?_
      refine L_iand C dX10_put_31 ?_
      refine L_iast C dX10_put_32 sh_2 (ss2 p1 p2) ?_
      refine L_aload_n C (i := 0) dX10_put_33 rfl rfl ?_
      refine L_dup C dX10_put_34 rfl ?_
      refine L_getI C dX10_put_35 sh_1 fl_X10_15 rfl ?_
      refine L_iconst C (v := 1) dX10_put_38 rfl ?_
      refine L_iadd C dX10_put_39 ?_
      refine L_putI C dX10_put_40 sh_1 fl_X10_15 rfl rfl rfl ?_
      refine L_iinc C (v := (-8)) dX10_put_43 rfl rfl (Nat.le_of_ble_eq_true rfl) ?_
      refine L_goto C (tgt := 3) dX10_put_46 rfl ?_
      exact kk3 p1 p2
set_option maxRecDepth 4000 in
theorem k_X11_feed_0 {G : mG} {E : mE} {Q : Int32 → mM → Prop} {μ : mM} (C : Cx G mX11_feed E) {x1 : Int32} {x2 : Int32} {x3 : Int32} {x4 : Int32} {x5 : Int32} (cc1 : ((μ 1 1) + (20 : Int32)) ≤ 200 → CtV G mX10_put [.ref (gb G + 1), .int x1] μ (fun μ' => Wm G mX11_feed E (bm G mX11_feed E (pI Q)) μ' 26 [(0, .ref (gb G + 0)), (2, .int x2), (3, .int x3), (4, .int x4), (5, .int x5)] [])) (rr2 : ¬ ((μ 1 1) + (20 : Int32)) ≤ 200 → Q (-1) μ) : Wm G mX11_feed E (bm G mX11_feed E (pI Q)) μ 0 [(0, .ref (gb G + 0)), (1, .int x1), (2, .int x2), (3, .int x3), (4, .int x4), (5, .int x5)] [] := by
  refine L_aload_n C (i := 0) dX11_feed_0 rfl rfl ?_
  refine L_getC C (c' := 1) dX11_feed_1 sh_0 fl_X11_10 rfl rfl ?_
  refine L_getI C dX11_feed_4 sh_1 fl_X11_65 rfl ?_
  refine L_bipush C (v := 20) dX11_feed_7 rfl ?_
  refine L_iadd C dX11_feed_9 ?_
  refine L_sipush C (v := 200) dX11_feed_10 rfl ?_
  refine L_icmp_le C (tgt := 18) dX11_feed_13 rfl (fun p1 => ?_) (fun p1 => ?_)
  · refine L_aload_n C (i := 0) dX11_feed_18 rfl rfl ?_
    refine L_getC C (c' := 1) dX11_feed_19 sh_0 fl_X11_10 rfl rfl ?_
    refine L_iload_n C (i := 1) dX11_feed_22 rfl rfl ?_
    refine L_sub [0, 2, 3, 4, 5] rfl ?_
    refine L_invV1v C dX11_feed_23 sh_1 cal_X10_put lk_X11_69 ⟨Nat.le_of_ble_eq_true rfl, Nat.le_of_ble_eq_true rfl⟩ ⟨Nat.le_of_ble_eq_true rfl, Nat.le_of_ble_eq_true rfl⟩ (Nat.le_of_ble_eq_true rfl) ?_
    exact cc1 p1
  · refine L_iconst C (v := (-1)) dX11_feed_16 rfl ?_
    exact L_irI C dX11_feed_17 rfl (rr2 p1)
theorem e_X11_feed {G : mG} {Q : Int32 → mM → Prop} {μ : mM} {x1 : Int32} {x2 : Int32} {x3 : Int32} {x4 : Int32} {x5 : Int32} (k : ∀ E, Cx G mX11_feed E → Wm G mX11_feed E (bm G mX11_feed E (pI Q)) μ 0 [(0, .ref (gb G + 0)), (1, .int x1), (2, .int x2), (3, .int x3), (4, .int x4), (5, .int x5)] []) : CtI G mX11_feed [.ref (gb G + 0), .int x1, .int x2, .int x3, .int x4, .int x5] μ Q := CtI.of pn_X11 (Nat.le_of_ble_eq_true rfl) k
set_option maxRecDepth 4000 in
theorem k_X11_feed_26 {G : mG} {E : mE} {Q : Int32 → mM → Prop} {μ : mM} (C : Cx G mX11_feed E) {x2 : Int32} {x3 : Int32} {x4 : Int32} {x5 : Int32} (cc1 : CtV G mX10_put [.ref (gb G + 1), .int x2] μ (fun μ' => Wm G mX11_feed E (bm G mX11_feed E (pI Q)) μ' 34 [(0, .ref (gb G + 0)), (3, .int x3), (4, .int x4), (5, .int x5)] [])) : Wm G mX11_feed E (bm G mX11_feed E (pI Q)) μ 26 [(0, .ref (gb G + 0)), (2, .int x2), (3, .int x3), (4, .int x4), (5, .int x5)] [] := by
  refine L_aload_n C (i := 0) dX11_feed_26 rfl rfl ?_
  refine L_getC C (c' := 1) dX11_feed_27 sh_0 fl_X11_10 rfl rfl ?_
  refine L_iload_n C (i := 2) dX11_feed_30 rfl rfl ?_
  refine L_sub [0, 2, 3, 4] rfl ?_
  refine L_invV1v C dX11_feed_31 sh_1 cal_X10_put lk_X11_69 ⟨Nat.le_of_ble_eq_true rfl, Nat.le_of_ble_eq_true rfl⟩ ⟨Nat.le_of_ble_eq_true rfl, Nat.le_of_ble_eq_true rfl⟩ (Nat.le_of_ble_eq_true rfl) ?_
  exact cc1
set_option maxRecDepth 4000 in
theorem k_X11_feed_34 {G : mG} {E : mE} {Q : Int32 → mM → Prop} {μ : mM} (C : Cx G mX11_feed E) {x3 : Int32} {x4 : Int32} {x5 : Int32} (cc1 : CtV G mX10_put [.ref (gb G + 1), .int x3] μ (fun μ' => Wm G mX11_feed E (bm G mX11_feed E (pI Q)) μ' 42 [(0, .ref (gb G + 0)), (4, .int x4), (5, .int x5)] [])) : Wm G mX11_feed E (bm G mX11_feed E (pI Q)) μ 34 [(0, .ref (gb G + 0)), (3, .int x3), (4, .int x4), (5, .int x5)] [] := by
  refine L_aload_n C (i := 0) dX11_feed_34 rfl rfl ?_
  refine L_getC C (c' := 1) dX11_feed_35 sh_0 fl_X11_10 rfl rfl ?_
  refine L_iload_n C (i := 3) dX11_feed_38 rfl rfl ?_
  refine L_sub [0, 2, 3] rfl ?_
  refine L_invV1v C dX11_feed_39 sh_1 cal_X10_put lk_X11_69 ⟨Nat.le_of_ble_eq_true rfl, Nat.le_of_ble_eq_true rfl⟩ ⟨Nat.le_of_ble_eq_true rfl, Nat.le_of_ble_eq_true rfl⟩ (Nat.le_of_ble_eq_true rfl) ?_
  exact cc1
set_option maxRecDepth 4000 in
theorem k_X11_feed_42 {G : mG} {E : mE} {Q : Int32 → mM → Prop} {μ : mM} (C : Cx G mX11_feed E) {x4 : Int32} {x5 : Int32} (cc1 : CtV G mX10_put [.ref (gb G + 1), .int x4] μ (fun μ' => Wm G mX11_feed E (bm G mX11_feed E (pI Q)) μ' 51 [(0, .ref (gb G + 0)), (5, .int x5)] [])) : Wm G mX11_feed E (bm G mX11_feed E (pI Q)) μ 42 [(0, .ref (gb G + 0)), (4, .int x4), (5, .int x5)] [] := by
  refine L_aload_n C (i := 0) dX11_feed_42 rfl rfl ?_
  refine L_getC C (c' := 1) dX11_feed_43 sh_0 fl_X11_10 rfl rfl ?_
  refine L_iload C dX11_feed_46 rfl ?_
  refine L_sub [0, 2] rfl ?_
  refine L_invV1v C dX11_feed_48 sh_1 cal_X10_put lk_X11_69 ⟨Nat.le_of_ble_eq_true rfl, Nat.le_of_ble_eq_true rfl⟩ ⟨Nat.le_of_ble_eq_true rfl, Nat.le_of_ble_eq_true rfl⟩ (Nat.le_of_ble_eq_true rfl) ?_
  exact cc1
set_option maxRecDepth 4000 in
theorem k_X11_feed_51 {G : mG} {E : mE} {Q : Int32 → mM → Prop} {μ : mM} (C : Cx G mX11_feed E) {x5 : Int32} (cc1 : CtV G mX10_put [.ref (gb G + 1), .int x5] μ (fun μ' => Wm G mX11_feed E (bm G mX11_feed E (pI Q)) μ' 60 [(0, .ref (gb G + 0))] [])) : Wm G mX11_feed E (bm G mX11_feed E (pI Q)) μ 51 [(0, .ref (gb G + 0)), (5, .int x5)] [] := by
  refine L_aload_n C (i := 0) dX11_feed_51 rfl rfl ?_
  refine L_getC C (c' := 1) dX11_feed_52 sh_0 fl_X11_10 rfl rfl ?_
  refine L_iload C dX11_feed_55 rfl ?_
  refine L_sub [0] rfl ?_
  refine L_invV1v C dX11_feed_57 sh_1 cal_X10_put lk_X11_69 ⟨Nat.le_of_ble_eq_true rfl, Nat.le_of_ble_eq_true rfl⟩ ⟨Nat.le_of_ble_eq_true rfl, Nat.le_of_ble_eq_true rfl⟩ (Nat.le_of_ble_eq_true rfl) ?_
  exact cc1
set_option maxRecDepth 4000 in
theorem k_X11_feed_60 {G : mG} {E : mE} {Q : Int32 → mM → Prop} {μ : mM} (C : Cx G mX11_feed E)  (rr1 : Q (μ 1 1) μ) : Wm G mX11_feed E (bm G mX11_feed E (pI Q)) μ 60 [(0, .ref (gb G + 0))] [] := by
  refine L_aload_n C (i := 0) dX11_feed_60 rfl rfl ?_
  refine L_getC C (c' := 1) dX11_feed_61 sh_0 fl_X11_10 rfl rfl ?_
  refine L_getI C dX11_feed_64 sh_1 fl_X11_65 rfl ?_
  exact L_irI C dX11_feed_67 rfl (rr1)
set_option maxRecDepth 4000 in
theorem k_X11_end_0 {G : mG} {E : mE} {Q : Int32 → mM → Prop} {μ : mM} (C : Cx G mX11_end E) {x1 : Int32} (rr1 : (x1 < 0 ∨ (¬ x1 < 0 ∧ ¬ x1 ≤ (μ 1 1))) → Q (-1) μ) (rr2 : ¬ x1 < 0 → x1 ≤ (μ 1 1) → Q x1 (ms μ 1 1 x1)) : Wm G mX11_end E (bm G mX11_end E (pI Q)) μ 0 [(0, .ref (gb G + 0)), (1, .int x1)] [] := by
  refine L_iload_n C (i := 1) dX11_end_0 rfl rfl ?_
  refine L_if_lt C (tgt := 15) dX11_end_1 rfl (fun p1 => ?_) (fun p1 => ?_)
  · refine L_iconst C (v := (-1)) dX11_end_15 rfl ?_
    exact L_irI C dX11_end_16 rfl (rr1 (Or.inl p1))
  · refine L_iload_n C (i := 1) dX11_end_4 rfl rfl ?_
    refine L_aload_n C (i := 0) dX11_end_5 rfl rfl ?_
    refine L_getC C (c' := 1) dX11_end_6 sh_0 fl_X11_10 rfl rfl ?_
    refine L_getI C dX11_end_9 sh_1 fl_X11_65 rfl ?_
    refine L_icmp_le C (tgt := 17) dX11_end_12 rfl (fun p2 => ?_) (fun p2 => ?_)
    · refine L_aload_n C (i := 0) dX11_end_17 rfl rfl ?_
      refine L_getC C (c' := 1) dX11_end_18 sh_0 fl_X11_10 rfl rfl ?_
      refine L_iload_n C (i := 1) dX11_end_21 rfl rfl ?_
      refine L_putI C dX11_end_22 sh_1 fl_X11_65 rfl rfl rfl ?_
      refine L_iload_n C (i := 1) dX11_end_25 rfl rfl ?_
      exact L_irI C dX11_end_26 rfl (rr2 p1 p2)
    · refine L_iconst C (v := (-1)) dX11_end_15 rfl ?_
      exact L_irI C dX11_end_16 rfl (rr1 (Or.inr ⟨p1, p2⟩))
theorem a_X11_end {G : mG} {Q : Int32 → mM → Prop} {μ : mM} {x1 : Int32} (rr1 : (x1 < 0 ∨ (¬ x1 < 0 ∧ ¬ x1 ≤ (μ 1 1))) → Q (-1) μ) (rr2 : ¬ x1 < 0 → x1 ≤ (μ 1 1) → Q x1 (ms μ 1 1 x1)) : CtI G mX11_end [.ref (gb G + 0), .int x1] μ Q :=
  CtI.of pn_X11 (Nat.le_of_ble_eq_true rfl) (fun E C => k_X11_end_0 C rr1 rr2)
set_option maxRecDepth 4000 in
theorem k_X4_clear_0 {G : mG} {E : mE} {Q : mM → Prop} {μ : mM} (C : Cx G mX4_clear E) {c0 : Nat} (h0 : sh c0 = (0, 3)) (rr1 : Q (ms (ms (ms (ms μ c0 0 0) c0 1 2) c0 2 0) c0 3 0)) : Wm G mX4_clear E (bm G mX4_clear E (pV Q)) μ 0 [(0, .ref (gb G + c0))] [] := by
  refine L_aload_n C (i := 0) dX4_clear_0 rfl rfl ?_
  refine L_iconst C (v := 0) dX4_clear_1 rfl ?_
  refine L_putI C dX4_clear_2 h0 fl_X4_21 rfl rfl rfl ?_
  refine L_aload_n C (i := 0) dX4_clear_5 rfl rfl ?_
  refine L_iconst C (v := 2) dX4_clear_6 rfl ?_
  refine L_putI C dX4_clear_7 h0 fl_X4_25 rfl rfl rfl ?_
  refine L_aload_n C (i := 0) dX4_clear_10 rfl rfl ?_
  refine L_iconst C (v := 0) dX4_clear_11 rfl ?_
  refine L_putI C dX4_clear_12 h0 fl_X4_28 rfl rfl rfl ?_
  refine L_aload_n C (i := 0) dX4_clear_15 rfl rfl ?_
  refine L_iconst C (v := 0) dX4_clear_16 rfl ?_
  refine L_putI C dX4_clear_17 h0 fl_X4_31 rfl rfl rfl ?_
  exact L_irV C dX4_clear_20 rfl (rr1)
theorem a_X4_clear {G : mG} {Q : mM → Prop} {μ : mM} {c0 : Nat} (h0 : sh c0 = (0, 3)) (rr1 : Q (ms (ms (ms (ms μ c0 0 0) c0 1 2) c0 2 0) c0 3 0)) : CtV G mX4_clear [.ref (gb G + c0)] μ Q :=
  CtV.of pn_X4 (Nat.le_of_ble_eq_true rfl) (fun E C => k_X4_clear_0 C h0 rr1)
set_option maxRecDepth 4000 in
theorem k_X5_skipBlanks_0 {G : mG} {E : mE} {Q : mM → Prop} {μ : mM} (C : Cx G mX5_skipBlanks E)  (rr1 : ((μ 3 3) ≤ (μ 3 4) ∨ (¬ (μ 3 3) ≤ (μ 3 4) ∧ ¬ (μ 2 (μ 3 4).toNatClampNeg) = 32)) → Q μ) (tt2 : ¬ (μ 3 3) ≤ (μ 3 4) → (μ 3 2).toNatClampNeg = 2) (ss3 : ¬ (μ 3 3) ≤ (μ 3 4) → vp_in (μ 3 4) 200) (kk4 : ¬ (μ 3 3) ≤ (μ 3 4) → (μ 2 (μ 3 4).toNatClampNeg) = 32 → Wm G mX5_skipBlanks E (bm G mX5_skipBlanks E (pV Q)) (ms μ 3 4 ((μ 3 4) + (1 : Int32))) 0 [(0, .ref (gb G + 3))] []) : Wm G mX5_skipBlanks E (bm G mX5_skipBlanks E (pV Q)) μ 0 [(0, .ref (gb G + 3))] [] := by
  refine L_aload_n C (i := 0) dX5_skipBlanks_0 rfl rfl ?_
  refine L_getI C dX5_skipBlanks_1 sh_3 fl_X5_39 rfl ?_
  refine L_aload_n C (i := 0) dX5_skipBlanks_4 rfl rfl ?_
  refine L_getI C dX5_skipBlanks_5 sh_3 fl_X5_38 rfl ?_
  refine L_icmp_ge C (tgt := 38) dX5_skipBlanks_8 rfl (fun p1 => ?_) (fun p1 => ?_)
  · exact L_irV C dX5_skipBlanks_38 rfl (rr1 (Or.inl p1))
  · refine L_aload_n C (i := 0) dX5_skipBlanks_11 rfl rfl ?_
    refine L_getT C dX5_skipBlanks_12 sh_3 fl_X5_25 rfl (tt2 p1) ?_
    refine L_aload_n C (i := 0) dX5_skipBlanks_15 rfl rfl ?_
    refine L_getI C dX5_skipBlanks_16 sh_3 fl_X5_39 rfl ?_
    refine L_iald C dX5_skipBlanks_19 sh_2 (ss3 p1) ?_
    refine L_bipush C (v := 32) dX5_skipBlanks_20 rfl ?_
    refine L_icmp_ne C (tgt := 38) dX5_skipBlanks_22 rfl (fun p2 => ?_) (fun p2 => ?_)
    · exact L_irV C dX5_skipBlanks_38 rfl (rr1 (Or.inr ⟨p1, p2⟩))
    · refine L_aload_n C (i := 0) dX5_skipBlanks_25 rfl rfl ?_
      refine L_dup C dX5_skipBlanks_26 rfl ?_
      refine L_getI C dX5_skipBlanks_27 sh_3 fl_X5_39 rfl ?_
      refine L_iconst C (v := 1) dX5_skipBlanks_30 rfl ?_
      refine L_iadd C dX5_skipBlanks_31 ?_
      refine L_putI C dX5_skipBlanks_32 sh_3 fl_X5_39 rfl rfl rfl ?_
      refine L_goto C (tgt := 0) dX5_skipBlanks_35 rfl ?_
      exact kk4 p1 p2
theorem e_X5_skipBlanks {G : mG} {Q : mM → Prop} {μ : mM}  (k : ∀ E, Cx G mX5_skipBlanks E → Wm G mX5_skipBlanks E (bm G mX5_skipBlanks E (pV Q)) μ 0 [(0, .ref (gb G + 3))] []) : CtV G mX5_skipBlanks [.ref (gb G + 3)] μ Q := CtV.of pn_X5 (Nat.le_of_ble_eq_true rfl) k
set_option maxRecDepth 4000 in
theorem k_X5_isLetter_0 {G : mG} {E : mE} {Q : Int32 → mM → Prop} {μ : mM} (C : Cx G mX5_isLetter E) {x1 : Int32} (rr1 : ((μ 3 3) ≤ x1 ∨ (¬ (μ 3 3) ≤ x1 ∧ ((μ 2 x1.toNatClampNeg) < 97 ∨ (¬ (μ 2 x1.toNatClampNeg) < 97 ∧ 122 < (μ 2 x1.toNatClampNeg))))) → Q 0 μ) (tt2 : ¬ (μ 3 3) ≤ x1 → (μ 3 2).toNatClampNeg = 2) (ss3 : ¬ (μ 3 3) ≤ x1 → vp_in x1 200) (rr4 : ¬ (μ 3 3) ≤ x1 → ¬ (μ 2 x1.toNatClampNeg) < 97 → ¬ 122 < (μ 2 x1.toNatClampNeg) → Q 1 μ) : Wm G mX5_isLetter E (bm G mX5_isLetter E (pI Q)) μ 0 [(0, .ref (gb G + 3)), (1, .int x1)] [] := by
  refine L_iload_n C (i := 1) dX5_isLetter_0 rfl rfl ?_
  refine L_aload_n C (i := 0) dX5_isLetter_1 rfl rfl ?_
  refine L_getI C dX5_isLetter_2 sh_3 fl_X5_38 rfl ?_
  refine L_icmp_ge C (tgt := 34) dX5_isLetter_5 rfl (fun p1 => ?_) (fun p1 => ?_)
  · refine L_iconst C (v := 0) dX5_isLetter_34 rfl ?_
    exact L_irZ C dX5_isLetter_35 rfl (by decide) (rr1 (Or.inl p1))
  · refine L_aload_n C (i := 0) dX5_isLetter_8 rfl rfl ?_
    refine L_getT C dX5_isLetter_9 sh_3 fl_X5_25 rfl (tt2 p1) ?_
    refine L_iload_n C (i := 1) dX5_isLetter_12 rfl rfl ?_
    refine L_iald C dX5_isLetter_13 sh_2 (ss3 p1) ?_
    refine L_bipush C (v := 97) dX5_isLetter_14 rfl ?_
    refine L_icmp_lt C (tgt := 34) dX5_isLetter_16 rfl (fun p2 => ?_) (fun p2 => ?_)
    · refine L_iconst C (v := 0) dX5_isLetter_34 rfl ?_
      exact L_irZ C dX5_isLetter_35 rfl (by decide) (rr1 (Or.inr ⟨p1, (Or.inl p2)⟩))
    · refine L_aload_n C (i := 0) dX5_isLetter_19 rfl rfl ?_
      refine L_getT C dX5_isLetter_20 sh_3 fl_X5_25 rfl (tt2 p1) ?_
      refine L_iload_n C (i := 1) dX5_isLetter_23 rfl rfl ?_
      refine L_iald C dX5_isLetter_24 sh_2 (ss3 p1) ?_
      refine L_bipush C (v := 122) dX5_isLetter_25 rfl ?_
      refine L_icmp_gt C (tgt := 34) dX5_isLetter_27 rfl (fun p3 => ?_) (fun p3 => ?_)
      · refine L_iconst C (v := 0) dX5_isLetter_34 rfl ?_
        exact L_irZ C dX5_isLetter_35 rfl (by decide) (rr1 (Or.inr ⟨p1, (Or.inr ⟨p2, p3⟩)⟩))
      · refine L_iconst C (v := 1) dX5_isLetter_30 rfl ?_
        refine L_goto C (tgt := 35) dX5_isLetter_31 rfl ?_
        exact L_irZ C dX5_isLetter_35 rfl (by decide) (rr4 p1 p2 p3)
theorem a_X5_isLetter {G : mG} {Q : Int32 → mM → Prop} {μ : mM} {x1 : Int32} (rr1 : ((μ 3 3) ≤ x1 ∨ (¬ (μ 3 3) ≤ x1 ∧ ((μ 2 x1.toNatClampNeg) < 97 ∨ (¬ (μ 2 x1.toNatClampNeg) < 97 ∧ 122 < (μ 2 x1.toNatClampNeg))))) → Q 0 μ) (tt2 : ¬ (μ 3 3) ≤ x1 → (μ 3 2).toNatClampNeg = 2) (ss3 : ¬ (μ 3 3) ≤ x1 → vp_in x1 200) (rr4 : ¬ (μ 3 3) ≤ x1 → ¬ (μ 2 x1.toNatClampNeg) < 97 → ¬ 122 < (μ 2 x1.toNatClampNeg) → Q 1 μ) : CtI G mX5_isLetter [.ref (gb G + 3), .int x1] μ Q :=
  CtI.of pn_X5 (Nat.le_of_ble_eq_true rfl) (fun E C => k_X5_isLetter_0 C rr1 tt2 ss3 rr4)
set_option maxRecDepth 4000 in
theorem k_X5_isWord_0 {G : mG} {E : mE} {Q : Int32 → mM → Prop} {μ : mM} (C : Cx G mX5_isWord E) {w1 : Nat} (ww1 : w1 < 3) (kk2 : Wm G mX5_isWord E (bm G mX5_isWord E (pI Q)) μ 7 [(0, .ref (gb G + 3)), (1, .ref (G.2.2.2.2.1 w1)), (2, .int (nI (sLen.getD w1 0))), (3, .int 0)] []) : Wm G mX5_isWord E (bm G mX5_isWord E (pI Q)) μ 0 [(0, .ref (gb G + 3)), (1, .ref (G.2.2.2.2.1 w1))] [] := by
  refine L_aload_n C (i := 1) dX5_isWord_0 rfl rfl ?_
  refine L_strlen C dX5_isWord_1 lk_X5_150 (Nat.le_of_ble_eq_true rfl) (Nat.le_of_ble_eq_true rfl) ⟨Nat.le_of_ble_eq_true rfl, Nat.le_of_ble_eq_true rfl⟩ (Nat.le_of_ble_eq_true rfl) (ww1) ?_
  refine L_istore_n C (i := 2) dX5_isWord_4 rfl (Nat.le_of_ble_eq_true rfl) ?_
  refine L_iconst C (v := 0) dX5_isWord_5 rfl ?_
  refine L_istore_n C (i := 3) dX5_isWord_6 rfl (Nat.le_of_ble_eq_true rfl) ?_
  exact kk2
theorem e_X5_isWord {G : mG} {Q : Int32 → mM → Prop} {μ : mM} {w1 : Nat} (k : ∀ E, Cx G mX5_isWord E → Wm G mX5_isWord E (bm G mX5_isWord E (pI Q)) μ 0 [(0, .ref (gb G + 3)), (1, .ref (G.2.2.2.2.1 w1))] []) : CtI G mX5_isWord [.ref (gb G + 3), .ref (G.2.2.2.2.1 w1)] μ Q := CtI.of pn_X5 (Nat.le_of_ble_eq_true rfl) k
set_option maxRecDepth 4000 in
theorem k_X5_isWord_7 {G : mG} {E : mE} {Q : Int32 → mM → Prop} {μ : mM} (C : Cx G mX5_isWord E) {w1 : Nat} {x2 : Int32} {x3 : Int32} (tt1 : ((x2 ≤ x3 ∧ ¬ (μ 3 3) ≤ ((μ 3 4) + x2)) ∨ (¬ x2 ≤ x3 ∧ (¬ (μ 3 3) ≤ ((μ 3 4) + x3) ∨ (¬ (μ 3 3) ≤ ((μ 3 4) + x3) ∧ ¬ (μ 2 ((μ 3 4) + x3).toNatClampNeg) < 97 ∧ ¬ 122 < (μ 2 ((μ 3 4) + x3).toNatClampNeg))))) → (μ 3 2).toNatClampNeg = 2) (ss2 : x2 ≤ x3 → ¬ (μ 3 3) ≤ ((μ 3 4) + x2) → vp_in ((μ 3 4) + x2) 200) (rr3 : x2 ≤ x3 → ((μ 3 3) ≤ ((μ 3 4) + x2) ∨ (¬ (μ 3 3) ≤ ((μ 3 4) + x2) ∧ ((μ 2 ((μ 3 4) + x2).toNatClampNeg) < 97 ∨ (¬ (μ 2 ((μ 3 4) + x2).toNatClampNeg) < 97 ∧ 122 < (μ 2 ((μ 3 4) + x2).toNatClampNeg))))) → Q 1 μ) (rr4 : ((x2 ≤ x3 ∧ ¬ (μ 3 3) ≤ ((μ 3 4) + x2) ∧ ¬ (μ 2 ((μ 3 4) + x2).toNatClampNeg) < 97 ∧ ¬ 122 < (μ 2 ((μ 3 4) + x2).toNatClampNeg)) ∨ (¬ x2 ≤ x3 ∧ (((μ 3 3) ≤ ((μ 3 4) + x3) ∨ (¬ (μ 3 3) ≤ ((μ 3 4) + x3) ∧ ((μ 2 ((μ 3 4) + x3).toNatClampNeg) < 97 ∨ (¬ (μ 2 ((μ 3 4) + x3).toNatClampNeg) < 97 ∧ 122 < (μ 2 ((μ 3 4) + x3).toNatClampNeg))))) ∨ (¬ (μ 3 3) ≤ ((μ 3 4) + x3) ∧ ¬ (μ 2 ((μ 3 4) + x3).toNatClampNeg) < 97 ∧ ¬ 122 < (μ 2 ((μ 3 4) + x3).toNatClampNeg) ∧ ¬ (μ 2 ((μ 3 4) + x3).toNatClampNeg) = (sch w1 x3.toNatClampNeg))))) → Q 0 μ) (ss5 : ¬ x2 ≤ x3 → (¬ (μ 3 3) ≤ ((μ 3 4) + x3) ∨ (¬ (μ 3 3) ≤ ((μ 3 4) + x3) ∧ ¬ (μ 2 ((μ 3 4) + x3).toNatClampNeg) < 97 ∧ ¬ 122 < (μ 2 ((μ 3 4) + x3).toNatClampNeg))) → vp_in ((μ 3 4) + x3) 200) (ww6 : ¬ x2 ≤ x3 → ¬ (μ 3 3) ≤ ((μ 3 4) + x3) → ¬ (μ 2 ((μ 3 4) + x3).toNatClampNeg) < 97 → ¬ 122 < (μ 2 ((μ 3 4) + x3).toNatClampNeg) → w1 < 3) (ss7 : ¬ x2 ≤ x3 → ¬ (μ 3 3) ≤ ((μ 3 4) + x3) → ¬ (μ 2 ((μ 3 4) + x3).toNatClampNeg) < 97 → ¬ 122 < (μ 2 ((μ 3 4) + x3).toNatClampNeg) → vp_in x3 (sLen.getD w1 0)) (kk8 : ¬ x2 ≤ x3 → ¬ (μ 3 3) ≤ ((μ 3 4) + x3) → ¬ (μ 2 ((μ 3 4) + x3).toNatClampNeg) < 97 → ¬ 122 < (μ 2 ((μ 3 4) + x3).toNatClampNeg) → (μ 2 ((μ 3 4) + x3).toNatClampNeg) = (sch w1 x3.toNatClampNeg) → Wm G mX5_isWord E (bm G mX5_isWord E (pI Q)) μ 7 [(0, .ref (gb G + 3)), (1, .ref (G.2.2.2.2.1 w1)), (2, .int x2), (3, .int (x3 + (1 : Int32)))] []) : Wm G mX5_isWord E (bm G mX5_isWord E (pI Q)) μ 7 [(0, .ref (gb G + 3)), (1, .ref (G.2.2.2.2.1 w1)), (2, .int x2), (3, .int x3)] [] := by
  refine L_iload_n C (i := 3) dX5_isWord_7 rfl rfl ?_
  refine L_iload_n C (i := 2) dX5_isWord_8 rfl rfl ?_
  refine L_icmp_ge C (tgt := 52) dX5_isWord_9 rfl (fun p1 => ?_) (fun p1 => ?_)
  · refine L_aload_n C (i := 0) dX5_isWord_52 rfl rfl ?_
    refine L_aload_n C (i := 0) dX5_isWord_53 rfl rfl ?_
    refine L_getI C dX5_isWord_54 sh_3 fl_X5_39 rfl ?_
    refine L_iload_n C (i := 2) dX5_isWord_57 rfl rfl ?_
    refine L_iadd C dX5_isWord_58 ?_
    refine L_invV1i C dX5_isWord_59 sh_3 cal_X5_isLetter lk_X5_156 ⟨Nat.le_of_ble_eq_true rfl, Nat.le_of_ble_eq_true rfl⟩ ⟨Nat.le_of_ble_eq_true rfl, Nat.le_of_ble_eq_true rfl⟩ (Nat.le_of_ble_eq_true rfl) (a_X5_isLetter (fun p2 => ?_) (fun p3 => tt1 (Or.inl ⟨p1, p3⟩)) (fun p4 => ss2 p1 p4) (fun p5 p6 p7 => ?_))
    · refine L_if_ne C (tgt := 69) dX5_isWord_62 rfl (fun p8 => absurd p8 (by decide)) (fun p8 => ?_)
      refine L_iconst C (v := 1) dX5_isWord_65 rfl ?_
      refine L_goto C (tgt := 70) dX5_isWord_66 rfl ?_
      exact L_irZ C dX5_isWord_70 rfl (by decide) (rr3 p1 p2)
    · refine L_if_ne C (tgt := 69) dX5_isWord_62 rfl (fun p9 => ?_) (fun p9 => absurd p9 (by decide))
      refine L_iconst C (v := 0) dX5_isWord_69 rfl ?_
      exact L_irZ C dX5_isWord_70 rfl (by decide) (rr4 (Or.inl ⟨p1, p5, p6, p7⟩))
  · refine L_aload_n C (i := 0) dX5_isWord_12 rfl rfl ?_
    refine L_aload_n C (i := 0) dX5_isWord_13 rfl rfl ?_
    refine L_getI C dX5_isWord_14 sh_3 fl_X5_39 rfl ?_
    refine L_iload_n C (i := 3) dX5_isWord_17 rfl rfl ?_
    refine L_iadd C dX5_isWord_18 ?_
    refine L_invV1i C dX5_isWord_19 sh_3 cal_X5_isLetter lk_X5_156 ⟨Nat.le_of_ble_eq_true rfl, Nat.le_of_ble_eq_true rfl⟩ ⟨Nat.le_of_ble_eq_true rfl, Nat.le_of_ble_eq_true rfl⟩ (Nat.le_of_ble_eq_true rfl) (a_X5_isLetter (fun p10 => ?_) (fun p11 => tt1 (Or.inr ⟨p1, (Or.inl p11)⟩)) (fun p12 => ss5 p1 (Or.inl p12)) (fun p13 p14 p15 => ?_))
    · refine L_if_eq C (tgt := 44) dX5_isWord_22 rfl (fun p16 => ?_) (fun p16 => absurd p16 (by decide))
      refine L_iconst C (v := 0) dX5_isWord_44 rfl ?_
      exact L_irZ C dX5_isWord_45 rfl (by decide) (rr4 (Or.inr ⟨p1, (Or.inl p10)⟩))
    · refine L_if_eq C (tgt := 44) dX5_isWord_22 rfl (fun p17 => absurd p17 (by decide)) (fun p17 => ?_)
      refine L_aload_n C (i := 0) dX5_isWord_25 rfl rfl ?_
      refine L_getT C dX5_isWord_26 sh_3 fl_X5_25 rfl (tt1 (Or.inr ⟨p1, (Or.inr ⟨p13, p14, p15⟩)⟩)) ?_
      refine L_aload_n C (i := 0) dX5_isWord_29 rfl rfl ?_
      refine L_getI C dX5_isWord_30 sh_3 fl_X5_39 rfl ?_
      refine L_iload_n C (i := 3) dX5_isWord_33 rfl rfl ?_
      refine L_iadd C dX5_isWord_34 ?_
      refine L_iald C dX5_isWord_35 sh_2 (ss5 p1 (Or.inr ⟨p13, p14, p15⟩)) ?_
      refine L_aload_n C (i := 1) dX5_isWord_36 rfl rfl ?_
      refine L_iload_n C (i := 3) dX5_isWord_37 rfl rfl ?_
      refine L_strch C dX5_isWord_38 lk_X5_159 (Nat.le_of_ble_eq_true rfl) (Nat.le_of_ble_eq_true rfl) ⟨Nat.le_of_ble_eq_true rfl, Nat.le_of_ble_eq_true rfl⟩ (Nat.le_of_ble_eq_true rfl) (ww6 p1 p13 p14 p15) (ss7 p1 p13 p14 p15) ?_
      refine L_icmp_eq C (tgt := 46) dX5_isWord_41 rfl (fun p18 => ?_) (fun p18 => ?_)
      · refine L_iinc C (v := 1) dX5_isWord_46 rfl rfl (Nat.le_of_ble_eq_true rfl) ?_
        refine L_goto C (tgt := 7) dX5_isWord_49 rfl ?_
        exact kk8 p1 p13 p14 p15 p18
      · refine L_iconst C (v := 0) dX5_isWord_44 rfl ?_
        exact L_irZ C dX5_isWord_45 rfl (by decide) (rr4 (Or.inr ⟨p1, (Or.inr ⟨p13, p14, p15, p18⟩)⟩))
set_option maxRecDepth 4000 in
theorem k_X5_fail_0 {G : mG} {E : mE} {Q : mM → Prop} {μ : mM} (C : Cx G mX5_fail E) {x1 : Int32} {x2 : Int32} (rr1 : ¬ (μ 3 5) = (-1) → Q μ) (rr2 : (μ 3 5) = (-1) → Q (ms μ 3 5 (((8 : Int32) * x1) + x2))) : Wm G mX5_fail E (bm G mX5_fail E (pV Q)) μ 0 [(0, .ref (gb G + 3)), (1, .int x1), (2, .int x2)] [] := by
  refine L_aload_n C (i := 0) dX5_fail_0 rfl rfl ?_
  refine L_getI C dX5_fail_1 sh_3 fl_X5_42 rfl ?_
  refine L_iconst C (v := (-1)) dX5_fail_4 rfl ?_
  refine L_icmp_ne C (tgt := 18) dX5_fail_5 rfl (fun p1 => ?_) (fun p1 => ?_)
  · exact L_irV C dX5_fail_18 rfl (rr1 p1)
  · refine L_aload_n C (i := 0) dX5_fail_8 rfl rfl ?_
    refine L_bipush C (v := 8) dX5_fail_9 rfl ?_
    refine L_iload_n C (i := 1) dX5_fail_11 rfl rfl ?_
    refine L_imul C dX5_fail_12 ?_
    refine L_iload_n C (i := 2) dX5_fail_13 rfl rfl ?_
    refine L_iadd C dX5_fail_14 ?_
    refine L_putI C dX5_fail_15 sh_3 fl_X5_42 rfl rfl rfl ?_
    exact L_irV C dX5_fail_18 rfl (rr2 p1)
theorem a_X5_fail {G : mG} {Q : mM → Prop} {μ : mM} {x1 : Int32} {x2 : Int32} (rr1 : ¬ (μ 3 5) = (-1) → Q μ) (rr2 : (μ 3 5) = (-1) → Q (ms μ 3 5 (((8 : Int32) * x1) + x2))) : CtV G mX5_fail [.ref (gb G + 3), .int x1, .int x2] μ Q :=
  CtV.of pn_X5 (Nat.le_of_ble_eq_true rfl) (fun E C => k_X5_fail_0 C rr1 rr2)
set_option maxRecDepth 4000 in
theorem k_X5_takeWord_0 {G : mG} {E : mE} {Q : mM → Prop} {μ : mM} (C : Cx G mX5_takeWord E) {w1 : Nat} (cc1 : (μ 3 5) = (-1) → CtI G mX5_isWord [.ref (gb G + 3), .ref (G.2.2.2.2.1 w1)] μ (fun r μ' => Wm G mX5_takeWord E (bm G mX5_takeWord E (pV Q)) μ' 14 [(0, .ref (gb G + 3)), (1, .ref (G.2.2.2.2.1 w1))] [.int r])) (rr2 : ¬ (μ 3 5) = (-1) → Q μ) : Wm G mX5_takeWord E (bm G mX5_takeWord E (pV Q)) μ 0 [(0, .ref (gb G + 3)), (1, .ref (G.2.2.2.2.1 w1))] [] := by
  refine L_aload_n C (i := 0) dX5_takeWord_0 rfl rfl ?_
  refine L_getI C dX5_takeWord_1 sh_3 fl_X5_42 rfl ?_
  refine L_iconst C (v := (-1)) dX5_takeWord_4 rfl ?_
  refine L_icmp_eq C (tgt := 9) dX5_takeWord_5 rfl (fun p1 => ?_) (fun p1 => ?_)
  · refine L_aload_n C (i := 0) dX5_takeWord_9 rfl rfl ?_
    refine L_aload_n C (i := 1) dX5_takeWord_10 rfl rfl ?_
    refine L_invV1i C dX5_takeWord_11 sh_3 cal_X5_isWord lk_X5_111 ⟨Nat.le_of_ble_eq_true rfl, Nat.le_of_ble_eq_true rfl⟩ ⟨Nat.le_of_ble_eq_true rfl, Nat.le_of_ble_eq_true rfl⟩ (Nat.le_of_ble_eq_true rfl) ?_
    exact cc1 p1
  · exact L_irV C dX5_takeWord_8 rfl (rr2 p1)
theorem e_X5_takeWord {G : mG} {Q : mM → Prop} {μ : mM} {w1 : Nat} (k : ∀ E, Cx G mX5_takeWord E → Wm G mX5_takeWord E (bm G mX5_takeWord E (pV Q)) μ 0 [(0, .ref (gb G + 3)), (1, .ref (G.2.2.2.2.1 w1))] []) : CtV G mX5_takeWord [.ref (gb G + 3), .ref (G.2.2.2.2.1 w1)] μ Q := CtV.of pn_X5 (Nat.le_of_ble_eq_true rfl) k
set_option maxRecDepth 4000 in
theorem k_X5_takeWord_14 {G : mG} {E : mE} {Q : mM → Prop} {μ : mM} (C : Cx G mX5_takeWord E) {w1 : Nat} {sx0 : Int32} (ww1 : ¬ sx0 = 0 → w1 < 3) (cc2 : ¬ sx0 = 0 → CtV G mX5_skipBlanks [.ref (gb G + 3)] (ms μ 3 4 ((μ 3 4) + (nI (sLen.getD w1 0)))) (fun μ' => Wm G mX5_takeWord E (bm G mX5_takeWord E (pV Q)) μ' 44 [] [])) (cc3 : sx0 = 0 → CtV G mX5_fail [.ref (gb G + 3), .int (μ 3 4), .int 1] μ (fun μ' => Wm G mX5_takeWord E (bm G mX5_takeWord E (pV Q)) μ' 26 [] [])) : Wm G mX5_takeWord E (bm G mX5_takeWord E (pV Q)) μ 14 [(0, .ref (gb G + 3)), (1, .ref (G.2.2.2.2.1 w1))] [.int sx0] := by
  refine L_if_ne C (tgt := 27) dX5_takeWord_14 rfl (fun p1 => ?_) (fun p1 => ?_)
  · refine L_aload_n C (i := 0) dX5_takeWord_27 rfl rfl ?_
    refine L_dup C dX5_takeWord_28 rfl ?_
    refine L_getI C dX5_takeWord_29 sh_3 fl_X5_39 rfl ?_
    refine L_aload_n C (i := 1) dX5_takeWord_32 rfl rfl ?_
    refine L_strlen C dX5_takeWord_33 lk_X5_150 (Nat.le_of_ble_eq_true rfl) (Nat.le_of_ble_eq_true rfl) ⟨Nat.le_of_ble_eq_true rfl, Nat.le_of_ble_eq_true rfl⟩ (Nat.le_of_ble_eq_true rfl) (ww1 p1) ?_
    refine L_iadd C dX5_takeWord_36 ?_
    refine L_putI C dX5_takeWord_37 sh_3 fl_X5_39 rfl rfl rfl ?_
    refine L_aload_n C (i := 0) dX5_takeWord_40 rfl rfl ?_
    refine L_sub [] rfl ?_
    refine L_invV0v C dX5_takeWord_41 sh_3 cal_X5_skipBlanks lk_X5_52 ⟨Nat.le_of_ble_eq_true rfl, Nat.le_of_ble_eq_true rfl⟩ ⟨Nat.le_of_ble_eq_true rfl, Nat.le_of_ble_eq_true rfl⟩ (Nat.le_of_ble_eq_true rfl) ?_
    exact cc2 p1
  · refine L_aload_n C (i := 0) dX5_takeWord_17 rfl rfl ?_
    refine L_aload_n C (i := 0) dX5_takeWord_18 rfl rfl ?_
    refine L_getI C dX5_takeWord_19 sh_3 fl_X5_39 rfl ?_
    refine L_iconst C (v := 1) dX5_takeWord_22 rfl ?_
    refine L_sub [] rfl ?_
    refine L_invV2v C dX5_takeWord_23 sh_3 cal_X5_fail lk_X5_69 ⟨Nat.le_of_ble_eq_true rfl, Nat.le_of_ble_eq_true rfl⟩ ⟨Nat.le_of_ble_eq_true rfl, Nat.le_of_ble_eq_true rfl⟩ (Nat.le_of_ble_eq_true rfl) ?_
    exact cc3 p1
set_option maxRecDepth 4000 in
theorem k_X5_takeWord_26 {G : mG} {E : mE} {Q : mM → Prop} {μ : mM} (C : Cx G mX5_takeWord E)  (rr1 : Q μ) : Wm G mX5_takeWord E (bm G mX5_takeWord E (pV Q)) μ 26 [] [] := by
  exact L_irV C dX5_takeWord_26 rfl (rr1)
set_option maxRecDepth 4000 in
theorem k_X5_takeWord_44 {G : mG} {E : mE} {Q : mM → Prop} {μ : mM} (C : Cx G mX5_takeWord E)  (rr1 : Q μ) : Wm G mX5_takeWord E (bm G mX5_takeWord E (pV Q)) μ 44 [] [] := by
  exact L_irV C dX5_takeWord_44 rfl (rr1)
set_option maxRecDepth 4000 in
theorem k_X5_isDigit_0 {G : mG} {E : mE} {Q : Int32 → mM → Prop} {μ : mM} (C : Cx G mX5_isDigit E)  (rr1 : ((μ 3 3) ≤ (μ 3 4) ∨ (¬ (μ 3 3) ≤ (μ 3 4) ∧ ((μ 2 (μ 3 4).toNatClampNeg) < 48 ∨ (¬ (μ 2 (μ 3 4).toNatClampNeg) < 48 ∧ 57 < (μ 2 (μ 3 4).toNatClampNeg))))) → Q 0 μ) (tt2 : ¬ (μ 3 3) ≤ (μ 3 4) → (μ 3 2).toNatClampNeg = 2) (ss3 : ¬ (μ 3 3) ≤ (μ 3 4) → vp_in (μ 3 4) 200) (rr4 : ¬ (μ 3 3) ≤ (μ 3 4) → ¬ (μ 2 (μ 3 4).toNatClampNeg) < 48 → ¬ 57 < (μ 2 (μ 3 4).toNatClampNeg) → Q 1 μ) : Wm G mX5_isDigit E (bm G mX5_isDigit E (pI Q)) μ 0 [(0, .ref (gb G + 3))] [] := by
  refine L_aload_n C (i := 0) dX5_isDigit_0 rfl rfl ?_
  refine L_getI C dX5_isDigit_1 sh_3 fl_X5_39 rfl ?_
  refine L_aload_n C (i := 0) dX5_isDigit_4 rfl rfl ?_
  refine L_getI C dX5_isDigit_5 sh_3 fl_X5_38 rfl ?_
  refine L_icmp_ge C (tgt := 43) dX5_isDigit_8 rfl (fun p1 => ?_) (fun p1 => ?_)
  · refine L_iconst C (v := 0) dX5_isDigit_43 rfl ?_
    exact L_irZ C dX5_isDigit_44 rfl (by decide) (rr1 (Or.inl p1))
  · refine L_aload_n C (i := 0) dX5_isDigit_11 rfl rfl ?_
    refine L_getT C dX5_isDigit_12 sh_3 fl_X5_25 rfl (tt2 p1) ?_
    refine L_aload_n C (i := 0) dX5_isDigit_15 rfl rfl ?_
    refine L_getI C dX5_isDigit_16 sh_3 fl_X5_39 rfl ?_
    refine L_iald C dX5_isDigit_19 sh_2 (ss3 p1) ?_
    refine L_bipush C (v := 48) dX5_isDigit_20 rfl ?_
    refine L_icmp_lt C (tgt := 43) dX5_isDigit_22 rfl (fun p2 => ?_) (fun p2 => ?_)
    · refine L_iconst C (v := 0) dX5_isDigit_43 rfl ?_
      exact L_irZ C dX5_isDigit_44 rfl (by decide) (rr1 (Or.inr ⟨p1, (Or.inl p2)⟩))
    · refine L_aload_n C (i := 0) dX5_isDigit_25 rfl rfl ?_
      refine L_getT C dX5_isDigit_26 sh_3 fl_X5_25 rfl (tt2 p1) ?_
      refine L_aload_n C (i := 0) dX5_isDigit_29 rfl rfl ?_
      refine L_getI C dX5_isDigit_30 sh_3 fl_X5_39 rfl ?_
      refine L_iald C dX5_isDigit_33 sh_2 (ss3 p1) ?_
      refine L_bipush C (v := 57) dX5_isDigit_34 rfl ?_
      refine L_icmp_gt C (tgt := 43) dX5_isDigit_36 rfl (fun p3 => ?_) (fun p3 => ?_)
      · refine L_iconst C (v := 0) dX5_isDigit_43 rfl ?_
        exact L_irZ C dX5_isDigit_44 rfl (by decide) (rr1 (Or.inr ⟨p1, (Or.inr ⟨p2, p3⟩)⟩))
      · refine L_iconst C (v := 1) dX5_isDigit_39 rfl ?_
        refine L_goto C (tgt := 44) dX5_isDigit_40 rfl ?_
        exact L_irZ C dX5_isDigit_44 rfl (by decide) (rr4 p1 p2 p3)
theorem a_X5_isDigit {G : mG} {Q : Int32 → mM → Prop} {μ : mM}  (rr1 : ((μ 3 3) ≤ (μ 3 4) ∨ (¬ (μ 3 3) ≤ (μ 3 4) ∧ ((μ 2 (μ 3 4).toNatClampNeg) < 48 ∨ (¬ (μ 2 (μ 3 4).toNatClampNeg) < 48 ∧ 57 < (μ 2 (μ 3 4).toNatClampNeg))))) → Q 0 μ) (tt2 : ¬ (μ 3 3) ≤ (μ 3 4) → (μ 3 2).toNatClampNeg = 2) (ss3 : ¬ (μ 3 3) ≤ (μ 3 4) → vp_in (μ 3 4) 200) (rr4 : ¬ (μ 3 3) ≤ (μ 3 4) → ¬ (μ 2 (μ 3 4).toNatClampNeg) < 48 → ¬ 57 < (μ 2 (μ 3 4).toNatClampNeg) → Q 1 μ) : CtI G mX5_isDigit [.ref (gb G + 3)] μ Q :=
  CtI.of pn_X5 (Nat.le_of_ble_eq_true rfl) (fun E C => k_X5_isDigit_0 C rr1 tt2 ss3 rr4)
set_option maxRecDepth 4000 in
theorem k_X5_takeNumber_0 {G : mG} {E : mE} {Q : Int32 → mM → Prop} {μ : mM} (C : Cx G mX5_takeNumber E) {x1 : Int32} {x2 : Int32} (tt1 : (μ 3 5) = (-1) → ¬ (μ 3 3) ≤ (μ 3 4) → (μ 3 2).toNatClampNeg = 2) (ss2 : (μ 3 5) = (-1) → ¬ (μ 3 3) ≤ (μ 3 4) → vp_in (μ 3 4) 200) (cc3 : (μ 3 5) = (-1) → ((μ 3 3) ≤ (μ 3 4) ∨ (¬ (μ 3 3) ≤ (μ 3 4) ∧ ((μ 2 (μ 3 4).toNatClampNeg) < 48 ∨ (¬ (μ 2 (μ 3 4).toNatClampNeg) < 48 ∧ 57 < (μ 2 (μ 3 4).toNatClampNeg))))) → CtV G mX5_fail [.ref (gb G + 3), .int (μ 3 4), .int 1] μ (fun μ' => Wm G mX5_takeNumber E (bm G mX5_takeNumber E (pI Q)) μ' 26 [] [])) (kk4 : (μ 3 5) = (-1) → ¬ (μ 3 3) ≤ (μ 3 4) → ¬ (μ 2 (μ 3 4).toNatClampNeg) < 48 → ¬ 57 < (μ 2 (μ 3 4).toNatClampNeg) → Wm G mX5_takeNumber E (bm G mX5_takeNumber E (pI Q)) μ 36 [(0, .ref (gb G + 3)), (1, .int x1), (2, .int x2), (3, .int (μ 3 4)), (4, .int 0)] []) (rr5 : ¬ (μ 3 5) = (-1) → Q 0 μ) : Wm G mX5_takeNumber E (bm G mX5_takeNumber E (pI Q)) μ 0 [(0, .ref (gb G + 3)), (1, .int x1), (2, .int x2)] [] := by
  refine L_aload_n C (i := 0) dX5_takeNumber_0 rfl rfl ?_
  refine L_getI C dX5_takeNumber_1 sh_3 fl_X5_42 rfl ?_
  refine L_iconst C (v := (-1)) dX5_takeNumber_4 rfl ?_
  refine L_icmp_eq C (tgt := 10) dX5_takeNumber_5 rfl (fun p1 => ?_) (fun p1 => ?_)
  · refine L_aload_n C (i := 0) dX5_takeNumber_10 rfl rfl ?_
    refine L_invV0i C dX5_takeNumber_11 sh_3 cal_X5_isDigit lk_X5_98 ⟨Nat.le_of_ble_eq_true rfl, Nat.le_of_ble_eq_true rfl⟩ ⟨Nat.le_of_ble_eq_true rfl, Nat.le_of_ble_eq_true rfl⟩ (Nat.le_of_ble_eq_true rfl) (a_X5_isDigit (fun p2 => ?_) (fun p3 => tt1 p1 p3) (fun p4 => ss2 p1 p4) (fun p5 p6 p7 => ?_))
    · refine L_if_ne C (tgt := 28) dX5_takeNumber_14 rfl (fun p8 => absurd p8 (by decide)) (fun p8 => ?_)
      refine L_aload_n C (i := 0) dX5_takeNumber_17 rfl rfl ?_
      refine L_aload_n C (i := 0) dX5_takeNumber_18 rfl rfl ?_
      refine L_getI C dX5_takeNumber_19 sh_3 fl_X5_39 rfl ?_
      refine L_iconst C (v := 1) dX5_takeNumber_22 rfl ?_
      refine L_sub [] rfl ?_
      refine L_invV2v C dX5_takeNumber_23 sh_3 cal_X5_fail lk_X5_69 ⟨Nat.le_of_ble_eq_true rfl, Nat.le_of_ble_eq_true rfl⟩ ⟨Nat.le_of_ble_eq_true rfl, Nat.le_of_ble_eq_true rfl⟩ (Nat.le_of_ble_eq_true rfl) ?_
      exact cc3 p1 p2
    · refine L_if_ne C (tgt := 28) dX5_takeNumber_14 rfl (fun p9 => ?_) (fun p9 => absurd p9 (by decide))
      refine L_aload_n C (i := 0) dX5_takeNumber_28 rfl rfl ?_
      refine L_getI C dX5_takeNumber_29 sh_3 fl_X5_39 rfl ?_
      refine L_istore_n C (i := 3) dX5_takeNumber_32 rfl (Nat.le_of_ble_eq_true rfl) ?_
      refine L_iconst C (v := 0) dX5_takeNumber_33 rfl ?_
      refine L_istore C dX5_takeNumber_34 (Nat.le_of_ble_eq_true rfl) ?_
      exact kk4 p1 p5 p6 p7
  · refine L_iconst C (v := 0) dX5_takeNumber_8 rfl ?_
    exact L_irI C dX5_takeNumber_9 rfl (rr5 p1)
theorem e_X5_takeNumber {G : mG} {Q : Int32 → mM → Prop} {μ : mM} {x1 : Int32} {x2 : Int32} (k : ∀ E, Cx G mX5_takeNumber E → Wm G mX5_takeNumber E (bm G mX5_takeNumber E (pI Q)) μ 0 [(0, .ref (gb G + 3)), (1, .int x1), (2, .int x2)] []) : CtI G mX5_takeNumber [.ref (gb G + 3), .int x1, .int x2] μ Q := CtI.of pn_X5 (Nat.le_of_ble_eq_true rfl) k
set_option maxRecDepth 4000 in
theorem k_X5_takeNumber_26 {G : mG} {E : mE} {Q : Int32 → mM → Prop} {μ : mM} (C : Cx G mX5_takeNumber E)  (rr1 : Q 0 μ) : Wm G mX5_takeNumber E (bm G mX5_takeNumber E (pI Q)) μ 26 [] [] := by
  refine L_iconst C (v := 0) dX5_takeNumber_26 rfl ?_
  exact L_irI C dX5_takeNumber_27 rfl (rr1)
set_option maxRecDepth 4000 in
theorem k_X5_takeNumber_36 {G : mG} {E : mE} {Q : Int32 → mM → Prop} {μ : mM} (C : Cx G mX5_takeNumber E) {x1 : Int32} {x2 : Int32} {x3 : Int32} {x4 : Int32} (kk1 : ((μ 3 3) ≤ (μ 3 4) ∨ (¬ (μ 3 3) ≤ (μ 3 4) ∧ ((μ 3 3) ≤ (μ 3 4) ∨ (¬ (μ 3 3) ≤ (μ 3 4) ∧ ((μ 2 (μ 3 4).toNatClampNeg) < 48 ∨ (¬ (μ 2 (μ 3 4).toNatClampNeg) < 48 ∧ 57 < (μ 2 (μ 3 4).toNatClampNeg))))))) → Wm G mX5_takeNumber E (bm G mX5_takeNumber E (pI Q)) μ 93 [(0, .ref (gb G + 3)), (1, .int x1), (2, .int x2), (3, .int x3), (4, .int x4)] []) (tt2 : ¬ (μ 3 3) ≤ (μ 3 4) → (¬ (μ 3 3) ≤ (μ 3 4) ∨ (¬ (μ 3 3) ≤ (μ 3 4) ∧ ¬ (μ 2 (μ 3 4).toNatClampNeg) < 48 ∧ ¬ 57 < (μ 2 (μ 3 4).toNatClampNeg))) → (μ 3 2).toNatClampNeg = 2) (ss3 : ¬ (μ 3 3) ≤ (μ 3 4) → (¬ (μ 3 3) ≤ (μ 3 4) ∨ (¬ (μ 3 3) ≤ (μ 3 4) ∧ ¬ (μ 2 (μ 3 4).toNatClampNeg) < 48 ∧ ¬ 57 < (μ 2 (μ 3 4).toNatClampNeg))) → vp_in (μ 3 4) 200) (kk4 : ¬ (μ 3 3) ≤ (μ 3 4) → ¬ (μ 3 3) ≤ (μ 3 4) → ¬ (μ 2 (μ 3 4).toNatClampNeg) < 48 → ¬ 57 < (μ 2 (μ 3 4).toNatClampNeg) → Wm G mX5_takeNumber E (bm G mX5_takeNumber E (pI Q)) (ms μ 3 4 ((μ 3 4) + (1 : Int32))) 36 [(0, .ref (gb G + 3)), (1, .int x1), (2, .int x2), (3, .int x3), (4, .int (if (((x4 * (10 : Int32)) + (μ 2 (μ 3 4).toNatClampNeg)) - (48 : Int32)) < 1000 then (((x4 * (10 : Int32)) + (μ 2 (μ 3 4).toNatClampNeg)) - (48 : Int32)) else 1000))] []) : Wm G mX5_takeNumber E (bm G mX5_takeNumber E (pI Q)) μ 36 [(0, .ref (gb G + 3)), (1, .int x1), (2, .int x2), (3, .int x3), (4, .int x4)] [] := by
  refine L_aload_n C (i := 0) dX5_takeNumber_36 rfl rfl ?_
  refine L_getI C dX5_takeNumber_37 sh_3 fl_X5_39 rfl ?_
  refine L_aload_n C (i := 0) dX5_takeNumber_40 rfl rfl ?_
  refine L_getI C dX5_takeNumber_41 sh_3 fl_X5_38 rfl ?_
  refine L_icmp_ge C (tgt := 93) dX5_takeNumber_44 rfl (fun p1 => ?_) (fun p1 => ?_)
  · exact kk1 (Or.inl p1)
  · refine L_aload_n C (i := 0) dX5_takeNumber_47 rfl rfl ?_
    refine L_invV0i C dX5_takeNumber_48 sh_3 cal_X5_isDigit lk_X5_98 ⟨Nat.le_of_ble_eq_true rfl, Nat.le_of_ble_eq_true rfl⟩ ⟨Nat.le_of_ble_eq_true rfl, Nat.le_of_ble_eq_true rfl⟩ (Nat.le_of_ble_eq_true rfl) (a_X5_isDigit (fun p2 => ?_) (fun p3 => tt2 p1 (Or.inl p3)) (fun p4 => ss3 p1 (Or.inl p4)) (fun p5 p6 p7 => ?_))
    · refine L_if_eq C (tgt := 93) dX5_takeNumber_51 rfl (fun p8 => ?_) (fun p8 => absurd p8 (by decide))
      exact kk1 (Or.inr ⟨p1, p2⟩)
    · refine L_if_eq C (tgt := 93) dX5_takeNumber_51 rfl (fun p9 => absurd p9 (by decide)) (fun p9 => ?_)
      refine L_sipush C (v := 1000) dX5_takeNumber_54 rfl ?_
      refine L_iload C dX5_takeNumber_57 rfl ?_
      refine L_bipush C (v := 10) dX5_takeNumber_59 rfl ?_
      refine L_imul C dX5_takeNumber_61 ?_
      refine L_aload_n C (i := 0) dX5_takeNumber_62 rfl rfl ?_
      refine L_getT C dX5_takeNumber_63 sh_3 fl_X5_25 rfl (tt2 p1 (Or.inr ⟨p5, p6, p7⟩)) ?_
      refine L_aload_n C (i := 0) dX5_takeNumber_66 rfl rfl ?_
      refine L_getI C dX5_takeNumber_67 sh_3 fl_X5_39 rfl ?_
      refine L_iald C dX5_takeNumber_70 sh_2 (ss3 p1 (Or.inr ⟨p5, p6, p7⟩)) ?_
      refine L_iadd C dX5_takeNumber_71 ?_
      refine L_bipush C (v := 48) dX5_takeNumber_72 rfl ?_
      refine L_isub C dX5_takeNumber_74 ?_
      refine L_min C dX5_takeNumber_75 lk_X5_124 mmin_stat math_ini mmin_code (Nat.le_of_ble_eq_true rfl) (Nat.le_of_ble_eq_true rfl) (Nat.le_of_ble_eq_true rfl) ⟨Nat.le_of_ble_eq_true rfl, Nat.le_of_ble_eq_true rfl⟩ ?_
      refine L_istore C dX5_takeNumber_78 (Nat.le_of_ble_eq_true rfl) ?_
      refine L_aload_n C (i := 0) dX5_takeNumber_80 rfl rfl ?_
      refine L_dup C dX5_takeNumber_81 rfl ?_
      refine L_getI C dX5_takeNumber_82 sh_3 fl_X5_39 rfl ?_
      refine L_iconst C (v := 1) dX5_takeNumber_85 rfl ?_
      refine L_iadd C dX5_takeNumber_86 ?_
      refine L_putI C dX5_takeNumber_87 sh_3 fl_X5_39 rfl rfl rfl ?_
      refine L_goto C (tgt := 36) dX5_takeNumber_90 rfl ?_
      exact kk4 p1 p5 p6 p7
set_option maxRecDepth 4000 in
theorem k_X5_takeNumber_93 {G : mG} {E : mE} {Q : Int32 → mM → Prop} {μ : mM} (C : Cx G mX5_takeNumber E) {x1 : Int32} {x2 : Int32} {x3 : Int32} {x4 : Int32} (cc1 : CtV G mX5_skipBlanks [.ref (gb G + 3)] μ (fun μ' => Wm G mX5_takeNumber E (bm G mX5_takeNumber E (pI Q)) μ' 97 [(0, .ref (gb G + 3)), (1, .int x1), (2, .int x2), (3, .int x3), (4, .int x4)] [])) : Wm G mX5_takeNumber E (bm G mX5_takeNumber E (pI Q)) μ 93 [(0, .ref (gb G + 3)), (1, .int x1), (2, .int x2), (3, .int x3), (4, .int x4)] [] := by
  refine L_aload_n C (i := 0) dX5_takeNumber_93 rfl rfl ?_
  refine L_invV0v C dX5_takeNumber_94 sh_3 cal_X5_skipBlanks lk_X5_52 ⟨Nat.le_of_ble_eq_true rfl, Nat.le_of_ble_eq_true rfl⟩ ⟨Nat.le_of_ble_eq_true rfl, Nat.le_of_ble_eq_true rfl⟩ (Nat.le_of_ble_eq_true rfl) ?_
  exact cc1
set_option maxRecDepth 4000 in
theorem k_X5_takeNumber_97 {G : mG} {E : mE} {Q : Int32 → mM → Prop} {μ : mM} (C : Cx G mX5_takeNumber E) {x1 : Int32} {x2 : Int32} {x3 : Int32} {x4 : Int32} (kk1 : (x4 < x1 ∨ (¬ x4 < x1 ∧ ¬ x4 ≤ x2)) → Wm G mX5_takeNumber E (bm G mX5_takeNumber E (pI Q)) μ 109 [(0, .ref (gb G + 3)), (3, .int x3)] []) (rr2 : ¬ x4 < x1 → x4 ≤ x2 → Q x4 μ) : Wm G mX5_takeNumber E (bm G mX5_takeNumber E (pI Q)) μ 97 [(0, .ref (gb G + 3)), (1, .int x1), (2, .int x2), (3, .int x3), (4, .int x4)] [] := by
  refine L_iload C dX5_takeNumber_97 rfl ?_
  refine L_iload_n C (i := 1) dX5_takeNumber_99 rfl rfl ?_
  refine L_icmp_lt C (tgt := 109) dX5_takeNumber_100 rfl (fun p1 => ?_) (fun p1 => ?_)
  · refine L_sub [0, 3] rfl ?_
    exact kk1 (Or.inl p1)
  · refine L_iload C dX5_takeNumber_103 rfl ?_
    refine L_iload_n C (i := 2) dX5_takeNumber_105 rfl rfl ?_
    refine L_icmp_le C (tgt := 117) dX5_takeNumber_106 rfl (fun p2 => ?_) (fun p2 => ?_)
    · refine L_iload C dX5_takeNumber_117 rfl ?_
      exact L_irI C dX5_takeNumber_119 rfl (rr2 p1 p2)
    · refine L_sub [0, 3] rfl ?_
      exact kk1 (Or.inr ⟨p1, p2⟩)
set_option maxRecDepth 4000 in
theorem k_X5_takeNumber_109 {G : mG} {E : mE} {Q : Int32 → mM → Prop} {μ : mM} (C : Cx G mX5_takeNumber E) {x3 : Int32} (cc1 : CtV G mX5_fail [.ref (gb G + 3), .int x3, .int 2] μ (fun μ' => Wm G mX5_takeNumber E (bm G mX5_takeNumber E (pI Q)) μ' 115 [] [])) : Wm G mX5_takeNumber E (bm G mX5_takeNumber E (pI Q)) μ 109 [(0, .ref (gb G + 3)), (3, .int x3)] [] := by
  refine L_aload_n C (i := 0) dX5_takeNumber_109 rfl rfl ?_
  refine L_iload_n C (i := 3) dX5_takeNumber_110 rfl rfl ?_
  refine L_iconst C (v := 2) dX5_takeNumber_111 rfl ?_
  refine L_sub [] rfl ?_
  refine L_invV2v C dX5_takeNumber_112 sh_3 cal_X5_fail lk_X5_69 ⟨Nat.le_of_ble_eq_true rfl, Nat.le_of_ble_eq_true rfl⟩ ⟨Nat.le_of_ble_eq_true rfl, Nat.le_of_ble_eq_true rfl⟩ (Nat.le_of_ble_eq_true rfl) ?_
  exact cc1
set_option maxRecDepth 4000 in
theorem k_X5_takeNumber_115 {G : mG} {E : mE} {Q : Int32 → mM → Prop} {μ : mM} (C : Cx G mX5_takeNumber E)  (rr1 : Q 0 μ) : Wm G mX5_takeNumber E (bm G mX5_takeNumber E (pI Q)) μ 115 [] [] := by
  refine L_iconst C (v := 0) dX5_takeNumber_115 rfl ?_
  exact L_irI C dX5_takeNumber_116 rfl (rr1)
set_option maxRecDepth 4000 in
theorem k_X4_addColumn_0 {G : mG} {E : mE} {Q : mM → Prop} {μ : mM} (C : Cx G mX4_addColumn E) {c0 : Nat} (h0 : sh c0 = (0, 3)) {x1 : Int32} (rr1 : 8 ≤ (μ c0 0) → Q μ) (ss2 : ¬ 8 ≤ (μ c0 0) → vp_in (μ c0 0) 8) (rr3 : ¬ 8 ≤ (μ c0 0) → Q (ms (ms (ms μ (c0 + 1) (μ c0 0).toNatClampNeg x1) c0 3 (((ms μ (c0 + 1) (μ c0 0).toNatClampNeg x1) c0 3) ||| ((((1 : Int32) <<< (x1 &&& 31)) - (1 : Int32)) <<< (((4 : Int32) * ((ms μ (c0 + 1) (μ c0 0).toNatClampNeg x1) c0 0)) &&& 31)))) c0 0 (((ms (ms μ (c0 + 1) (μ c0 0).toNatClampNeg x1) c0 3 (((ms μ (c0 + 1) (μ c0 0).toNatClampNeg x1) c0 3) ||| ((((1 : Int32) <<< (x1 &&& 31)) - (1 : Int32)) <<< (((4 : Int32) * ((ms μ (c0 + 1) (μ c0 0).toNatClampNeg x1) c0 0)) &&& 31)))) c0 0) + (1 : Int32)))) : Wm G mX4_addColumn E (bm G mX4_addColumn E (pV Q)) μ 0 [(0, .ref (gb G + c0)), (1, .int x1)] [] := by
  refine L_aload_n C (i := 0) dX4_addColumn_0 rfl rfl ?_
  refine L_getI C dX4_addColumn_1 h0 fl_X4_21 rfl ?_
  refine L_bipush C (v := 8) dX4_addColumn_4 rfl ?_
  refine L_icmp_ge C (tgt := 50) dX4_addColumn_6 rfl (fun p1 => ?_) (fun p1 => ?_)
  · exact L_irV C dX4_addColumn_50 rfl (rr1 p1)
  · refine L_aload_n C (i := 0) dX4_addColumn_9 rfl rfl ?_
    refine L_getC C (c' := (c0 + 1)) dX4_addColumn_10 h0 fl_X4_9 rfl rfl ?_
    refine L_aload_n C (i := 0) dX4_addColumn_13 rfl rfl ?_
    refine L_getI C dX4_addColumn_14 h0 fl_X4_21 rfl ?_
    refine L_iload_n C (i := 1) dX4_addColumn_17 rfl rfl ?_
    refine L_iast C dX4_addColumn_18 (shd_3_1 h0) (ss2 p1) ?_
    refine L_aload_n C (i := 0) dX4_addColumn_19 rfl rfl ?_
    refine L_dup C dX4_addColumn_20 rfl ?_
    refine L_getI C dX4_addColumn_21 h0 fl_X4_31 rfl ?_
    refine L_iconst C (v := 1) dX4_addColumn_24 rfl ?_
    refine L_iload_n C (i := 1) dX4_addColumn_25 rfl rfl ?_
    refine L_ishl C dX4_addColumn_26 ?_
    refine L_iconst C (v := 1) dX4_addColumn_27 rfl ?_
    refine L_isub C dX4_addColumn_28 ?_
    refine L_iconst C (v := 4) dX4_addColumn_29 rfl ?_
    refine L_aload_n C (i := 0) dX4_addColumn_30 rfl rfl ?_
    refine L_getI C dX4_addColumn_31 h0 fl_X4_21 rfl ?_
    refine L_imul C dX4_addColumn_34 ?_
    refine L_ishl C dX4_addColumn_35 ?_
    refine L_ior C dX4_addColumn_36 ?_
    refine L_putI C dX4_addColumn_37 h0 fl_X4_31 rfl rfl rfl ?_
    refine L_aload_n C (i := 0) dX4_addColumn_40 rfl rfl ?_
    refine L_dup C dX4_addColumn_41 rfl ?_
    refine L_getI C dX4_addColumn_42 h0 fl_X4_21 rfl ?_
    refine L_iconst C (v := 1) dX4_addColumn_45 rfl ?_
    refine L_iadd C dX4_addColumn_46 ?_
    refine L_putI C dX4_addColumn_47 h0 fl_X4_21 rfl rfl rfl ?_
    exact L_irV C dX4_addColumn_50 rfl (rr3 p1)
theorem a_X4_addColumn {G : mG} {Q : mM → Prop} {μ : mM} {c0 : Nat} (h0 : sh c0 = (0, 3)) {x1 : Int32} (rr1 : 8 ≤ (μ c0 0) → Q μ) (ss2 : ¬ 8 ≤ (μ c0 0) → vp_in (μ c0 0) 8) (rr3 : ¬ 8 ≤ (μ c0 0) → Q (ms (ms (ms μ (c0 + 1) (μ c0 0).toNatClampNeg x1) c0 3 (((ms μ (c0 + 1) (μ c0 0).toNatClampNeg x1) c0 3) ||| ((((1 : Int32) <<< (x1 &&& 31)) - (1 : Int32)) <<< (((4 : Int32) * ((ms μ (c0 + 1) (μ c0 0).toNatClampNeg x1) c0 0)) &&& 31)))) c0 0 (((ms (ms μ (c0 + 1) (μ c0 0).toNatClampNeg x1) c0 3 (((ms μ (c0 + 1) (μ c0 0).toNatClampNeg x1) c0 3) ||| ((((1 : Int32) <<< (x1 &&& 31)) - (1 : Int32)) <<< (((4 : Int32) * ((ms μ (c0 + 1) (μ c0 0).toNatClampNeg x1) c0 0)) &&& 31)))) c0 0) + (1 : Int32)))) : CtV G mX4_addColumn [.ref (gb G + c0), .int x1] μ Q :=
  CtV.of pn_X4 (Nat.le_of_ble_eq_true rfl) (fun E C => k_X4_addColumn_0 C h0 rr1 ss2 rr3)
set_option maxRecDepth 4000 in
theorem k_X5_readLevels_0 {G : mG} {E : mE} {Q : mM → Prop} {μ : mM} (C : Cx G mX5_readLevels E)  (cc1 : CtV G mX5_takeWord [.ref (gb G + 3), .ref (G.2.2.2.2.1 0)] μ (fun μ' => Wm G mX5_readLevels E (bm G mX5_readLevels E (pV Q)) μ' 6 [(0, .ref (gb G + 3))] [])) : Wm G mX5_readLevels E (bm G mX5_readLevels E (pV Q)) μ 0 [(0, .ref (gb G + 3))] [] := by
  refine L_aload_n C (i := 0) dX5_readLevels_0 rfl rfl ?_
  refine L_ldcS C (i := 0) dX5_readLevels_1 rfl rfl ?_
  refine L_invV1v C dX5_readLevels_3 sh_3 cal_X5_takeWord lk_X5_94 ⟨Nat.le_of_ble_eq_true rfl, Nat.le_of_ble_eq_true rfl⟩ ⟨Nat.le_of_ble_eq_true rfl, Nat.le_of_ble_eq_true rfl⟩ (Nat.le_of_ble_eq_true rfl) ?_
  exact cc1
theorem e_X5_readLevels {G : mG} {Q : mM → Prop} {μ : mM}  (k : ∀ E, Cx G mX5_readLevels E → Wm G mX5_readLevels E (bm G mX5_readLevels E (pV Q)) μ 0 [(0, .ref (gb G + 3))] []) : CtV G mX5_readLevels [.ref (gb G + 3)] μ Q := CtV.of pn_X5 (Nat.le_of_ble_eq_true rfl) k
set_option maxRecDepth 4000 in
theorem k_X5_readLevels_6 {G : mG} {E : mE} {B : mB} {μ : mM} (C : Cx G mX5_readLevels E)  (kk1 : Wm G mX5_readLevels E B μ 8 [(0, .ref (gb G + 3)), (1, .int 0)] []) : Wm G mX5_readLevels E B μ 6 [(0, .ref (gb G + 3))] [] := by
  refine L_iconst C (v := 0) dX5_readLevels_6 rfl ?_
  refine L_istore_n C (i := 1) dX5_readLevels_7 rfl (Nat.le_of_ble_eq_true rfl) ?_
  exact kk1
set_option maxRecDepth 4000 in
theorem k_X5_readLevels_8 {G : mG} {E : mE} {Q : mM → Prop} {μ : mM} (C : Cx G mX5_readLevels E) {x1 : Int32} (rr1 : (¬ (μ 3 5) = (-1) ∨ ((μ 3 5) = (-1) ∧ (8 < x1 ∨ (¬ 8 < x1 ∧ ¬ x1 < 2 ∧ ((μ 3 3) ≤ (μ 3 4) ∨ (¬ (μ 3 3) ≤ (μ 3 4) ∧ ((μ 2 (μ 3 4).toNatClampNeg) < 48 ∨ (¬ (μ 2 (μ 3 4).toNatClampNeg) < 48 ∧ 57 < (μ 2 (μ 3 4).toNatClampNeg))))))))) → Q μ) (kk2 : (μ 3 5) = (-1) → ¬ 8 < x1 → (x1 < 2 ∨ (¬ x1 < 2 ∧ ¬ (μ 3 3) ≤ (μ 3 4) ∧ ¬ (μ 2 (μ 3 4).toNatClampNeg) < 48 ∧ ¬ 57 < (μ 2 (μ 3 4).toNatClampNeg))) → Wm G mX5_readLevels E (bm G mX5_readLevels E (pV Q)) μ 34 [(0, .ref (gb G + 3)), (1, .int x1)] []) (tt3 : (μ 3 5) = (-1) → ¬ 8 < x1 → ¬ x1 < 2 → ¬ (μ 3 3) ≤ (μ 3 4) → (μ 3 2).toNatClampNeg = 2) (ss4 : (μ 3 5) = (-1) → ¬ 8 < x1 → ¬ x1 < 2 → ¬ (μ 3 3) ≤ (μ 3 4) → vp_in (μ 3 4) 200) : Wm G mX5_readLevels E (bm G mX5_readLevels E (pV Q)) μ 8 [(0, .ref (gb G + 3)), (1, .int x1)] [] := by
  refine L_aload_n C (i := 0) dX5_readLevels_8 rfl rfl ?_
  refine L_getI C dX5_readLevels_9 sh_3 fl_X5_42 rfl ?_
  refine L_iconst C (v := (-1)) dX5_readLevels_12 rfl ?_
  refine L_icmp_ne C (tgt := 80) dX5_readLevels_13 rfl (fun p1 => ?_) (fun p1 => ?_)
  · exact L_irV C dX5_readLevels_80 rfl (rr1 (Or.inl p1))
  · refine L_iload_n C (i := 1) dX5_readLevels_16 rfl rfl ?_
    refine L_bipush C (v := 8) dX5_readLevels_17 rfl ?_
    refine L_icmp_gt C (tgt := 80) dX5_readLevels_19 rfl (fun p2 => ?_) (fun p2 => ?_)
    · exact L_irV C dX5_readLevels_80 rfl (rr1 (Or.inr ⟨p1, (Or.inl p2)⟩))
    · refine L_iload_n C (i := 1) dX5_readLevels_22 rfl rfl ?_
      refine L_iconst C (v := 2) dX5_readLevels_23 rfl ?_
      refine L_icmp_lt C (tgt := 34) dX5_readLevels_24 rfl (fun p3 => ?_) (fun p3 => ?_)
      · exact kk2 p1 p2 (Or.inl p3)
      · refine L_aload_n C (i := 0) dX5_readLevels_27 rfl rfl ?_
        refine L_invV0i C dX5_readLevels_28 sh_3 cal_X5_isDigit lk_X5_98 ⟨Nat.le_of_ble_eq_true rfl, Nat.le_of_ble_eq_true rfl⟩ ⟨Nat.le_of_ble_eq_true rfl, Nat.le_of_ble_eq_true rfl⟩ (Nat.le_of_ble_eq_true rfl) (a_X5_isDigit (fun p4 => ?_) (fun p5 => tt3 p1 p2 p3 p5) (fun p6 => ss4 p1 p2 p3 p6) (fun p7 p8 p9 => ?_))
        · refine L_if_eq C (tgt := 80) dX5_readLevels_31 rfl (fun p10 => ?_) (fun p10 => absurd p10 (by decide))
          exact L_irV C dX5_readLevels_80 rfl (rr1 (Or.inr ⟨p1, (Or.inr ⟨p2, p3, p4⟩)⟩))
        · refine L_if_eq C (tgt := 80) dX5_readLevels_31 rfl (fun p11 => absurd p11 (by decide)) (fun p11 => ?_)
          exact kk2 p1 p2 (Or.inr ⟨p3, p7, p8, p9⟩)
set_option maxRecDepth 4000 in
theorem k_X5_readLevels_34 {G : mG} {E : mE} {Q : mM → Prop} {μ : mM} (C : Cx G mX5_readLevels E) {x1 : Int32} (cc1 : CtI G mX5_takeNumber [.ref (gb G + 3), .int 2, .int 4] μ (fun r μ' => Wm G mX5_readLevels E (bm G mX5_readLevels E (pV Q)) μ' 45 [(0, .ref (gb G + 3)), (1, .int x1), (2, .int (μ 3 4))] [.int r])) : Wm G mX5_readLevels E (bm G mX5_readLevels E (pV Q)) μ 34 [(0, .ref (gb G + 3)), (1, .int x1)] [] := by
  refine L_aload_n C (i := 0) dX5_readLevels_34 rfl rfl ?_
  refine L_getI C dX5_readLevels_35 sh_3 fl_X5_39 rfl ?_
  refine L_istore_n C (i := 2) dX5_readLevels_38 rfl (Nat.le_of_ble_eq_true rfl) ?_
  refine L_aload_n C (i := 0) dX5_readLevels_39 rfl rfl ?_
  refine L_iconst C (v := 2) dX5_readLevels_40 rfl ?_
  refine L_iconst C (v := 4) dX5_readLevels_41 rfl ?_
  refine L_invV2i C dX5_readLevels_42 sh_3 cal_X5_takeNumber lk_X5_102 ⟨Nat.le_of_ble_eq_true rfl, Nat.le_of_ble_eq_true rfl⟩ ⟨Nat.le_of_ble_eq_true rfl, Nat.le_of_ble_eq_true rfl⟩ (Nat.le_of_ble_eq_true rfl) ?_
  exact cc1
set_option maxRecDepth 4000 in
theorem k_X5_readLevels_45 {G : mG} {E : mE} {Q : mM → Prop} {μ : mM} (C : Cx G mX5_readLevels E) {x1 : Int32} {x2 : Int32} {sx0 : Int32} (kk1 : ¬ x1 = 8 → Wm G mX5_readLevels E (bm G mX5_readLevels E (pV Q)) μ 58 [(0, .ref (gb G + 3)), (1, .int x1), (3, .int sx0)] []) (cc2 : x1 = 8 → CtV G mX5_fail [.ref (gb G + 3), .int x2, .int 3] μ (fun μ' => Wm G mX5_readLevels E (bm G mX5_readLevels E (pV Q)) μ' 58 [(0, .ref (gb G + 3)), (1, .int x1), (3, .int sx0)] [])) : Wm G mX5_readLevels E (bm G mX5_readLevels E (pV Q)) μ 45 [(0, .ref (gb G + 3)), (1, .int x1), (2, .int x2)] [.int sx0] := by
  refine L_istore_n C (i := 3) dX5_readLevels_45 rfl (Nat.le_of_ble_eq_true rfl) ?_
  refine L_iload_n C (i := 1) dX5_readLevels_46 rfl rfl ?_
  refine L_bipush C (v := 8) dX5_readLevels_47 rfl ?_
  refine L_icmp_ne C (tgt := 58) dX5_readLevels_49 rfl (fun p1 => ?_) (fun p1 => ?_)
  · refine L_sub [0, 1, 3] rfl ?_
    exact kk1 p1
  · refine L_aload_n C (i := 0) dX5_readLevels_52 rfl rfl ?_
    refine L_iload_n C (i := 2) dX5_readLevels_53 rfl rfl ?_
    refine L_iconst C (v := 3) dX5_readLevels_54 rfl ?_
    refine L_sub [0, 1, 3] rfl ?_
    refine L_invV2v C dX5_readLevels_55 sh_3 cal_X5_fail lk_X5_69 ⟨Nat.le_of_ble_eq_true rfl, Nat.le_of_ble_eq_true rfl⟩ ⟨Nat.le_of_ble_eq_true rfl, Nat.le_of_ble_eq_true rfl⟩ (Nat.le_of_ble_eq_true rfl) ?_
    exact cc2 p1
set_option maxRecDepth 4000 in
theorem k_X5_readLevels_58 {G : mG} {E : mE} {Q : mM → Prop} {μ : mM} (C : Cx G mX5_readLevels E) {x1 : Int32} {x3 : Int32} (kk1 : ¬ (μ 3 5) = (-1) → Wm G mX5_readLevels E (bm G mX5_readLevels E (pV Q)) μ 74 [(0, .ref (gb G + 3)), (1, .int x1)] []) (cc2 : (μ 3 5) = (-1) → CtV G mX4_addColumn [.ref (gb G + 4), .int x3] μ (fun μ' => Wm G mX5_readLevels E (bm G mX5_readLevels E (pV Q)) μ' 74 [(0, .ref (gb G + 3)), (1, .int x1)] [])) : Wm G mX5_readLevels E (bm G mX5_readLevels E (pV Q)) μ 58 [(0, .ref (gb G + 3)), (1, .int x1), (3, .int x3)] [] := by
  refine L_aload_n C (i := 0) dX5_readLevels_58 rfl rfl ?_
  refine L_getI C dX5_readLevels_59 sh_3 fl_X5_42 rfl ?_
  refine L_iconst C (v := (-1)) dX5_readLevels_62 rfl ?_
  refine L_icmp_ne C (tgt := 74) dX5_readLevels_63 rfl (fun p1 => ?_) (fun p1 => ?_)
  · refine L_sub [0, 1] rfl ?_
    exact kk1 p1
  · refine L_aload_n C (i := 0) dX5_readLevels_66 rfl rfl ?_
    refine L_getC C (c' := 4) dX5_readLevels_67 sh_3 fl_X5_12 rfl rfl ?_
    refine L_iload_n C (i := 3) dX5_readLevels_70 rfl rfl ?_
    refine L_sub [0, 1] rfl ?_
    refine L_invV1v C dX5_readLevels_71 sh_4 cal_X4_addColumn lk_X5_77 ⟨Nat.le_of_ble_eq_true rfl, Nat.le_of_ble_eq_true rfl⟩ ⟨Nat.le_of_ble_eq_true rfl, Nat.le_of_ble_eq_true rfl⟩ (Nat.le_of_ble_eq_true rfl) ?_
    exact cc2 p1
set_option maxRecDepth 4000 in
theorem k_X5_readLevels_74 {G : mG} {E : mE} {B : mB} {μ : mM} (C : Cx G mX5_readLevels E) {x1 : Int32} (kk1 : Wm G mX5_readLevels E B μ 8 [(0, .ref (gb G + 3)), (1, .int (x1 + (1 : Int32)))] []) : Wm G mX5_readLevels E B μ 74 [(0, .ref (gb G + 3)), (1, .int x1)] [] := by
  refine L_iinc C (v := 1) dX5_readLevels_74 rfl rfl (Nat.le_of_ble_eq_true rfl) ?_
  refine L_goto C (tgt := 8) dX5_readLevels_77 rfl ?_
  exact kk1
set_option maxRecDepth 4000 in
theorem k_X5_isByte_0 {G : mG} {E : mE} {Q : Int32 → mM → Prop} {μ : mM} (C : Cx G mX5_isByte E) {x1 : Int32} (rr1 : ((μ 3 3) ≤ (μ 3 4) ∨ (¬ (μ 3 3) ≤ (μ 3 4) ∧ ¬ (μ 2 (μ 3 4).toNatClampNeg) = x1)) → Q 0 μ) (tt2 : ¬ (μ 3 3) ≤ (μ 3 4) → (μ 3 2).toNatClampNeg = 2) (ss3 : ¬ (μ 3 3) ≤ (μ 3 4) → vp_in (μ 3 4) 200) (rr4 : ¬ (μ 3 3) ≤ (μ 3 4) → (μ 2 (μ 3 4).toNatClampNeg) = x1 → Q 1 μ) : Wm G mX5_isByte E (bm G mX5_isByte E (pI Q)) μ 0 [(0, .ref (gb G + 3)), (1, .int x1)] [] := by
  refine L_aload_n C (i := 0) dX5_isByte_0 rfl rfl ?_
  refine L_getI C dX5_isByte_1 sh_3 fl_X5_39 rfl ?_
  refine L_aload_n C (i := 0) dX5_isByte_4 rfl rfl ?_
  refine L_getI C dX5_isByte_5 sh_3 fl_X5_38 rfl ?_
  refine L_icmp_ge C (tgt := 28) dX5_isByte_8 rfl (fun p1 => ?_) (fun p1 => ?_)
  · refine L_iconst C (v := 0) dX5_isByte_28 rfl ?_
    exact L_irZ C dX5_isByte_29 rfl (by decide) (rr1 (Or.inl p1))
  · refine L_aload_n C (i := 0) dX5_isByte_11 rfl rfl ?_
    refine L_getT C dX5_isByte_12 sh_3 fl_X5_25 rfl (tt2 p1) ?_
    refine L_aload_n C (i := 0) dX5_isByte_15 rfl rfl ?_
    refine L_getI C dX5_isByte_16 sh_3 fl_X5_39 rfl ?_
    refine L_iald C dX5_isByte_19 sh_2 (ss3 p1) ?_
    refine L_iload_n C (i := 1) dX5_isByte_20 rfl rfl ?_
    refine L_icmp_ne C (tgt := 28) dX5_isByte_21 rfl (fun p2 => ?_) (fun p2 => ?_)
    · refine L_iconst C (v := 0) dX5_isByte_28 rfl ?_
      exact L_irZ C dX5_isByte_29 rfl (by decide) (rr1 (Or.inr ⟨p1, p2⟩))
    · refine L_iconst C (v := 1) dX5_isByte_24 rfl ?_
      refine L_goto C (tgt := 29) dX5_isByte_25 rfl ?_
      exact L_irZ C dX5_isByte_29 rfl (by decide) (rr4 p1 p2)
theorem a_X5_isByte {G : mG} {Q : Int32 → mM → Prop} {μ : mM} {x1 : Int32} (rr1 : ((μ 3 3) ≤ (μ 3 4) ∨ (¬ (μ 3 3) ≤ (μ 3 4) ∧ ¬ (μ 2 (μ 3 4).toNatClampNeg) = x1)) → Q 0 μ) (tt2 : ¬ (μ 3 3) ≤ (μ 3 4) → (μ 3 2).toNatClampNeg = 2) (ss3 : ¬ (μ 3 3) ≤ (μ 3 4) → vp_in (μ 3 4) 200) (rr4 : ¬ (μ 3 3) ≤ (μ 3 4) → (μ 2 (μ 3 4).toNatClampNeg) = x1 → Q 1 μ) : CtI G mX5_isByte [.ref (gb G + 3), .int x1] μ Q :=
  CtI.of pn_X5 (Nat.le_of_ble_eq_true rfl) (fun E C => k_X5_isByte_0 C rr1 tt2 ss3 rr4)
set_option maxRecDepth 4000 in
theorem k_X5_takeByte_0 {G : mG} {E : mE} {Q : mM → Prop} {μ : mM} (C : Cx G mX5_takeByte E) {x1 : Int32} (tt1 : (μ 3 5) = (-1) → ¬ (μ 3 3) ≤ (μ 3 4) → (μ 3 2).toNatClampNeg = 2) (ss2 : (μ 3 5) = (-1) → ¬ (μ 3 3) ≤ (μ 3 4) → vp_in (μ 3 4) 200) (cc3 : (μ 3 5) = (-1) → ((μ 3 3) ≤ (μ 3 4) ∨ (¬ (μ 3 3) ≤ (μ 3 4) ∧ ¬ (μ 2 (μ 3 4).toNatClampNeg) = x1)) → CtV G mX5_fail [.ref (gb G + 3), .int (μ 3 4), .int 1] μ (fun μ' => Wm G mX5_takeByte E (bm G mX5_takeByte E (pV Q)) μ' 26 [] [])) (cc4 : (μ 3 5) = (-1) → ¬ (μ 3 3) ≤ (μ 3 4) → (μ 2 (μ 3 4).toNatClampNeg) = x1 → CtV G mX5_skipBlanks [.ref (gb G + 3)] (ms μ 3 4 ((μ 3 4) + (1 : Int32))) (fun μ' => Wm G mX5_takeByte E (bm G mX5_takeByte E (pV Q)) μ' 41 [] [])) (rr5 : ¬ (μ 3 5) = (-1) → Q μ) : Wm G mX5_takeByte E (bm G mX5_takeByte E (pV Q)) μ 0 [(0, .ref (gb G + 3)), (1, .int x1)] [] := by
  refine L_aload_n C (i := 0) dX5_takeByte_0 rfl rfl ?_
  refine L_getI C dX5_takeByte_1 sh_3 fl_X5_42 rfl ?_
  refine L_iconst C (v := (-1)) dX5_takeByte_4 rfl ?_
  refine L_icmp_eq C (tgt := 9) dX5_takeByte_5 rfl (fun p1 => ?_) (fun p1 => ?_)
  · refine L_aload_n C (i := 0) dX5_takeByte_9 rfl rfl ?_
    refine L_iload_n C (i := 1) dX5_takeByte_10 rfl rfl ?_
    refine L_invV1i C dX5_takeByte_11 sh_3 cal_X5_isByte lk_X5_138 ⟨Nat.le_of_ble_eq_true rfl, Nat.le_of_ble_eq_true rfl⟩ ⟨Nat.le_of_ble_eq_true rfl, Nat.le_of_ble_eq_true rfl⟩ (Nat.le_of_ble_eq_true rfl) (a_X5_isByte (fun p2 => ?_) (fun p3 => tt1 p1 p3) (fun p4 => ss2 p1 p4) (fun p5 p6 => ?_))
    · refine L_if_ne C (tgt := 27) dX5_takeByte_14 rfl (fun p7 => absurd p7 (by decide)) (fun p7 => ?_)
      refine L_aload_n C (i := 0) dX5_takeByte_17 rfl rfl ?_
      refine L_aload_n C (i := 0) dX5_takeByte_18 rfl rfl ?_
      refine L_getI C dX5_takeByte_19 sh_3 fl_X5_39 rfl ?_
      refine L_iconst C (v := 1) dX5_takeByte_22 rfl ?_
      refine L_sub [] rfl ?_
      refine L_invV2v C dX5_takeByte_23 sh_3 cal_X5_fail lk_X5_69 ⟨Nat.le_of_ble_eq_true rfl, Nat.le_of_ble_eq_true rfl⟩ ⟨Nat.le_of_ble_eq_true rfl, Nat.le_of_ble_eq_true rfl⟩ (Nat.le_of_ble_eq_true rfl) ?_
      exact cc3 p1 p2
    · refine L_if_ne C (tgt := 27) dX5_takeByte_14 rfl (fun p8 => ?_) (fun p8 => absurd p8 (by decide))
      refine L_aload_n C (i := 0) dX5_takeByte_27 rfl rfl ?_
      refine L_dup C dX5_takeByte_28 rfl ?_
      refine L_getI C dX5_takeByte_29 sh_3 fl_X5_39 rfl ?_
      refine L_iconst C (v := 1) dX5_takeByte_32 rfl ?_
      refine L_iadd C dX5_takeByte_33 ?_
      refine L_putI C dX5_takeByte_34 sh_3 fl_X5_39 rfl rfl rfl ?_
      refine L_aload_n C (i := 0) dX5_takeByte_37 rfl rfl ?_
      refine L_sub [] rfl ?_
      refine L_invV0v C dX5_takeByte_38 sh_3 cal_X5_skipBlanks lk_X5_52 ⟨Nat.le_of_ble_eq_true rfl, Nat.le_of_ble_eq_true rfl⟩ ⟨Nat.le_of_ble_eq_true rfl, Nat.le_of_ble_eq_true rfl⟩ (Nat.le_of_ble_eq_true rfl) ?_
      exact cc4 p1 p5 p6
  · exact L_irV C dX5_takeByte_8 rfl (rr5 p1)
theorem e_X5_takeByte {G : mG} {Q : mM → Prop} {μ : mM} {x1 : Int32} (k : ∀ E, Cx G mX5_takeByte E → Wm G mX5_takeByte E (bm G mX5_takeByte E (pV Q)) μ 0 [(0, .ref (gb G + 3)), (1, .int x1)] []) : CtV G mX5_takeByte [.ref (gb G + 3), .int x1] μ Q := CtV.of pn_X5 (Nat.le_of_ble_eq_true rfl) k
set_option maxRecDepth 4000 in
theorem k_X5_takeByte_26 {G : mG} {E : mE} {Q : mM → Prop} {μ : mM} (C : Cx G mX5_takeByte E)  (rr1 : Q μ) : Wm G mX5_takeByte E (bm G mX5_takeByte E (pV Q)) μ 26 [] [] := by
  exact L_irV C dX5_takeByte_26 rfl (rr1)
set_option maxRecDepth 4000 in
theorem k_X5_takeByte_41 {G : mG} {E : mE} {Q : mM → Prop} {μ : mM} (C : Cx G mX5_takeByte E)  (rr1 : Q μ) : Wm G mX5_takeByte E (bm G mX5_takeByte E (pV Q)) μ 41 [] [] := by
  exact L_irV C dX5_takeByte_41 rfl (rr1)
set_option maxRecDepth 4000 in
theorem k_X5_readStrength_0 {G : mG} {E : mE} {Q : mM → Prop} {μ : mM} (C : Cx G mX5_readStrength E)  (kk1 : (μ 3 6) = 0 → Wm G mX5_readStrength E (bm G mX5_readStrength E (pV Q)) μ 16 [(0, .ref (gb G + 3))] []) (cc2 : ¬ (μ 3 6) = 0 → CtV G mX5_fail [.ref (gb G + 3), .int (μ 3 4), .int 3] μ (fun μ' => Wm G mX5_readStrength E (bm G mX5_readStrength E (pV Q)) μ' 16 [(0, .ref (gb G + 3))] [])) : Wm G mX5_readStrength E (bm G mX5_readStrength E (pV Q)) μ 0 [(0, .ref (gb G + 3))] [] := by
  refine L_aload_n C (i := 0) dX5_readStrength_0 rfl rfl ?_
  refine L_getI C dX5_readStrength_1 sh_3 fl_X5_45 rfl ?_
  refine L_if_eq C (tgt := 16) dX5_readStrength_4 rfl (fun p1 => ?_) (fun p1 => ?_)
  · exact kk1 p1
  · refine L_aload_n C (i := 0) dX5_readStrength_7 rfl rfl ?_
    refine L_aload_n C (i := 0) dX5_readStrength_8 rfl rfl ?_
    refine L_getI C dX5_readStrength_9 sh_3 fl_X5_39 rfl ?_
    refine L_iconst C (v := 3) dX5_readStrength_12 rfl ?_
    refine L_invV2v C dX5_readStrength_13 sh_3 cal_X5_fail lk_X5_69 ⟨Nat.le_of_ble_eq_true rfl, Nat.le_of_ble_eq_true rfl⟩ ⟨Nat.le_of_ble_eq_true rfl, Nat.le_of_ble_eq_true rfl⟩ (Nat.le_of_ble_eq_true rfl) ?_
    exact cc2 p1
theorem e_X5_readStrength {G : mG} {Q : mM → Prop} {μ : mM}  (k : ∀ E, Cx G mX5_readStrength E → Wm G mX5_readStrength E (bm G mX5_readStrength E (pV Q)) μ 0 [(0, .ref (gb G + 3))] []) : CtV G mX5_readStrength [.ref (gb G + 3)] μ Q := CtV.of pn_X5 (Nat.le_of_ble_eq_true rfl) k
set_option maxRecDepth 4000 in
theorem k_X5_readStrength_16 {G : mG} {E : mE} {Q : mM → Prop} {μ : mM} (C : Cx G mX5_readStrength E)  (cc1 : CtV G mX5_takeWord [.ref (gb G + 3), .ref (G.2.2.2.2.1 1)] (ms μ 3 6 1) (fun μ' => Wm G mX5_readStrength E (bm G mX5_readStrength E (pV Q)) μ' 27 [(0, .ref (gb G + 3))] [])) : Wm G mX5_readStrength E (bm G mX5_readStrength E (pV Q)) μ 16 [(0, .ref (gb G + 3))] [] := by
  refine L_aload_n C (i := 0) dX5_readStrength_16 rfl rfl ?_
  refine L_iconst C (v := 1) dX5_readStrength_17 rfl ?_
  refine L_putZ C dX5_readStrength_18 sh_3 fl_X5_45 rfl rfl rfl (by decide) ?_
  refine L_aload_n C (i := 0) dX5_readStrength_21 rfl rfl ?_
  refine L_ldcS C (i := 1) dX5_readStrength_22 rfl rfl ?_
  refine L_invV1v C dX5_readStrength_24 sh_3 cal_X5_takeWord lk_X5_94 ⟨Nat.le_of_ble_eq_true rfl, Nat.le_of_ble_eq_true rfl⟩ ⟨Nat.le_of_ble_eq_true rfl, Nat.le_of_ble_eq_true rfl⟩ (Nat.le_of_ble_eq_true rfl) ?_
  exact cc1
set_option maxRecDepth 4000 in
theorem k_X5_readStrength_27 {G : mG} {E : mE} {Q : mM → Prop} {μ : mM} (C : Cx G mX5_readStrength E)  (cc1 : CtI G mX5_takeNumber [.ref (gb G + 3), .int 1, .int (if (μ 4 0) < 3 then (μ 4 0) else 3)] μ (fun r μ' => Wm G mX5_readStrength E (bm G mX5_readStrength E (pV Q)) μ' 43 [(0, .ref (gb G + 3))] [.int r])) : Wm G mX5_readStrength E (bm G mX5_readStrength E (pV Q)) μ 27 [(0, .ref (gb G + 3))] [] := by
  refine L_aload_n C (i := 0) dX5_readStrength_27 rfl rfl ?_
  refine L_iconst C (v := 1) dX5_readStrength_28 rfl ?_
  refine L_iconst C (v := 3) dX5_readStrength_29 rfl ?_
  refine L_aload_n C (i := 0) dX5_readStrength_30 rfl rfl ?_
  refine L_getC C (c' := 4) dX5_readStrength_31 sh_3 fl_X5_12 rfl rfl ?_
  refine L_getI C dX5_readStrength_34 sh_4 fl_X5_121 rfl ?_
  refine L_min C dX5_readStrength_37 lk_X5_124 mmin_stat math_ini mmin_code (Nat.le_of_ble_eq_true rfl) (Nat.le_of_ble_eq_true rfl) (Nat.le_of_ble_eq_true rfl) ⟨Nat.le_of_ble_eq_true rfl, Nat.le_of_ble_eq_true rfl⟩ ?_
  refine L_invV2i C dX5_readStrength_40 sh_3 cal_X5_takeNumber lk_X5_102 ⟨Nat.le_of_ble_eq_true rfl, Nat.le_of_ble_eq_true rfl⟩ ⟨Nat.le_of_ble_eq_true rfl, Nat.le_of_ble_eq_true rfl⟩ (Nat.le_of_ble_eq_true rfl) ?_
  exact cc1
set_option maxRecDepth 4000 in
theorem k_X5_readStrength_43 {G : mG} {E : mE} {Q : mM → Prop} {μ : mM} (C : Cx G mX5_readStrength E) {sx0 : Int32} (rr1 : ¬ (μ 3 5) = (-1) → Q μ) (rr2 : (μ 3 5) = (-1) → Q (ms μ 4 1 sx0)) : Wm G mX5_readStrength E (bm G mX5_readStrength E (pV Q)) μ 43 [(0, .ref (gb G + 3))] [.int sx0] := by
  refine L_istore_n C (i := 1) dX5_readStrength_43 rfl (Nat.le_of_ble_eq_true rfl) ?_
  refine L_aload_n C (i := 0) dX5_readStrength_44 rfl rfl ?_
  refine L_getI C dX5_readStrength_45 sh_3 fl_X5_42 rfl ?_
  refine L_iconst C (v := (-1)) dX5_readStrength_48 rfl ?_
  refine L_icmp_ne C (tgt := 60) dX5_readStrength_49 rfl (fun p1 => ?_) (fun p1 => ?_)
  · exact L_irV C dX5_readStrength_60 rfl (rr1 p1)
  · refine L_aload_n C (i := 0) dX5_readStrength_52 rfl rfl ?_
    refine L_getC C (c' := 4) dX5_readStrength_53 sh_3 fl_X5_12 rfl rfl ?_
    refine L_iload_n C (i := 1) dX5_readStrength_56 rfl rfl ?_
    refine L_putI C dX5_readStrength_57 sh_4 fl_X5_81 rfl rfl rfl ?_
    exact L_irV C dX5_readStrength_60 rfl (rr2 p1)
set_option maxRecDepth 4000 in
theorem k_X11_levelIn_0 {G : mG} {E : mE} {Q : Int32 → mM → Prop} {μ : mM} (C : Cx G mX11_levelIn E) {x0 : Int32} {x1 : Int32} (rr1 : ¬ ((iush x0 ((4 : Int32) * x1)) &&& (15 : Int32)) = 0 → Q ((((iush x0 ((4 : Int32) * x1)) &&& (15 : Int32)) >>> ((1 : Int32) &&& 31)) - (((iush x0 ((4 : Int32) * x1)) &&& (15 : Int32)) >>> ((3 : Int32) &&& 31))) μ) (rr2 : ((iush x0 ((4 : Int32) * x1)) &&& (15 : Int32)) = 0 → Q (-1) μ) : Wm G mX11_levelIn E (bm G mX11_levelIn E (pI Q)) μ 0 [(0, .int x0), (1, .int x1)] [] := by
  refine L_iload_n C (i := 0) dX11_levelIn_0 rfl rfl ?_
  refine L_iconst C (v := 4) dX11_levelIn_1 rfl ?_
  refine L_iload_n C (i := 1) dX11_levelIn_2 rfl rfl ?_
  refine L_imul C dX11_levelIn_3 ?_
  refine L_iushr C dX11_levelIn_4 ?_
  refine L_bipush C (v := 15) dX11_levelIn_5 rfl ?_
  refine L_iand C dX11_levelIn_7 ?_
  refine L_istore_n C (i := 2) dX11_levelIn_8 rfl (Nat.le_of_ble_eq_true rfl) ?_
  refine L_iload_n C (i := 2) dX11_levelIn_9 rfl rfl ?_
  refine L_if_ne C (tgt := 17) dX11_levelIn_10 rfl (fun p1 => ?_) (fun p1 => ?_)
  · refine L_iload_n C (i := 2) dX11_levelIn_17 rfl rfl ?_
    refine L_iconst C (v := 1) dX11_levelIn_18 rfl ?_
    refine L_ishr C dX11_levelIn_19 ?_
    refine L_iload_n C (i := 2) dX11_levelIn_20 rfl rfl ?_
    refine L_iconst C (v := 3) dX11_levelIn_21 rfl ?_
    refine L_ishr C dX11_levelIn_22 ?_
    refine L_isub C dX11_levelIn_23 ?_
    exact L_irI C dX11_levelIn_24 rfl (rr1 p1)
  · refine L_iconst C (v := (-1)) dX11_levelIn_13 rfl ?_
    refine L_goto C (tgt := 24) dX11_levelIn_14 rfl ?_
    exact L_irI C dX11_levelIn_24 rfl (rr2 p1)
theorem a_X11_levelIn {G : mG} {Q : Int32 → mM → Prop} {μ : mM} {x0 : Int32} {x1 : Int32} (rr1 : ¬ ((iush x0 ((4 : Int32) * x1)) &&& (15 : Int32)) = 0 → Q ((((iush x0 ((4 : Int32) * x1)) &&& (15 : Int32)) >>> ((1 : Int32) &&& 31)) - (((iush x0 ((4 : Int32) * x1)) &&& (15 : Int32)) >>> ((3 : Int32) &&& 31))) μ) (rr2 : ((iush x0 ((4 : Int32) * x1)) &&& (15 : Int32)) = 0 → Q (-1) μ) : CtI G mX11_levelIn [.int x0, .int x1] μ Q :=
  CtI.of pn_X11 (Nat.le_of_ble_eq_true rfl) (fun E C => k_X11_levelIn_0 C rr1 rr2)
set_option maxRecDepth 4000 in
theorem k_X5_readCell_0 {G : mG} {E : mE} {Q : Int32 → mM → Prop} {μ : mM} (C : Cx G mX5_readCell E) {x1 : Int32} {x2 : Int32} (cc1 : CtI G mX5_takeNumber [.ref (gb G + 3), .int 0, .int ((μ 4 0) - (1 : Int32))] μ (fun r μ' => Wm G mX5_readCell E (bm G mX5_readCell E (pI Q)) μ' 19 [(0, .ref (gb G + 3)), (1, .int x1), (2, .int x2), (3, .int (μ 3 4))] [.int r])) : Wm G mX5_readCell E (bm G mX5_readCell E (pI Q)) μ 0 [(0, .ref (gb G + 3)), (1, .int x1), (2, .int x2)] [] := by
  refine L_aload_n C (i := 0) dX5_readCell_0 rfl rfl ?_
  refine L_getI C dX5_readCell_1 sh_3 fl_X5_39 rfl ?_
  refine L_istore_n C (i := 3) dX5_readCell_4 rfl (Nat.le_of_ble_eq_true rfl) ?_
  refine L_aload_n C (i := 0) dX5_readCell_5 rfl rfl ?_
  refine L_iconst C (v := 0) dX5_readCell_6 rfl ?_
  refine L_aload_n C (i := 0) dX5_readCell_7 rfl rfl ?_
  refine L_getC C (c' := 4) dX5_readCell_8 sh_3 fl_X5_12 rfl rfl ?_
  refine L_getI C dX5_readCell_11 sh_4 fl_X5_121 rfl ?_
  refine L_iconst C (v := 1) dX5_readCell_14 rfl ?_
  refine L_isub C dX5_readCell_15 ?_
  refine L_invV2i C dX5_readCell_16 sh_3 cal_X5_takeNumber lk_X5_102 ⟨Nat.le_of_ble_eq_true rfl, Nat.le_of_ble_eq_true rfl⟩ ⟨Nat.le_of_ble_eq_true rfl, Nat.le_of_ble_eq_true rfl⟩ (Nat.le_of_ble_eq_true rfl) ?_
  exact cc1
theorem e_X5_readCell {G : mG} {Q : Int32 → mM → Prop} {μ : mM} {x1 : Int32} {x2 : Int32} (k : ∀ E, Cx G mX5_readCell E → Wm G mX5_readCell E (bm G mX5_readCell E (pI Q)) μ 0 [(0, .ref (gb G + 3)), (1, .int x1), (2, .int x2)] []) : CtI G mX5_readCell [.ref (gb G + 3), .int x1, .int x2] μ Q := CtI.of pn_X5 (Nat.le_of_ble_eq_true rfl) k
set_option maxRecDepth 4000 in
theorem k_X5_readCell_19 {G : mG} {E : mE} {Q : Int32 → mM → Prop} {μ : mM} (C : Cx G mX5_readCell E) {x1 : Int32} {x2 : Int32} {x3 : Int32} {sx0 : Int32} (kk1 : (¬ (μ 3 5) = (-1) ∨ ((μ 3 5) = (-1) ∧ ((¬ ((iush x1 ((4 : Int32) * sx0)) &&& (15 : Int32)) = 0 ∧ ((((iush x1 ((4 : Int32) * sx0)) &&& (15 : Int32)) >>> ((1 : Int32) &&& 31)) - (((iush x1 ((4 : Int32) * sx0)) &&& (15 : Int32)) >>> ((3 : Int32) &&& 31))) = (-1)) ∨ ((iush x1 ((4 : Int32) * sx0)) &&& (15 : Int32)) = 0))) → Wm G mX5_readCell E (bm G mX5_readCell E (pI Q)) μ 45 [(0, .ref (gb G + 3)), (2, .int x2), (3, .int x3), (4, .int sx0)] []) (cc2 : (μ 3 5) = (-1) → ¬ ((iush x1 ((4 : Int32) * sx0)) &&& (15 : Int32)) = 0 → ¬ ((((iush x1 ((4 : Int32) * sx0)) &&& (15 : Int32)) >>> ((1 : Int32) &&& 31)) - (((iush x1 ((4 : Int32) * sx0)) &&& (15 : Int32)) >>> ((3 : Int32) &&& 31))) = (-1) → CtV G mX5_fail [.ref (gb G + 3), .int x3, .int 2] μ (fun μ' => Wm G mX5_readCell E (bm G mX5_readCell E (pI Q)) μ' 45 [(0, .ref (gb G + 3)), (2, .int x2), (3, .int x3), (4, .int sx0)] [])) : Wm G mX5_readCell E (bm G mX5_readCell E (pI Q)) μ 19 [(0, .ref (gb G + 3)), (1, .int x1), (2, .int x2), (3, .int x3)] [.int sx0] := by
  refine L_istore C dX5_readCell_19 (Nat.le_of_ble_eq_true rfl) ?_
  refine L_aload_n C (i := 0) dX5_readCell_21 rfl rfl ?_
  refine L_getI C dX5_readCell_22 sh_3 fl_X5_42 rfl ?_
  refine L_iconst C (v := (-1)) dX5_readCell_25 rfl ?_
  refine L_icmp_ne C (tgt := 45) dX5_readCell_26 rfl (fun p1 => ?_) (fun p1 => ?_)
  · refine L_sub [0, 2, 3, 4] rfl ?_
    exact kk1 (Or.inl p1)
  · refine L_iload_n C (i := 1) dX5_readCell_29 rfl rfl ?_
    refine L_iload C dX5_readCell_30 rfl ?_
    refine L_invSN2i C dX5_readCell_32 cal_X11_levelIn stc_X11_levelIn nk_X5_145 ⟨Nat.le_of_ble_eq_true rfl, Nat.le_of_ble_eq_true rfl⟩ ⟨Nat.le_of_ble_eq_true rfl, Nat.le_of_ble_eq_true rfl⟩ (Nat.le_of_ble_eq_true rfl) (a_X11_levelIn (fun p2 => ?_) (fun p3 => ?_))
    · refine L_iconst C (v := (-1)) dX5_readCell_35 rfl ?_
      refine L_icmp_eq C (tgt := 45) dX5_readCell_36 rfl (fun p4 => ?_) (fun p4 => ?_)
      · refine L_sub [0, 2, 3, 4] rfl ?_
        exact kk1 (Or.inr ⟨p1, (Or.inl ⟨p2, p4⟩)⟩)
      · refine L_aload_n C (i := 0) dX5_readCell_39 rfl rfl ?_
        refine L_iload_n C (i := 3) dX5_readCell_40 rfl rfl ?_
        refine L_iconst C (v := 2) dX5_readCell_41 rfl ?_
        refine L_sub [0, 2, 3, 4] rfl ?_
        refine L_invV2v C dX5_readCell_42 sh_3 cal_X5_fail lk_X5_69 ⟨Nat.le_of_ble_eq_true rfl, Nat.le_of_ble_eq_true rfl⟩ ⟨Nat.le_of_ble_eq_true rfl, Nat.le_of_ble_eq_true rfl⟩ (Nat.le_of_ble_eq_true rfl) ?_
        exact cc2 p1 p2 p4
    · refine L_iconst C (v := (-1)) dX5_readCell_35 rfl ?_
      refine L_icmp_eq C (tgt := 45) dX5_readCell_36 rfl (fun p5 => ?_) (fun p5 => absurd p5 (by decide))
      refine L_sub [0, 2, 3, 4] rfl ?_
      exact kk1 (Or.inr ⟨p1, (Or.inr p3)⟩)
set_option maxRecDepth 4000 in
theorem k_X5_readCell_45 {G : mG} {E : mE} {Q : Int32 → mM → Prop} {μ : mM} (C : Cx G mX5_readCell E) {x2 : Int32} {x3 : Int32} {x4 : Int32} (kk1 : x2 = 0 → Wm G mX5_readCell E (bm G mX5_readCell E (pI Q)) μ 55 [(0, .ref (gb G + 3)), (4, .int x4)] []) (cc2 : ¬ x2 = 0 → CtV G mX5_fail [.ref (gb G + 3), .int x3, .int 3] μ (fun μ' => Wm G mX5_readCell E (bm G mX5_readCell E (pI Q)) μ' 55 [(0, .ref (gb G + 3)), (4, .int x4)] [])) : Wm G mX5_readCell E (bm G mX5_readCell E (pI Q)) μ 45 [(0, .ref (gb G + 3)), (2, .int x2), (3, .int x3), (4, .int x4)] [] := by
  refine L_iload_n C (i := 2) dX5_readCell_45 rfl rfl ?_
  refine L_if_eq C (tgt := 55) dX5_readCell_46 rfl (fun p1 => ?_) (fun p1 => ?_)
  · refine L_sub [0, 3] rfl ?_
    exact kk1 p1
  · refine L_aload_n C (i := 0) dX5_readCell_49 rfl rfl ?_
    refine L_iload_n C (i := 3) dX5_readCell_50 rfl rfl ?_
    refine L_iconst C (v := 3) dX5_readCell_51 rfl ?_
    refine L_sub [0, 3] rfl ?_
    refine L_invV2v C dX5_readCell_52 sh_3 cal_X5_fail lk_X5_69 ⟨Nat.le_of_ble_eq_true rfl, Nat.le_of_ble_eq_true rfl⟩ ⟨Nat.le_of_ble_eq_true rfl, Nat.le_of_ble_eq_true rfl⟩ (Nat.le_of_ble_eq_true rfl) ?_
    exact cc2 p1
set_option maxRecDepth 4000 in
theorem k_X5_readCell_55 {G : mG} {E : mE} {Q : Int32 → mM → Prop} {μ : mM} (C : Cx G mX5_readCell E) {x4 : Int32} (cc1 : CtV G mX5_takeByte [.ref (gb G + 3), .int 46] μ (fun μ' => Wm G mX5_readCell E (bm G mX5_readCell E (pI Q)) μ' 61 [(0, .ref (gb G + 3)), (4, .int x4)] [])) : Wm G mX5_readCell E (bm G mX5_readCell E (pI Q)) μ 55 [(0, .ref (gb G + 3)), (4, .int x4)] [] := by
  refine L_aload_n C (i := 0) dX5_readCell_55 rfl rfl ?_
  refine L_bipush C (v := 46) dX5_readCell_56 rfl ?_
  refine L_invV1v C dX5_readCell_58 sh_3 cal_X5_takeByte lk_X5_106 ⟨Nat.le_of_ble_eq_true rfl, Nat.le_of_ble_eq_true rfl⟩ ⟨Nat.le_of_ble_eq_true rfl, Nat.le_of_ble_eq_true rfl⟩ (Nat.le_of_ble_eq_true rfl) ?_
  exact cc1
set_option maxRecDepth 4000 in
theorem k_X5_readCell_61 {G : mG} {E : mE} {Q : Int32 → mM → Prop} {μ : mM} (C : Cx G mX5_readCell E) {x4 : Int32} (ss1 : (μ 3 5) = (-1) → vp_in x4 8) (cc2 : (μ 3 5) = (-1) → CtI G mX5_takeNumber [.ref (gb G + 3), .int 0, .int ((μ 5 x4.toNatClampNeg) - (1 : Int32))] μ (fun r μ' => Wm G mX5_readCell E (bm G mX5_readCell E (pI Q)) μ' 88 [(0, .ref (gb G + 3)), (4, .int x4)] [.int r])) (rr3 : ¬ (μ 3 5) = (-1) → Q 0 μ) : Wm G mX5_readCell E (bm G mX5_readCell E (pI Q)) μ 61 [(0, .ref (gb G + 3)), (4, .int x4)] [] := by
  refine L_aload_n C (i := 0) dX5_readCell_61 rfl rfl ?_
  refine L_getI C dX5_readCell_62 sh_3 fl_X5_42 rfl ?_
  refine L_iconst C (v := (-1)) dX5_readCell_65 rfl ?_
  refine L_icmp_eq C (tgt := 71) dX5_readCell_66 rfl (fun p1 => ?_) (fun p1 => ?_)
  · refine L_aload_n C (i := 0) dX5_readCell_71 rfl rfl ?_
    refine L_iconst C (v := 0) dX5_readCell_72 rfl ?_
    refine L_aload_n C (i := 0) dX5_readCell_73 rfl rfl ?_
    refine L_getC C (c' := 4) dX5_readCell_74 sh_3 fl_X5_12 rfl rfl ?_
    refine L_getC C (c' := 5) dX5_readCell_77 sh_4 fl_X5_148 rfl rfl ?_
    refine L_iload C dX5_readCell_80 rfl ?_
    refine L_iald C dX5_readCell_82 sh_5 (ss1 p1) ?_
    refine L_iconst C (v := 1) dX5_readCell_83 rfl ?_
    refine L_isub C dX5_readCell_84 ?_
    refine L_invV2i C dX5_readCell_85 sh_3 cal_X5_takeNumber lk_X5_102 ⟨Nat.le_of_ble_eq_true rfl, Nat.le_of_ble_eq_true rfl⟩ ⟨Nat.le_of_ble_eq_true rfl, Nat.le_of_ble_eq_true rfl⟩ (Nat.le_of_ble_eq_true rfl) ?_
    exact cc2 p1
  · refine L_iconst C (v := 0) dX5_readCell_69 rfl ?_
    exact L_irI C dX5_readCell_70 rfl (rr3 p1)
set_option maxRecDepth 4000 in
theorem k_X5_readCell_88 {G : mG} {E : mE} {Q : Int32 → mM → Prop} {μ : mM} (C : Cx G mX5_readCell E) {x4 : Int32} {sx0 : Int32} (rr1 : ¬ (μ 3 5) = (-1) → Q 0 μ) (rr2 : (μ 3 5) = (-1) → Q ((1 : Int32) <<< ((((4 : Int32) * x4) + sx0) &&& 31)) μ) : Wm G mX5_readCell E (bm G mX5_readCell E (pI Q)) μ 88 [(0, .ref (gb G + 3)), (4, .int x4)] [.int sx0] := by
  refine L_istore C dX5_readCell_88 (Nat.le_of_ble_eq_true rfl) ?_
  refine L_aload_n C (i := 0) dX5_readCell_90 rfl rfl ?_
  refine L_getI C dX5_readCell_91 sh_3 fl_X5_42 rfl ?_
  refine L_iconst C (v := (-1)) dX5_readCell_94 rfl ?_
  refine L_icmp_ne C (tgt := 110) dX5_readCell_95 rfl (fun p1 => ?_) (fun p1 => ?_)
  · refine L_iconst C (v := 0) dX5_readCell_110 rfl ?_
    exact L_irI C dX5_readCell_111 rfl (rr1 p1)
  · refine L_iconst C (v := 1) dX5_readCell_98 rfl ?_
    refine L_iconst C (v := 4) dX5_readCell_99 rfl ?_
    refine L_iload C dX5_readCell_100 rfl ?_
    refine L_imul C dX5_readCell_102 ?_
    refine L_iload C dX5_readCell_103 rfl ?_
    refine L_iadd C dX5_readCell_105 ?_
    refine L_ishl C dX5_readCell_106 ?_
    refine L_goto C (tgt := 111) dX5_readCell_107 rfl ?_
    exact L_irI C dX5_readCell_111 rfl (rr2 p1)
set_option maxRecDepth 4000 in
theorem k_X11_columnsOf_0 {G : mG} {E : mE} {Q : Int32 → mM → Prop} {μ : mM} (C : Cx G mX11_columnsOf E) {x0 : Int32} (rr1 : Q (((((x0 ||| (iush x0 1)) ||| (iush x0 2)) ||| (iush x0 3)) &&& (286331153 : Int32)) * (15 : Int32)) μ) : Wm G mX11_columnsOf E (bm G mX11_columnsOf E (pI Q)) μ 0 [(0, .int x0)] [] := by
  refine L_iload_n C (i := 0) dX11_columnsOf_0 rfl rfl ?_
  refine L_iload_n C (i := 0) dX11_columnsOf_1 rfl rfl ?_
  refine L_iconst C (v := 1) dX11_columnsOf_2 rfl ?_
  refine L_iushr C dX11_columnsOf_3 ?_
  refine L_ior C dX11_columnsOf_4 ?_
  refine L_iload_n C (i := 0) dX11_columnsOf_5 rfl rfl ?_
  refine L_iconst C (v := 2) dX11_columnsOf_6 rfl ?_
  refine L_iushr C dX11_columnsOf_7 ?_
  refine L_ior C dX11_columnsOf_8 ?_
  refine L_iload_n C (i := 0) dX11_columnsOf_9 rfl rfl ?_
  refine L_iconst C (v := 3) dX11_columnsOf_10 rfl ?_
  refine L_iushr C dX11_columnsOf_11 ?_
  refine L_ior C dX11_columnsOf_12 ?_
  refine L_ldcw C dX11_columnsOf_13 cn_X11_321 ?_
  refine L_iand C dX11_columnsOf_16 ?_
  refine L_istore_n C (i := 1) dX11_columnsOf_17 rfl (Nat.le_of_ble_eq_true rfl) ?_
  refine L_iload_n C (i := 1) dX11_columnsOf_18 rfl rfl ?_
  refine L_bipush C (v := 15) dX11_columnsOf_19 rfl ?_
  refine L_imul C dX11_columnsOf_21 ?_
  exact L_irI C dX11_columnsOf_22 rfl (rr1)
theorem a_X11_columnsOf {G : mG} {Q : Int32 → mM → Prop} {μ : mM} {x0 : Int32} (rr1 : Q (((((x0 ||| (iush x0 1)) ||| (iush x0 2)) ||| (iush x0 3)) &&& (286331153 : Int32)) * (15 : Int32)) μ) : CtI G mX11_columnsOf [.int x0] μ Q :=
  CtI.of pn_X11 (Nat.le_of_ble_eq_true rfl) (fun E C => k_X11_columnsOf_0 C rr1)
set_option maxRecDepth 4000 in
theorem k_X4_addNever_0 {G : mG} {E : mE} {Q : mM → Prop} {μ : mM} (C : Cx G mX4_addNever E) {c0 : Nat} (h0 : sh c0 = (0, 3)) {x1 : Int32} (rr1 : 12 ≤ (μ c0 2) → Q μ) (ss2 : ¬ 12 ≤ (μ c0 2) → vp_in (μ c0 2) 12) (ss3 : ¬ 12 ≤ (μ c0 2) → vp_in ((ms μ (c0 + 2) (μ c0 2).toNatClampNeg x1) c0 2) 12) (rr4 : ¬ 12 ≤ (μ c0 2) → Q (ms (ms (ms μ (c0 + 2) (μ c0 2).toNatClampNeg x1) (c0 + 3) ((ms μ (c0 + 2) (μ c0 2).toNatClampNeg x1) c0 2).toNatClampNeg (((((x1 ||| (iush x1 1)) ||| (iush x1 2)) ||| (iush x1 3)) &&& (286331153 : Int32)) * (15 : Int32))) c0 2 (((ms (ms μ (c0 + 2) (μ c0 2).toNatClampNeg x1) (c0 + 3) ((ms μ (c0 + 2) (μ c0 2).toNatClampNeg x1) c0 2).toNatClampNeg (((((x1 ||| (iush x1 1)) ||| (iush x1 2)) ||| (iush x1 3)) &&& (286331153 : Int32)) * (15 : Int32))) c0 2) + (1 : Int32)))) : Wm G mX4_addNever E (bm G mX4_addNever E (pV Q)) μ 0 [(0, .ref (gb G + c0)), (1, .int x1)] [] := by
  refine L_aload_n C (i := 0) dX4_addNever_0 rfl rfl ?_
  refine L_getI C dX4_addNever_1 h0 fl_X4_28 rfl ?_
  refine L_bipush C (v := 12) dX4_addNever_4 rfl ?_
  refine L_icmp_ge C (tgt := 42) dX4_addNever_6 rfl (fun p1 => ?_) (fun p1 => ?_)
  · exact L_irV C dX4_addNever_42 rfl (rr1 p1)
  · refine L_aload_n C (i := 0) dX4_addNever_9 rfl rfl ?_
    refine L_getC C (c' := (c0 + 2)) dX4_addNever_10 h0 fl_X4_15 rfl rfl ?_
    refine L_aload_n C (i := 0) dX4_addNever_13 rfl rfl ?_
    refine L_getI C dX4_addNever_14 h0 fl_X4_28 rfl ?_
    refine L_iload_n C (i := 1) dX4_addNever_17 rfl rfl ?_
    refine L_iast C dX4_addNever_18 (shd_3_2 h0) (ss2 p1) ?_
    refine L_aload_n C (i := 0) dX4_addNever_19 rfl rfl ?_
    refine L_getC C (c' := (c0 + 3)) dX4_addNever_20 h0 fl_X4_18 rfl rfl ?_
    refine L_aload_n C (i := 0) dX4_addNever_23 rfl rfl ?_
    refine L_getI C dX4_addNever_24 h0 fl_X4_28 rfl ?_
    refine L_iload_n C (i := 1) dX4_addNever_27 rfl rfl ?_
    refine L_invSN1i C dX4_addNever_28 cal_X11_columnsOf stc_X11_columnsOf nk_X4_34 ⟨Nat.le_of_ble_eq_true rfl, Nat.le_of_ble_eq_true rfl⟩ ⟨Nat.le_of_ble_eq_true rfl, Nat.le_of_ble_eq_true rfl⟩ (Nat.le_of_ble_eq_true rfl) (a_X11_columnsOf (?_))
    · refine L_iast C dX4_addNever_31 (shd_3_3 h0) (ss3 p1) ?_
      refine L_aload_n C (i := 0) dX4_addNever_32 rfl rfl ?_
      refine L_dup C dX4_addNever_33 rfl ?_
      refine L_getI C dX4_addNever_34 h0 fl_X4_28 rfl ?_
      refine L_iconst C (v := 1) dX4_addNever_37 rfl ?_
      refine L_iadd C dX4_addNever_38 ?_
      refine L_putI C dX4_addNever_39 h0 fl_X4_28 rfl rfl rfl ?_
      exact L_irV C dX4_addNever_42 rfl (rr4 p1)
theorem a_X4_addNever {G : mG} {Q : mM → Prop} {μ : mM} {c0 : Nat} (h0 : sh c0 = (0, 3)) {x1 : Int32} (rr1 : 12 ≤ (μ c0 2) → Q μ) (ss2 : ¬ 12 ≤ (μ c0 2) → vp_in (μ c0 2) 12) (ss3 : ¬ 12 ≤ (μ c0 2) → vp_in ((ms μ (c0 + 2) (μ c0 2).toNatClampNeg x1) c0 2) 12) (rr4 : ¬ 12 ≤ (μ c0 2) → Q (ms (ms (ms μ (c0 + 2) (μ c0 2).toNatClampNeg x1) (c0 + 3) ((ms μ (c0 + 2) (μ c0 2).toNatClampNeg x1) c0 2).toNatClampNeg (((((x1 ||| (iush x1 1)) ||| (iush x1 2)) ||| (iush x1 3)) &&& (286331153 : Int32)) * (15 : Int32))) c0 2 (((ms (ms μ (c0 + 2) (μ c0 2).toNatClampNeg x1) (c0 + 3) ((ms μ (c0 + 2) (μ c0 2).toNatClampNeg x1) c0 2).toNatClampNeg (((((x1 ||| (iush x1 1)) ||| (iush x1 2)) ||| (iush x1 3)) &&& (286331153 : Int32)) * (15 : Int32))) c0 2) + (1 : Int32)))) : CtV G mX4_addNever [.ref (gb G + c0), .int x1] μ Q :=
  CtV.of pn_X4 (Nat.le_of_ble_eq_true rfl) (fun E C => k_X4_addNever_0 C h0 rr1 ss2 ss3 rr4)
set_option maxRecDepth 4000 in
theorem k_X5_readNever_0 {G : mG} {E : mE} {Q : mM → Prop} {μ : mM} (C : Cx G mX5_readNever E)  (cc1 : CtI G mX5_isWord [.ref (gb G + 3), .ref (G.2.2.2.2.1 2)] μ (fun r μ' => Wm G mX5_readNever E (bm G mX5_readNever E (pV Q)) μ' 6 [(0, .ref (gb G + 3))] [.int r])) : Wm G mX5_readNever E (bm G mX5_readNever E (pV Q)) μ 0 [(0, .ref (gb G + 3))] [] := by
  refine L_aload_n C (i := 0) dX5_readNever_0 rfl rfl ?_
  refine L_ldcS C (i := 2) dX5_readNever_1 rfl rfl ?_
  refine L_invV1i C dX5_readNever_3 sh_3 cal_X5_isWord lk_X5_111 ⟨Nat.le_of_ble_eq_true rfl, Nat.le_of_ble_eq_true rfl⟩ ⟨Nat.le_of_ble_eq_true rfl, Nat.le_of_ble_eq_true rfl⟩ (Nat.le_of_ble_eq_true rfl) ?_
  exact cc1
theorem e_X5_readNever {G : mG} {Q : mM → Prop} {μ : mM}  (k : ∀ E, Cx G mX5_readNever E → Wm G mX5_readNever E (bm G mX5_readNever E (pV Q)) μ 0 [(0, .ref (gb G + 3))] []) : CtV G mX5_readNever [.ref (gb G + 3)] μ Q := CtV.of pn_X5 (Nat.le_of_ble_eq_true rfl) k
set_option maxRecDepth 4000 in
theorem k_X5_readNever_6 {G : mG} {E : mE} {Q : mM → Prop} {μ : mM} (C : Cx G mX5_readNever E) {sx0 : Int32} (kk1 : (sx0 = 0 ∨ (¬ sx0 = 0 ∧ ¬ (μ 4 2) = 12)) → Wm G mX5_readNever E (bm G mX5_readNever E (pV Q)) μ 30 [(0, .ref (gb G + 3))] []) (cc2 : ¬ sx0 = 0 → (μ 4 2) = 12 → CtV G mX5_fail [.ref (gb G + 3), .int (μ 3 4), .int 3] μ (fun μ' => Wm G mX5_readNever E (bm G mX5_readNever E (pV Q)) μ' 30 [(0, .ref (gb G + 3))] [])) : Wm G mX5_readNever E (bm G mX5_readNever E (pV Q)) μ 6 [(0, .ref (gb G + 3))] [.int sx0] := by
  refine L_if_eq C (tgt := 30) dX5_readNever_6 rfl (fun p1 => ?_) (fun p1 => ?_)
  · exact kk1 (Or.inl p1)
  · refine L_aload_n C (i := 0) dX5_readNever_9 rfl rfl ?_
    refine L_getC C (c' := 4) dX5_readNever_10 sh_3 fl_X5_12 rfl rfl ?_
    refine L_getI C dX5_readNever_13 sh_4 fl_X5_131 rfl ?_
    refine L_bipush C (v := 12) dX5_readNever_16 rfl ?_
    refine L_icmp_ne C (tgt := 30) dX5_readNever_18 rfl (fun p2 => ?_) (fun p2 => ?_)
    · exact kk1 (Or.inr ⟨p1, p2⟩)
    · refine L_aload_n C (i := 0) dX5_readNever_21 rfl rfl ?_
      refine L_aload_n C (i := 0) dX5_readNever_22 rfl rfl ?_
      refine L_getI C dX5_readNever_23 sh_3 fl_X5_39 rfl ?_
      refine L_iconst C (v := 3) dX5_readNever_26 rfl ?_
      refine L_invV2v C dX5_readNever_27 sh_3 cal_X5_fail lk_X5_69 ⟨Nat.le_of_ble_eq_true rfl, Nat.le_of_ble_eq_true rfl⟩ ⟨Nat.le_of_ble_eq_true rfl, Nat.le_of_ble_eq_true rfl⟩ (Nat.le_of_ble_eq_true rfl) ?_
      exact cc2 p1 p2
set_option maxRecDepth 4000 in
theorem k_X5_readNever_30 {G : mG} {E : mE} {Q : mM → Prop} {μ : mM} (C : Cx G mX5_readNever E)  (cc1 : CtV G mX5_takeWord [.ref (gb G + 3), .ref (G.2.2.2.2.1 2)] μ (fun μ' => Wm G mX5_readNever E (bm G mX5_readNever E (pV Q)) μ' 36 [(0, .ref (gb G + 3))] [])) : Wm G mX5_readNever E (bm G mX5_readNever E (pV Q)) μ 30 [(0, .ref (gb G + 3))] [] := by
  refine L_aload_n C (i := 0) dX5_readNever_30 rfl rfl ?_
  refine L_ldcS C (i := 2) dX5_readNever_31 rfl rfl ?_
  refine L_invV1v C dX5_readNever_33 sh_3 cal_X5_takeWord lk_X5_94 ⟨Nat.le_of_ble_eq_true rfl, Nat.le_of_ble_eq_true rfl⟩ ⟨Nat.le_of_ble_eq_true rfl, Nat.le_of_ble_eq_true rfl⟩ (Nat.le_of_ble_eq_true rfl) ?_
  exact cc1
set_option maxRecDepth 4000 in
theorem k_X5_readNever_36 {G : mG} {E : mE} {B : mB} {μ : mM} (C : Cx G mX5_readNever E)  (kk1 : Wm G mX5_readNever E B μ 42 [(0, .ref (gb G + 3)), (1, .int 0), (2, .int 1), (3, .int 0)] []) : Wm G mX5_readNever E B μ 36 [(0, .ref (gb G + 3))] [] := by
  refine L_iconst C (v := 0) dX5_readNever_36 rfl ?_
  refine L_istore_n C (i := 1) dX5_readNever_37 rfl (Nat.le_of_ble_eq_true rfl) ?_
  refine L_iconst C (v := 1) dX5_readNever_38 rfl ?_
  refine L_istore_n C (i := 2) dX5_readNever_39 rfl (Nat.le_of_ble_eq_true rfl) ?_
  refine L_iconst C (v := 0) dX5_readNever_40 rfl ?_
  refine L_istore_n C (i := 3) dX5_readNever_41 rfl (Nat.le_of_ble_eq_true rfl) ?_
  exact kk1
set_option maxRecDepth 4000 in
theorem k_X5_readNever_42 {G : mG} {E : mE} {Q : mM → Prop} {μ : mM} (C : Cx G mX5_readNever E) {x1 : Int32} {x2 : Int32} {x3 : Int32} (kk1 : (x2 = 0 ∨ (¬ x2 = 0 ∧ (¬ (μ 3 5) = (-1) ∨ ((μ 3 5) = (-1) ∧ 3 < x3)))) → Wm G mX5_readNever E (bm G mX5_readNever E (pV Q)) μ 116 [(0, .ref (gb G + 3)), (1, .int x1)] []) (cc2 : ¬ x2 = 0 → (μ 3 5) = (-1) → ¬ 3 < x3 → ∀ v1 : Int32, ((¬ x3 = 3 ∧ v1 = 0) ∨ (x3 = 3 ∧ v1 = 1)) → CtI G mX5_readCell [.ref (gb G + 3), .int x1, .int v1] μ (fun r μ' => Wm G mX5_readNever E (bm G mX5_readNever E (pV Q)) μ' 75 [(0, .ref (gb G + 3)), (3, .int x3)] [.int r, .int x1])) : Wm G mX5_readNever E (bm G mX5_readNever E (pV Q)) μ 42 [(0, .ref (gb G + 3)), (1, .int x1), (2, .int x2), (3, .int x3)] [] := by
  refine L_iload_n C (i := 2) dX5_readNever_42 rfl rfl ?_
  refine L_if_eq C (tgt := 116) dX5_readNever_43 rfl (fun p1 => ?_) (fun p1 => ?_)
  · refine L_sub [0, 1] rfl ?_
    exact kk1 (Or.inl p1)
  · refine L_aload_n C (i := 0) dX5_readNever_46 rfl rfl ?_
    refine L_getI C dX5_readNever_47 sh_3 fl_X5_42 rfl ?_
    refine L_iconst C (v := (-1)) dX5_readNever_50 rfl ?_
    refine L_icmp_ne C (tgt := 116) dX5_readNever_51 rfl (fun p2 => ?_) (fun p2 => ?_)
    · refine L_sub [0, 1] rfl ?_
      exact kk1 (Or.inr ⟨p1, (Or.inl p2)⟩)
    · refine L_iload_n C (i := 3) dX5_readNever_54 rfl rfl ?_
      refine L_iconst C (v := 3) dX5_readNever_55 rfl ?_
      refine L_icmp_gt C (tgt := 116) dX5_readNever_56 rfl (fun p3 => ?_) (fun p3 => ?_)
      · refine L_sub [0, 1] rfl ?_
        exact kk1 (Or.inr ⟨p1, (Or.inr ⟨p2, p3⟩)⟩)
      · refine L_iload_n C (i := 1) dX5_readNever_59 rfl rfl ?_
        refine L_aload_n C (i := 0) dX5_readNever_60 rfl rfl ?_
        refine L_iload_n C (i := 1) dX5_readNever_61 rfl rfl ?_
        refine L_iload_n C (i := 3) dX5_readNever_62 rfl rfl ?_
        refine L_iconst C (v := 3) dX5_readNever_63 rfl ?_
        refine phi (fun v1 : Int32 => Wm G mX5_readNever E (bm G mX5_readNever E (pV Q)) μ 72 [(0, .ref (gb G + 3)), (3, .int x3)] [.int v1, .int x1, .ref (gb G + 3), .int x1]) (fun v1 : Int32 => (¬ x3 = 3 ∧ v1 = 0) ∨ (x3 = 3 ∧ v1 = 1)) (fun H => ?_) (fun v1 hv1 => ?_)
        · refine L_icmp_ne C (tgt := 71) dX5_readNever_64 rfl (fun p4 => ?_) (fun p4 => ?_)
          · refine L_iconst C (v := 0) dX5_readNever_71 rfl ?_
            refine L_sub [0, 3] rfl ?_
            exact H _ (Or.inl ⟨p4, rfl⟩)
          · refine L_iconst C (v := 1) dX5_readNever_67 rfl ?_
            refine L_goto C (tgt := 72) dX5_readNever_68 rfl ?_
            refine L_sub [0, 3] rfl ?_
            exact H _ (Or.inr ⟨p4, rfl⟩)
        refine L_invV2i C dX5_readNever_72 sh_3 cal_X5_readCell lk_X5_134 ⟨Nat.le_of_ble_eq_true rfl, Nat.le_of_ble_eq_true rfl⟩ ⟨Nat.le_of_ble_eq_true rfl, Nat.le_of_ble_eq_true rfl⟩ (Nat.le_of_ble_eq_true rfl) ?_
        exact cc2 p1 p2 p3 v1 hv1
set_option maxRecDepth 4000 in
theorem k_X5_readNever_75 {G : mG} {E : mE} {Q : mM → Prop} {μ : mM} (C : Cx G mX5_readNever E) {x3 : Int32} {sx0 : Int32} {sx1 : Int32} (kk1 : (¬ (μ 3 5) = (-1) ∨ ((μ 3 5) = (-1) ∧ ((μ 3 3) ≤ (μ 3 4) ∨ (¬ (μ 3 3) ≤ (μ 3 4) ∧ ¬ (μ 2 (μ 3 4).toNatClampNeg) = 38)))) → Wm G mX5_readNever E (bm G mX5_readNever E (pV Q)) μ 98 [(0, .ref (gb G + 3)), (1, .int (sx0 ||| sx1)), (3, .int x3)] []) (tt2 : (μ 3 5) = (-1) → ¬ (μ 3 3) ≤ (μ 3 4) → (μ 3 2).toNatClampNeg = 2) (ss3 : (μ 3 5) = (-1) → ¬ (μ 3 3) ≤ (μ 3 4) → vp_in (μ 3 4) 200) (cc4 : (μ 3 5) = (-1) → ¬ (μ 3 3) ≤ (μ 3 4) → (μ 2 (μ 3 4).toNatClampNeg) = 38 → CtV G mX5_takeByte [.ref (gb G + 3), .int 38] μ (fun μ' => Wm G mX5_readNever E (bm G mX5_readNever E (pV Q)) μ' 110 [(0, .ref (gb G + 3)), (1, .int (sx0 ||| sx1)), (2, .int 1), (3, .int x3)] [])) : Wm G mX5_readNever E (bm G mX5_readNever E (pV Q)) μ 75 [(0, .ref (gb G + 3)), (3, .int x3)] [.int sx1, .int sx0] := by
  refine L_ior C dX5_readNever_75 ?_
  refine L_istore_n C (i := 1) dX5_readNever_76 rfl (Nat.le_of_ble_eq_true rfl) ?_
  refine L_aload_n C (i := 0) dX5_readNever_77 rfl rfl ?_
  refine L_getI C dX5_readNever_78 sh_3 fl_X5_42 rfl ?_
  refine L_iconst C (v := (-1)) dX5_readNever_81 rfl ?_
  refine L_icmp_ne C (tgt := 98) dX5_readNever_82 rfl (fun p1 => ?_) (fun p1 => ?_)
  · exact kk1 (Or.inl p1)
  · refine L_aload_n C (i := 0) dX5_readNever_85 rfl rfl ?_
    refine L_bipush C (v := 38) dX5_readNever_86 rfl ?_
    refine L_invV1i C dX5_readNever_88 sh_3 cal_X5_isByte lk_X5_138 ⟨Nat.le_of_ble_eq_true rfl, Nat.le_of_ble_eq_true rfl⟩ ⟨Nat.le_of_ble_eq_true rfl, Nat.le_of_ble_eq_true rfl⟩ (Nat.le_of_ble_eq_true rfl) (a_X5_isByte (fun p2 => ?_) (fun p3 => tt2 p1 p3) (fun p4 => ss3 p1 p4) (fun p5 p6 => ?_))
    · refine L_if_eq C (tgt := 98) dX5_readNever_91 rfl (fun p7 => ?_) (fun p7 => absurd p7 (by decide))
      exact kk1 (Or.inr ⟨p1, p2⟩)
    · refine L_if_eq C (tgt := 98) dX5_readNever_91 rfl (fun p8 => absurd p8 (by decide)) (fun p8 => ?_)
      refine L_iconst C (v := 1) dX5_readNever_94 rfl ?_
      refine L_goto C (tgt := 99) dX5_readNever_95 rfl ?_
      refine L_istore_n C (i := 2) dX5_readNever_99 rfl (Nat.le_of_ble_eq_true rfl) ?_
      refine L_iload_n C (i := 2) dX5_readNever_100 rfl rfl ?_
      refine L_if_eq C (tgt := 110) dX5_readNever_101 rfl (fun p9 => absurd p9 (by decide)) (fun p9 => ?_)
      refine L_aload_n C (i := 0) dX5_readNever_104 rfl rfl ?_
      refine L_bipush C (v := 38) dX5_readNever_105 rfl ?_
      refine L_invV1v C dX5_readNever_107 sh_3 cal_X5_takeByte lk_X5_106 ⟨Nat.le_of_ble_eq_true rfl, Nat.le_of_ble_eq_true rfl⟩ ⟨Nat.le_of_ble_eq_true rfl, Nat.le_of_ble_eq_true rfl⟩ (Nat.le_of_ble_eq_true rfl) ?_
      exact cc4 p1 p5 p6
set_option maxRecDepth 4000 in
theorem k_X5_readNever_98 {G : mG} {E : mE} {B : mB} {μ : mM} (C : Cx G mX5_readNever E) {x1 : Int32} {x3 : Int32} (kk1 : Wm G mX5_readNever E B μ 110 [(0, .ref (gb G + 3)), (1, .int x1), (2, .int 0), (3, .int x3)] []) : Wm G mX5_readNever E B μ 98 [(0, .ref (gb G + 3)), (1, .int x1), (3, .int x3)] [] := by
  refine L_iconst C (v := 0) dX5_readNever_98 rfl ?_
  refine L_istore_n C (i := 2) dX5_readNever_99 rfl (Nat.le_of_ble_eq_true rfl) ?_
  refine L_iload_n C (i := 2) dX5_readNever_100 rfl rfl ?_
  refine L_if_eq C (tgt := 110) dX5_readNever_101 rfl (fun p1 => ?_) (fun p1 => absurd p1 (by decide))
  exact kk1
set_option maxRecDepth 4000 in
theorem k_X5_readNever_110 {G : mG} {E : mE} {B : mB} {μ : mM} (C : Cx G mX5_readNever E) {x1 : Int32} {x2 : Int32} {x3 : Int32} (kk1 : Wm G mX5_readNever E B μ 42 [(0, .ref (gb G + 3)), (1, .int x1), (2, .int x2), (3, .int (x3 + (1 : Int32)))] []) : Wm G mX5_readNever E B μ 110 [(0, .ref (gb G + 3)), (1, .int x1), (2, .int x2), (3, .int x3)] [] := by
  refine L_iinc C (v := 1) dX5_readNever_110 rfl rfl (Nat.le_of_ble_eq_true rfl) ?_
  refine L_goto C (tgt := 42) dX5_readNever_113 rfl ?_
  exact kk1
set_option maxRecDepth 4000 in
theorem k_X5_readNever_116 {G : mG} {E : mE} {Q : mM → Prop} {μ : mM} (C : Cx G mX5_readNever E) {x1 : Int32} (kk1 : ¬ (μ 3 5) = (-1) → Wm G mX5_readNever E (bm G mX5_readNever E (pV Q)) μ 132 [] []) (cc2 : (μ 3 5) = (-1) → CtV G mX4_addNever [.ref (gb G + 4), .int x1] μ (fun μ' => Wm G mX5_readNever E (bm G mX5_readNever E (pV Q)) μ' 132 [] [])) : Wm G mX5_readNever E (bm G mX5_readNever E (pV Q)) μ 116 [(0, .ref (gb G + 3)), (1, .int x1)] [] := by
  refine L_aload_n C (i := 0) dX5_readNever_116 rfl rfl ?_
  refine L_getI C dX5_readNever_117 sh_3 fl_X5_42 rfl ?_
  refine L_iconst C (v := (-1)) dX5_readNever_120 rfl ?_
  refine L_icmp_ne C (tgt := 132) dX5_readNever_121 rfl (fun p1 => ?_) (fun p1 => ?_)
  · refine L_sub [] rfl ?_
    exact kk1 p1
  · refine L_aload_n C (i := 0) dX5_readNever_124 rfl rfl ?_
    refine L_getC C (c' := 4) dX5_readNever_125 sh_3 fl_X5_12 rfl rfl ?_
    refine L_iload_n C (i := 1) dX5_readNever_128 rfl rfl ?_
    refine L_sub [] rfl ?_
    refine L_invV1v C dX5_readNever_129 sh_4 cal_X4_addNever lk_X5_142 ⟨Nat.le_of_ble_eq_true rfl, Nat.le_of_ble_eq_true rfl⟩ ⟨Nat.le_of_ble_eq_true rfl, Nat.le_of_ble_eq_true rfl⟩ (Nat.le_of_ble_eq_true rfl) ?_
    exact cc2 p1
set_option maxRecDepth 4000 in
theorem k_X5_readNever_132 {G : mG} {E : mE} {Q : mM → Prop} {μ : mM} (C : Cx G mX5_readNever E)  (rr1 : Q μ) : Wm G mX5_readNever E (bm G mX5_readNever E (pV Q)) μ 132 [] [] := by
  exact L_irV C dX5_readNever_132 rfl (rr1)
set_option maxRecDepth 4000 in
theorem k_X5_readLine_0 {G : mG} {E : mE} {Q : mM → Prop} {μ : mM} (C : Cx G mX5_readLine E)  (cc1 : CtV G mX5_takeByte [.ref (gb G + 3), .int 59] μ (fun μ' => Wm G mX5_readLine E (bm G mX5_readLine E (pV Q)) μ' 6 [(0, .ref (gb G + 3))] [])) : Wm G mX5_readLine E (bm G mX5_readLine E (pV Q)) μ 0 [(0, .ref (gb G + 3))] [] := by
  refine L_aload_n C (i := 0) dX5_readLine_0 rfl rfl ?_
  refine L_bipush C (v := 59) dX5_readLine_1 rfl ?_
  refine L_invV1v C dX5_readLine_3 sh_3 cal_X5_takeByte lk_X5_106 ⟨Nat.le_of_ble_eq_true rfl, Nat.le_of_ble_eq_true rfl⟩ ⟨Nat.le_of_ble_eq_true rfl, Nat.le_of_ble_eq_true rfl⟩ (Nat.le_of_ble_eq_true rfl) ?_
  exact cc1
theorem e_X5_readLine {G : mG} {Q : mM → Prop} {μ : mM}  (k : ∀ E, Cx G mX5_readLine E → Wm G mX5_readLine E (bm G mX5_readLine E (pV Q)) μ 0 [(0, .ref (gb G + 3))] []) : CtV G mX5_readLine [.ref (gb G + 3)] μ Q := CtV.of pn_X5 (Nat.le_of_ble_eq_true rfl) k
set_option maxRecDepth 4000 in
theorem k_X5_readLine_6 {G : mG} {E : mE} {Q : mM → Prop} {μ : mM} (C : Cx G mX5_readLine E)  (cc1 : (μ 3 5) = (-1) → CtI G mX5_isWord [.ref (gb G + 3), .ref (G.2.2.2.2.1 1)] μ (fun r μ' => Wm G mX5_readLine E (bm G mX5_readLine E (pV Q)) μ' 21 [(0, .ref (gb G + 3))] [.int r])) (rr2 : ¬ (μ 3 5) = (-1) → Q μ) : Wm G mX5_readLine E (bm G mX5_readLine E (pV Q)) μ 6 [(0, .ref (gb G + 3))] [] := by
  refine L_aload_n C (i := 0) dX5_readLine_6 rfl rfl ?_
  refine L_getI C dX5_readLine_7 sh_3 fl_X5_42 rfl ?_
  refine L_iconst C (v := (-1)) dX5_readLine_10 rfl ?_
  refine L_icmp_eq C (tgt := 15) dX5_readLine_11 rfl (fun p1 => ?_) (fun p1 => ?_)
  · refine L_aload_n C (i := 0) dX5_readLine_15 rfl rfl ?_
    refine L_ldcS C (i := 1) dX5_readLine_16 rfl rfl ?_
    refine L_invV1i C dX5_readLine_18 sh_3 cal_X5_isWord lk_X5_111 ⟨Nat.le_of_ble_eq_true rfl, Nat.le_of_ble_eq_true rfl⟩ ⟨Nat.le_of_ble_eq_true rfl, Nat.le_of_ble_eq_true rfl⟩ (Nat.le_of_ble_eq_true rfl) ?_
    exact cc1 p1
  · exact L_irV C dX5_readLine_14 rfl (rr2 p1)
set_option maxRecDepth 4000 in
theorem k_X5_readLine_21 {G : mG} {E : mE} {Q : mM → Prop} {μ : mM} (C : Cx G mX5_readLine E) {sx0 : Int32} (cc1 : sx0 = 0 → CtV G mX5_readNever [.ref (gb G + 3)] μ (fun μ' => Wm G mX5_readLine E (bm G mX5_readLine E (pV Q)) μ' 35 [] [])) (cc2 : ¬ sx0 = 0 → CtV G mX5_readStrength [.ref (gb G + 3)] μ (fun μ' => Wm G mX5_readLine E (bm G mX5_readLine E (pV Q)) μ' 28 [] [])) : Wm G mX5_readLine E (bm G mX5_readLine E (pV Q)) μ 21 [(0, .ref (gb G + 3))] [.int sx0] := by
  refine L_if_eq C (tgt := 31) dX5_readLine_21 rfl (fun p1 => ?_) (fun p1 => ?_)
  · refine L_aload_n C (i := 0) dX5_readLine_31 rfl rfl ?_
    refine L_sub [] rfl ?_
    refine L_invV0v C dX5_readLine_32 sh_3 cal_X5_readNever lk_X5_118 ⟨Nat.le_of_ble_eq_true rfl, Nat.le_of_ble_eq_true rfl⟩ ⟨Nat.le_of_ble_eq_true rfl, Nat.le_of_ble_eq_true rfl⟩ (Nat.le_of_ble_eq_true rfl) ?_
    exact cc1 p1
  · refine L_aload_n C (i := 0) dX5_readLine_24 rfl rfl ?_
    refine L_sub [] rfl ?_
    refine L_invV0v C dX5_readLine_25 sh_3 cal_X5_readStrength lk_X5_115 ⟨Nat.le_of_ble_eq_true rfl, Nat.le_of_ble_eq_true rfl⟩ ⟨Nat.le_of_ble_eq_true rfl, Nat.le_of_ble_eq_true rfl⟩ (Nat.le_of_ble_eq_true rfl) ?_
    exact cc2 p1
set_option maxRecDepth 4000 in
theorem k_X5_readLine_28 {G : mG} {E : mE} {B : mB} {μ : mM} (C : Cx G mX5_readLine E)  (kk1 : Wm G mX5_readLine E B μ 35 [] []) : Wm G mX5_readLine E B μ 28 [] [] := by
  refine L_goto C (tgt := 35) dX5_readLine_28 rfl ?_
  exact kk1
set_option maxRecDepth 4000 in
theorem k_X5_readLine_35 {G : mG} {E : mE} {Q : mM → Prop} {μ : mM} (C : Cx G mX5_readLine E)  (rr1 : Q μ) : Wm G mX5_readLine E (bm G mX5_readLine E (pV Q)) μ 35 [] [] := by
  exact L_irV C dX5_readLine_35 rfl (rr1)
set_option maxRecDepth 4000 in
theorem k_X0_nextPick_0 {G : mG} {E : mE} {B : mB} {μ : mM} (C : Cx G mX0_nextPick E) {c0 : Nat} (h0 : sh c0 = (0, 0)) {x1 : Int32} (kk1 : Wm G mX0_nextPick E B μ 7 [(0, .ref (gb G + c0)), (1, .int x1), (2, .int ((μ c0 1) - (1 : Int32)))] []) : Wm G mX0_nextPick E B μ 0 [(0, .ref (gb G + c0)), (1, .int x1)] [] := by
  refine L_aload_n C (i := 0) dX0_nextPick_0 rfl rfl ?_
  refine L_getI C dX0_nextPick_1 h0 fl_X0_30 rfl ?_
  refine L_iconst C (v := 1) dX0_nextPick_4 rfl ?_
  refine L_isub C dX0_nextPick_5 ?_
  refine L_istore_n C (i := 2) dX0_nextPick_6 rfl (Nat.le_of_ble_eq_true rfl) ?_
  exact kk1
theorem e_X0_nextPick {G : mG} {Q : Int32 → mM → Prop} {μ : mM} {c0 : Nat} (h0 : sh c0 = (0, 0)) {x1 : Int32} (k : ∀ E, Cx G mX0_nextPick E → Wm G mX0_nextPick E (bm G mX0_nextPick E (pI Q)) μ 0 [(0, .ref (gb G + c0)), (1, .int x1)] []) : CtI G mX0_nextPick [.ref (gb G + c0), .int x1] μ Q := CtI.of pn_X0 (Nat.le_of_ble_eq_true rfl) k
set_option maxRecDepth 4000 in
theorem k_X0_nextPick_7 {G : mG} {E : mE} {B : mB} {μ : mM} (C : Cx G mX0_nextPick E) {c0 : Nat} (h0 : sh c0 = (0, 0)) {x1 : Int32} {x2 : Int32} (kk1 : (x2 < 0 ∨ (¬ x2 < 0 ∧ (μ (c0 + 3) x2.toNatClampNeg) < ((x1 - (μ c0 1)) + x2))) → Wm G mX0_nextPick E B μ 34 [(0, .ref (gb G + c0)), (2, .int x2)] []) (ss2 : ¬ x2 < 0 → vp_in x2 3) (kk3 : ¬ x2 < 0 → ¬ (μ (c0 + 3) x2.toNatClampNeg) < ((x1 - (μ c0 1)) + x2) → Wm G mX0_nextPick E B μ 7 [(0, .ref (gb G + c0)), (1, .int x1), (2, .int (x2 + ((-1) : Int32)))] []) : Wm G mX0_nextPick E B μ 7 [(0, .ref (gb G + c0)), (1, .int x1), (2, .int x2)] [] := by
  refine L_iload_n C (i := 2) dX0_nextPick_7 rfl rfl ?_
  refine L_if_lt C (tgt := 34) dX0_nextPick_8 rfl (fun p1 => ?_) (fun p1 => ?_)
  · refine L_sub [0, 2] rfl ?_
    exact kk1 (Or.inl p1)
  · refine L_aload_n C (i := 0) dX0_nextPick_11 rfl rfl ?_
    refine L_getC C (c' := (c0 + 3)) dX0_nextPick_12 h0 fl_X0_18 rfl rfl ?_
    refine L_iload_n C (i := 2) dX0_nextPick_15 rfl rfl ?_
    refine L_iald C dX0_nextPick_16 (shd_0_3 h0) (ss2 p1) ?_
    refine L_iload_n C (i := 1) dX0_nextPick_17 rfl rfl ?_
    refine L_aload_n C (i := 0) dX0_nextPick_18 rfl rfl ?_
    refine L_getI C dX0_nextPick_19 h0 fl_X0_30 rfl ?_
    refine L_isub C dX0_nextPick_22 ?_
    refine L_iload_n C (i := 2) dX0_nextPick_23 rfl rfl ?_
    refine L_iadd C dX0_nextPick_24 ?_
    refine L_icmp_lt C (tgt := 34) dX0_nextPick_25 rfl (fun p2 => ?_) (fun p2 => ?_)
    · refine L_sub [0, 2] rfl ?_
      exact kk1 (Or.inr ⟨p1, p2⟩)
    · refine L_iinc C (v := (-1)) dX0_nextPick_28 rfl rfl (Nat.le_of_ble_eq_true rfl) ?_
      refine L_goto C (tgt := 7) dX0_nextPick_31 rfl ?_
      exact kk3 p1 p2
set_option maxRecDepth 4000 in
theorem k_X0_nextPick_34 {G : mG} {E : mE} {Q : Int32 → mM → Prop} {μ : mM} (C : Cx G mX0_nextPick E) {c0 : Nat} (h0 : sh c0 = (0, 0)) {x2 : Int32} (ss1 : 0 ≤ x2 → vp_in x2 3) (kk2 : 0 ≤ x2 → Wm G mX0_nextPick E (bm G mX0_nextPick E (pI Q)) (ms μ (c0 + 3) x2.toNatClampNeg ((μ (c0 + 3) x2.toNatClampNeg) + (1 : Int32))) 54 [(0, .ref (gb G + c0)), (3, .int (x2 + (1 : Int32)))] []) (rr3 : ¬ 0 ≤ x2 → Q 0 μ) : Wm G mX0_nextPick E (bm G mX0_nextPick E (pI Q)) μ 34 [(0, .ref (gb G + c0)), (2, .int x2)] [] := by
  refine L_iload_n C (i := 2) dX0_nextPick_34 rfl rfl ?_
  refine L_if_ge C (tgt := 40) dX0_nextPick_35 rfl (fun p1 => ?_) (fun p1 => ?_)
  · refine L_aload_n C (i := 0) dX0_nextPick_40 rfl rfl ?_
    refine L_getC C (c' := (c0 + 3)) dX0_nextPick_41 h0 fl_X0_18 rfl rfl ?_
    refine L_iload_n C (i := 2) dX0_nextPick_44 rfl rfl ?_
    refine L_dup2 C dX0_nextPick_45 rfl rfl ?_
    refine L_iald C dX0_nextPick_46 (shd_0_3 h0) (ss1 p1) ?_
    refine L_iconst C (v := 1) dX0_nextPick_47 rfl ?_
    refine L_iadd C dX0_nextPick_48 ?_
    refine L_iast C dX0_nextPick_49 (shd_0_3 h0) (ss1 p1) ?_
    refine L_iload_n C (i := 2) dX0_nextPick_50 rfl rfl ?_
    refine L_iconst C (v := 1) dX0_nextPick_51 rfl ?_
    refine L_iadd C dX0_nextPick_52 ?_
    refine L_istore_n C (i := 3) dX0_nextPick_53 rfl (Nat.le_of_ble_eq_true rfl) ?_
    refine L_sub [0, 2] rfl ?_
    exact kk2 p1
  · refine L_iconst C (v := 0) dX0_nextPick_38 rfl ?_
    exact L_irZ C dX0_nextPick_39 rfl (by decide) (rr3 p1)
set_option maxRecDepth 4000 in
theorem k_X0_nextPick_54 {G : mG} {E : mE} {Q : Int32 → mM → Prop} {μ : mM} (C : Cx G mX0_nextPick E) {c0 : Nat} (h0 : sh c0 = (0, 0)) {x3 : Int32} (rr1 : (μ c0 1) ≤ x3 → Q 1 μ) (ss2 : ¬ (μ c0 1) ≤ x3 → vp_in (x3 - (1 : Int32)) 3) (ss3 : ¬ (μ c0 1) ≤ x3 → vp_in x3 3) (kk4 : ¬ (μ c0 1) ≤ x3 → Wm G mX0_nextPick E (bm G mX0_nextPick E (pI Q)) (ms μ (c0 + 3) x3.toNatClampNeg ((μ (c0 + 3) (x3 - (1 : Int32)).toNatClampNeg) + (1 : Int32))) 54 [(0, .ref (gb G + c0)), (3, .int (x3 + (1 : Int32)))] []) : Wm G mX0_nextPick E (bm G mX0_nextPick E (pI Q)) μ 54 [(0, .ref (gb G + c0)), (3, .int x3)] [] := by
  refine L_iload_n C (i := 3) dX0_nextPick_54 rfl rfl ?_
  refine L_aload_n C (i := 0) dX0_nextPick_55 rfl rfl ?_
  refine L_getI C dX0_nextPick_56 h0 fl_X0_30 rfl ?_
  refine L_icmp_ge C (tgt := 84) dX0_nextPick_59 rfl (fun p1 => ?_) (fun p1 => ?_)
  · refine L_iconst C (v := 1) dX0_nextPick_84 rfl ?_
    exact L_irZ C dX0_nextPick_85 rfl (by decide) (rr1 p1)
  · refine L_aload_n C (i := 0) dX0_nextPick_62 rfl rfl ?_
    refine L_getC C (c' := (c0 + 3)) dX0_nextPick_63 h0 fl_X0_18 rfl rfl ?_
    refine L_iload_n C (i := 3) dX0_nextPick_66 rfl rfl ?_
    refine L_aload_n C (i := 0) dX0_nextPick_67 rfl rfl ?_
    refine L_getC C (c' := (c0 + 3)) dX0_nextPick_68 h0 fl_X0_18 rfl rfl ?_
    refine L_iload_n C (i := 3) dX0_nextPick_71 rfl rfl ?_
    refine L_iconst C (v := 1) dX0_nextPick_72 rfl ?_
    refine L_isub C dX0_nextPick_73 ?_
    refine L_iald C dX0_nextPick_74 (shd_0_3 h0) (ss2 p1) ?_
    refine L_iconst C (v := 1) dX0_nextPick_75 rfl ?_
    refine L_iadd C dX0_nextPick_76 ?_
    refine L_iast C dX0_nextPick_77 (shd_0_3 h0) (ss3 p1) ?_
    refine L_iinc C (v := 1) dX0_nextPick_78 rfl rfl (Nat.le_of_ble_eq_true rfl) ?_
    refine L_goto C (tgt := 54) dX0_nextPick_81 rfl ?_
    exact kk4 p1
set_option maxRecDepth 4000 in
theorem k_X0_build_0 {G : mG} {E : mE} {Q : mM → Prop} {μ : mM} (C : Cx G mX0_build E) {c0 : Nat} (h0 : sh c0 = (0, 0)) {c1 : Nat} (h1 : sh c1 = (0, 3)) {x2 : Int32} (ss1 : cpyOk 0 0 8 8 8) (kk2 : Wm G mX0_build E (bm G mX0_build E (pV Q)) (cpy (ms (ms μ c0 1 (if 3 < x2 then 3 else x2)) c0 0 0) (c1 + 1) (c0 + 4) 0 0 8) 31 [(0, .ref (gb G + c0)), (1, .ref (gb G + c1)), (3, .int 0)] []) : Wm G mX0_build E (bm G mX0_build E (pV Q)) μ 0 [(0, .ref (gb G + c0)), (1, .ref (gb G + c1)), (2, .int x2)] [] := by
  refine L_aload_n C (i := 0) dX0_build_0 rfl rfl ?_
  refine L_iload_n C (i := 2) dX0_build_1 rfl rfl ?_
  refine L_iconst C (v := 3) dX0_build_2 rfl ?_
  refine L_min C dX0_build_3 lk_X0_24 mmin_stat math_ini mmin_code (Nat.le_of_ble_eq_true rfl) (Nat.le_of_ble_eq_true rfl) (Nat.le_of_ble_eq_true rfl) ⟨Nat.le_of_ble_eq_true rfl, Nat.le_of_ble_eq_true rfl⟩ ?_
  refine L_putI C dX0_build_6 h0 fl_X0_30 rfl rfl rfl ?_
  refine L_aload_n C (i := 0) dX0_build_9 rfl rfl ?_
  refine L_iconst C (v := 0) dX0_build_10 rfl ?_
  refine L_putI C dX0_build_11 h0 fl_X0_34 rfl rfl rfl ?_
  refine L_aload_n C (i := 1) dX0_build_14 rfl rfl ?_
  refine L_getC C (c' := (c1 + 1)) dX0_build_15 h1 fl_X0_37 rfl rfl ?_
  refine L_iconst C (v := 0) dX0_build_18 rfl ?_
  refine L_aload_n C (i := 0) dX0_build_19 rfl rfl ?_
  refine L_getC C (c' := (c0 + 4)) dX0_build_20 h0 fl_X0_21 rfl rfl ?_
  refine L_iconst C (v := 0) dX0_build_23 rfl ?_
  refine L_bipush C (v := 8) dX0_build_24 rfl ?_
  refine L_cpy C dX0_build_26 (shd_3_1 h1) (shd_0_4 h0) lk_X0_40 ac_nat ac_stat ac_ini (Nat.le_of_ble_eq_true rfl) (Nat.le_of_ble_eq_true rfl) (Nat.le_of_ble_eq_true rfl) (ss1) ?_
  refine L_iconst C (v := 0) dX0_build_29 rfl ?_
  refine L_istore_n C (i := 3) dX0_build_30 rfl (Nat.le_of_ble_eq_true rfl) ?_
  refine L_sub [0, 1, 3] rfl ?_
  exact kk2
theorem e_X0_build {G : mG} {Q : mM → Prop} {μ : mM} {c0 : Nat} (h0 : sh c0 = (0, 0)) {c1 : Nat} (h1 : sh c1 = (0, 3)) {x2 : Int32} (k : ∀ E, Cx G mX0_build E → Wm G mX0_build E (bm G mX0_build E (pV Q)) μ 0 [(0, .ref (gb G + c0)), (1, .ref (gb G + c1)), (2, .int x2)] []) : CtV G mX0_build [.ref (gb G + c0), .ref (gb G + c1), .int x2] μ Q := CtV.of pn_X0 (Nat.le_of_ble_eq_true rfl) k
set_option maxRecDepth 4000 in
theorem k_X0_build_31 {G : mG} {E : mE} {B : mB} {μ : mM} (C : Cx G mX0_build E) {c0 : Nat} (h0 : sh c0 = (0, 0)) {c1 : Nat} (h1 : sh c1 = (0, 3)) {x3 : Int32} (kk1 : (μ c0 1) ≤ x3 → ∀ v1 : Int32, ((((μ c0 1) < 1 ∨ (¬ (μ c0 1) < 1 ∧ (μ c1 0) < (μ c0 1))) ∧ v1 = 0) ∨ (¬ (μ c0 1) < 1 ∧ ¬ (μ c1 0) < (μ c0 1) ∧ v1 = 1)) → Wm G mX0_build E B μ 77 [(0, .ref (gb G + c0)), (1, .ref (gb G + c1)), (3, .int v1)] []) (ss2 : ¬ (μ c0 1) ≤ x3 → vp_in x3 3) (kk3 : ¬ (μ c0 1) ≤ x3 → Wm G mX0_build E B (ms μ (c0 + 3) x3.toNatClampNeg x3) 31 [(0, .ref (gb G + c0)), (1, .ref (gb G + c1)), (3, .int (x3 + (1 : Int32)))] []) : Wm G mX0_build E B μ 31 [(0, .ref (gb G + c0)), (1, .ref (gb G + c1)), (3, .int x3)] [] := by
  refine L_iload_n C (i := 3) dX0_build_31 rfl rfl ?_
  refine L_aload_n C (i := 0) dX0_build_32 rfl rfl ?_
  refine L_getI C dX0_build_33 h0 fl_X0_30 rfl ?_
  refine L_icmp_ge C (tgt := 52) dX0_build_36 rfl (fun p1 => ?_) (fun p1 => ?_)
  · refine L_aload_n C (i := 0) dX0_build_52 rfl rfl ?_
    refine L_getI C dX0_build_53 h0 fl_X0_30 rfl ?_
    refine L_iconst C (v := 1) dX0_build_56 rfl ?_
    refine phi (fun v1 : Int32 => Wm G mX0_build E B μ 76 [(0, .ref (gb G + c0)), (1, .ref (gb G + c1))] [.int v1]) (fun v1 : Int32 => (((μ c0 1) < 1 ∨ (¬ (μ c0 1) < 1 ∧ (μ c1 0) < (μ c0 1))) ∧ v1 = 0) ∨ (¬ (μ c0 1) < 1 ∧ ¬ (μ c1 0) < (μ c0 1) ∧ v1 = 1)) (fun H => ?_) (fun v1 hv1 => ?_)
    · refine L_icmp_lt C (tgt := 75) dX0_build_57 rfl (fun p2 => ?_) (fun p2 => ?_)
      · refine L_iconst C (v := 0) dX0_build_75 rfl ?_
        refine L_sub [0, 1] rfl ?_
        exact H _ (Or.inl ⟨(Or.inl p2), rfl⟩)
      · refine L_aload_n C (i := 0) dX0_build_60 rfl rfl ?_
        refine L_getI C dX0_build_61 h0 fl_X0_30 rfl ?_
        refine L_aload_n C (i := 1) dX0_build_64 rfl rfl ?_
        refine L_getI C dX0_build_65 h1 fl_X0_46 rfl ?_
        refine L_icmp_gt C (tgt := 75) dX0_build_68 rfl (fun p3 => ?_) (fun p3 => ?_)
        · refine L_iconst C (v := 0) dX0_build_75 rfl ?_
          refine L_sub [0, 1] rfl ?_
          exact H _ (Or.inl ⟨(Or.inr ⟨p2, p3⟩), rfl⟩)
        · refine L_iconst C (v := 1) dX0_build_71 rfl ?_
          refine L_goto C (tgt := 76) dX0_build_72 rfl ?_
          refine L_sub [0, 1] rfl ?_
          exact H _ (Or.inr ⟨p2, p3, rfl⟩)
    refine L_istore_n C (i := 3) dX0_build_76 rfl (Nat.le_of_ble_eq_true rfl) ?_
    exact kk1 p1 v1 hv1
  · refine L_aload_n C (i := 0) dX0_build_39 rfl rfl ?_
    refine L_getC C (c' := (c0 + 3)) dX0_build_40 h0 fl_X0_18 rfl rfl ?_
    refine L_iload_n C (i := 3) dX0_build_43 rfl rfl ?_
    refine L_iload_n C (i := 3) dX0_build_44 rfl rfl ?_
    refine L_iast C dX0_build_45 (shd_0_3 h0) (ss2 p1) ?_
    refine L_iinc C (v := 1) dX0_build_46 rfl rfl (Nat.le_of_ble_eq_true rfl) ?_
    refine L_goto C (tgt := 31) dX0_build_49 rfl ?_
    exact kk3 p1
set_option maxRecDepth 4000 in
theorem k_X0_build_77 {G : mG} {E : mE} {Q : mM → Prop} {μ : mM} (C : Cx G mX0_build E) {c0 : Nat} (h0 : sh c0 = (0, 0)) {c1 : Nat} (h1 : sh c1 = (0, 3)) {x3 : Int32} (rr1 : (x3 = 0 ∨ (¬ x3 = 0 ∧ 56 ≤ (μ c0 0))) → Q μ) (kk2 : ¬ x3 = 0 → ¬ 56 ≤ (μ c0 0) → Wm G mX0_build E (bm G mX0_build E (pV Q)) μ 96 [(0, .ref (gb G + c0)), (1, .ref (gb G + c1)), (4, .int 1), (5, .int 0)] []) : Wm G mX0_build E (bm G mX0_build E (pV Q)) μ 77 [(0, .ref (gb G + c0)), (1, .ref (gb G + c1)), (3, .int x3)] [] := by
  refine L_iload_n C (i := 3) dX0_build_77 rfl rfl ?_
  refine L_if_eq C (tgt := 194) dX0_build_78 rfl (fun p1 => ?_) (fun p1 => ?_)
  · exact L_irV C dX0_build_194 rfl (rr1 (Or.inl p1))
  · refine L_aload_n C (i := 0) dX0_build_81 rfl rfl ?_
    refine L_getI C dX0_build_82 h0 fl_X0_34 rfl ?_
    refine L_bipush C (v := 56) dX0_build_85 rfl ?_
    refine L_icmp_ge C (tgt := 194) dX0_build_87 rfl (fun p2 => ?_) (fun p2 => ?_)
    · exact L_irV C dX0_build_194 rfl (rr1 (Or.inr ⟨p1, p2⟩))
    · refine L_iconst C (v := 1) dX0_build_90 rfl ?_
      refine L_istore C dX0_build_91 (Nat.le_of_ble_eq_true rfl) ?_
      refine L_iconst C (v := 0) dX0_build_93 rfl ?_
      refine L_istore C dX0_build_94 (Nat.le_of_ble_eq_true rfl) ?_
      refine L_sub [0, 1, 3, 4] rfl ?_
      exact kk2 p1 p2
set_option maxRecDepth 4000 in
theorem k_X0_build_96 {G : mG} {E : mE} {Q : mM → Prop} {μ : mM} (C : Cx G mX0_build E) {c0 : Nat} (h0 : sh c0 = (0, 0)) {c1 : Nat} (h1 : sh c1 = (0, 3)) {x4 : Int32} {x5 : Int32} (ss1 : (μ c0 1) ≤ x5 → vp_in (μ c0 0) 57) (ss2 : (μ c0 1) ≤ x5 → vp_in ((μ c0 0) + (1 : Int32)) 57) (cc3 : (μ c0 1) ≤ x5 → CtI G mX0_nextPick [.ref (gb G + c0), .int ((ms (ms μ (c0 + 2) ((μ c0 0) + (1 : Int32)).toNatClampNeg ((μ (c0 + 2) (μ c0 0).toNatClampNeg) + x4)) c0 0 (((ms μ (c0 + 2) ((μ c0 0) + (1 : Int32)).toNatClampNeg ((μ (c0 + 2) (μ c0 0).toNatClampNeg) + x4)) c0 0) + (1 : Int32))) c1 0)] (ms (ms μ (c0 + 2) ((μ c0 0) + (1 : Int32)).toNatClampNeg ((μ (c0 + 2) (μ c0 0).toNatClampNeg) + x4)) c0 0 (((ms μ (c0 + 2) ((μ c0 0) + (1 : Int32)).toNatClampNeg ((μ (c0 + 2) (μ c0 0).toNatClampNeg) + x4)) c0 0) + (1 : Int32))) (fun r μ' => Wm G mX0_build E (bm G mX0_build E (pV Q)) μ' 190 [(0, .ref (gb G + c0)), (1, .ref (gb G + c1))] [.int r])) (ss4 : ¬ (μ c0 1) ≤ x5 → vp_in x5 3) (ss5 : ¬ (μ c0 1) ≤ x5 → vp_in (((μ c0 0) * (3 : Int32)) + x5) 168) (ss6 : ¬ (μ c0 1) ≤ x5 → vp_in ((ms μ (c0 + 1) (((μ c0 0) * (3 : Int32)) + x5).toNatClampNeg (μ (c0 + 3) x5.toNatClampNeg)) (c0 + 3) x5.toNatClampNeg) 8) (kk7 : ¬ (μ c0 1) ≤ x5 → Wm G mX0_build E (bm G mX0_build E (pV Q)) (ms μ (c0 + 1) (((μ c0 0) * (3 : Int32)) + x5).toNatClampNeg (μ (c0 + 3) x5.toNatClampNeg)) 96 [(0, .ref (gb G + c0)), (1, .ref (gb G + c1)), (4, .int (x4 * ((ms μ (c0 + 1) (((μ c0 0) * (3 : Int32)) + x5).toNatClampNeg (μ (c0 + 3) x5.toNatClampNeg)) (c0 + 4) ((ms μ (c0 + 1) (((μ c0 0) * (3 : Int32)) + x5).toNatClampNeg (μ (c0 + 3) x5.toNatClampNeg)) (c0 + 3) x5.toNatClampNeg).toNatClampNeg))), (5, .int (x5 + (1 : Int32)))] []) : Wm G mX0_build E (bm G mX0_build E (pV Q)) μ 96 [(0, .ref (gb G + c0)), (1, .ref (gb G + c1)), (4, .int x4), (5, .int x5)] [] := by
  refine L_iload C dX0_build_96 rfl ?_
  refine L_aload_n C (i := 0) dX0_build_98 rfl rfl ?_
  refine L_getI C dX0_build_99 h0 fl_X0_30 rfl ?_
  refine L_icmp_ge C (tgt := 149) dX0_build_102 rfl (fun p1 => ?_) (fun p1 => ?_)
  · refine L_aload_n C (i := 0) dX0_build_149 rfl rfl ?_
    refine L_getC C (c' := (c0 + 2)) dX0_build_150 h0 fl_X0_15 rfl rfl ?_
    refine L_aload_n C (i := 0) dX0_build_153 rfl rfl ?_
    refine L_getI C dX0_build_154 h0 fl_X0_34 rfl ?_
    refine L_iconst C (v := 1) dX0_build_157 rfl ?_
    refine L_iadd C dX0_build_158 ?_
    refine L_aload_n C (i := 0) dX0_build_159 rfl rfl ?_
    refine L_getC C (c' := (c0 + 2)) dX0_build_160 h0 fl_X0_15 rfl rfl ?_
    refine L_aload_n C (i := 0) dX0_build_163 rfl rfl ?_
    refine L_getI C dX0_build_164 h0 fl_X0_34 rfl ?_
    refine L_iald C dX0_build_167 (shd_0_2 h0) (ss1 p1) ?_
    refine L_iload C dX0_build_168 rfl ?_
    refine L_iadd C dX0_build_170 ?_
    refine L_iast C dX0_build_171 (shd_0_2 h0) (ss2 p1) ?_
    refine L_aload_n C (i := 0) dX0_build_172 rfl rfl ?_
    refine L_dup C dX0_build_173 rfl ?_
    refine L_getI C dX0_build_174 h0 fl_X0_34 rfl ?_
    refine L_iconst C (v := 1) dX0_build_177 rfl ?_
    refine L_iadd C dX0_build_178 ?_
    refine L_putI C dX0_build_179 h0 fl_X0_34 rfl rfl rfl ?_
    refine L_aload_n C (i := 0) dX0_build_182 rfl rfl ?_
    refine L_aload_n C (i := 1) dX0_build_183 rfl rfl ?_
    refine L_getI C dX0_build_184 h1 fl_X0_46 rfl ?_
    refine L_sub [0, 1] rfl ?_
    refine L_invV1i C dX0_build_187 h0 cal_X0_nextPick lk_X0_48 ⟨Nat.le_of_ble_eq_true rfl, Nat.le_of_ble_eq_true rfl⟩ ⟨Nat.le_of_ble_eq_true rfl, Nat.le_of_ble_eq_true rfl⟩ (Nat.le_of_ble_eq_true rfl) ?_
    exact cc3 p1
  · refine L_aload_n C (i := 0) dX0_build_105 rfl rfl ?_
    refine L_getC C (c' := (c0 + 1)) dX0_build_106 h0 fl_X0_9 rfl rfl ?_
    refine L_aload_n C (i := 0) dX0_build_109 rfl rfl ?_
    refine L_getI C dX0_build_110 h0 fl_X0_34 rfl ?_
    refine L_iconst C (v := 3) dX0_build_113 rfl ?_
    refine L_imul C dX0_build_114 ?_
    refine L_iload C dX0_build_115 rfl ?_
    refine L_iadd C dX0_build_117 ?_
    refine L_aload_n C (i := 0) dX0_build_118 rfl rfl ?_
    refine L_getC C (c' := (c0 + 3)) dX0_build_119 h0 fl_X0_18 rfl rfl ?_
    refine L_iload C dX0_build_122 rfl ?_
    refine L_iald C dX0_build_124 (shd_0_3 h0) (ss4 p1) ?_
    refine L_iast C dX0_build_125 (shd_0_1 h0) (ss5 p1) ?_
    refine L_iload C dX0_build_126 rfl ?_
    refine L_aload_n C (i := 0) dX0_build_128 rfl rfl ?_
    refine L_getC C (c' := (c0 + 4)) dX0_build_129 h0 fl_X0_21 rfl rfl ?_
    refine L_aload_n C (i := 0) dX0_build_132 rfl rfl ?_
    refine L_getC C (c' := (c0 + 3)) dX0_build_133 h0 fl_X0_18 rfl rfl ?_
    refine L_iload C dX0_build_136 rfl ?_
    refine L_iald C dX0_build_138 (shd_0_3 h0) (ss4 p1) ?_
    refine L_iald C dX0_build_139 (shd_0_4 h0) (ss6 p1) ?_
    refine L_imul C dX0_build_140 ?_
    refine L_istore C dX0_build_141 (Nat.le_of_ble_eq_true rfl) ?_
    refine L_iinc C (v := 1) dX0_build_143 rfl rfl (Nat.le_of_ble_eq_true rfl) ?_
    refine L_goto C (tgt := 96) dX0_build_146 rfl ?_
    exact kk7 p1
set_option maxRecDepth 4000 in
theorem k_X0_build_190 {G : mG} {E : mE} {B : mB} {μ : mM} (C : Cx G mX0_build E) {c0 : Nat} (h0 : sh c0 = (0, 0)) {c1 : Nat} (h1 : sh c1 = (0, 3)) {sx0 : Int32} (kk1 : Wm G mX0_build E B μ 77 [(0, .ref (gb G + c0)), (1, .ref (gb G + c1)), (3, .int sx0)] []) : Wm G mX0_build E B μ 190 [(0, .ref (gb G + c0)), (1, .ref (gb G + c1))] [.int sx0] := by
  refine L_istore_n C (i := 3) dX0_build_190 rfl (Nat.le_of_ble_eq_true rfl) ?_
  refine L_goto C (tgt := 77) dX0_build_191 rfl ?_
  exact kk1
set_option maxRecDepth 4000 in
theorem k_X5_mixesOf_0 {G : mG} {E : mE} {Q : Int32 → mM → Prop} {μ : mM} (C : Cx G mX5_mixesOf E) {c1 : Nat} (h1 : sh c1 = (0, 3)) (cc1 : CtV G mX0_build [.ref (gb G + 8), .ref (gb G + c1), .int (μ c1 1)] μ (fun μ' => Wm G mX5_mixesOf E (bm G mX5_mixesOf E (pI Q)) μ' 12 [(0, .ref (gb G + 3))] [])) : Wm G mX5_mixesOf E (bm G mX5_mixesOf E (pI Q)) μ 0 [(0, .ref (gb G + 3)), (1, .ref (gb G + c1))] [] := by
  refine L_aload_n C (i := 0) dX5_mixesOf_0 rfl rfl ?_
  refine L_getC C (c' := 8) dX5_mixesOf_1 sh_3 fl_X5_21 rfl rfl ?_
  refine L_aload_n C (i := 1) dX5_mixesOf_4 rfl rfl ?_
  refine L_aload_n C (i := 1) dX5_mixesOf_5 rfl rfl ?_
  refine L_getI C dX5_mixesOf_6 h1 fl_X5_81 rfl ?_
  refine L_sub [0] rfl ?_
  refine L_invV2v C dX5_mixesOf_9 sh_8 cal_X0_build lk_X5_84 ⟨Nat.le_of_ble_eq_true rfl, Nat.le_of_ble_eq_true rfl⟩ ⟨Nat.le_of_ble_eq_true rfl, Nat.le_of_ble_eq_true rfl⟩ (Nat.le_of_ble_eq_true rfl) ?_
  exact cc1
theorem e_X5_mixesOf {G : mG} {Q : Int32 → mM → Prop} {μ : mM} {c1 : Nat} (h1 : sh c1 = (0, 3)) (k : ∀ E, Cx G mX5_mixesOf E → Wm G mX5_mixesOf E (bm G mX5_mixesOf E (pI Q)) μ 0 [(0, .ref (gb G + 3)), (1, .ref (gb G + c1))] []) : CtI G mX5_mixesOf [.ref (gb G + 3), .ref (gb G + c1)] μ Q := CtI.of pn_X5 (Nat.le_of_ble_eq_true rfl) k
set_option maxRecDepth 4000 in
theorem k_X5_mixesOf_12 {G : mG} {E : mE} {Q : Int32 → mM → Prop} {μ : mM} (C : Cx G mX5_mixesOf E)  (ss1 : vp_in (μ 8 0) 57) (rr2 : Q (μ 10 (μ 8 0).toNatClampNeg) μ) : Wm G mX5_mixesOf E (bm G mX5_mixesOf E (pI Q)) μ 12 [(0, .ref (gb G + 3))] [] := by
  refine L_aload_n C (i := 0) dX5_mixesOf_12 rfl rfl ?_
  refine L_getC C (c' := 8) dX5_mixesOf_13 sh_3 fl_X5_21 rfl rfl ?_
  refine L_getC C (c' := 10) dX5_mixesOf_16 sh_8 fl_X5_88 rfl rfl ?_
  refine L_aload_n C (i := 0) dX5_mixesOf_19 rfl rfl ?_
  refine L_getC C (c' := 8) dX5_mixesOf_20 sh_3 fl_X5_21 rfl rfl ?_
  refine L_getI C dX5_mixesOf_23 sh_8 fl_X5_91 rfl ?_
  refine L_iald C dX5_mixesOf_26 sh_10 (ss1) ?_
  exact L_irI C dX5_mixesOf_27 rfl (rr2)
set_option maxRecDepth 4000 in
theorem k_X4_leftTo_0 {G : mG} {E : mE} {Q : Int32 → mM → Prop} {μ : mM} (C : Cx G mX4_leftTo E) {c0 : Nat} (h0 : sh c0 = (0, 3)) {x1 : Int32} (rr1 : Q (((μ c0 3) &&& ((((((x1 ||| (iush x1 1)) ||| (iush x1 2)) ||| (iush x1 3)) &&& (286331153 : Int32)) * (15 : Int32)) ^^^ ((-1) : Int32))) ||| x1) μ) : Wm G mX4_leftTo E (bm G mX4_leftTo E (pI Q)) μ 0 [(0, .ref (gb G + c0)), (1, .int x1)] [] := by
  refine L_aload_n C (i := 0) dX4_leftTo_0 rfl rfl ?_
  refine L_getI C dX4_leftTo_1 h0 fl_X4_31 rfl ?_
  refine L_iload_n C (i := 1) dX4_leftTo_4 rfl rfl ?_
  refine L_invSN1i C dX4_leftTo_5 cal_X11_columnsOf stc_X11_columnsOf nk_X4_34 ⟨Nat.le_of_ble_eq_true rfl, Nat.le_of_ble_eq_true rfl⟩ ⟨Nat.le_of_ble_eq_true rfl, Nat.le_of_ble_eq_true rfl⟩ (Nat.le_of_ble_eq_true rfl) (a_X11_columnsOf (?_))
  · refine L_iconst C (v := (-1)) dX4_leftTo_8 rfl ?_
    refine L_ixor C dX4_leftTo_9 ?_
    refine L_iand C dX4_leftTo_10 ?_
    refine L_iload_n C (i := 1) dX4_leftTo_11 rfl rfl ?_
    refine L_ior C dX4_leftTo_12 ?_
    exact L_irI C dX4_leftTo_13 rfl (rr1)
theorem a_X4_leftTo {G : mG} {Q : Int32 → mM → Prop} {μ : mM} {c0 : Nat} (h0 : sh c0 = (0, 3)) {x1 : Int32} (rr1 : Q (((μ c0 3) &&& ((((((x1 ||| (iush x1 1)) ||| (iush x1 2)) ||| (iush x1 3)) &&& (286331153 : Int32)) * (15 : Int32)) ^^^ ((-1) : Int32))) ||| x1) μ) : CtI G mX4_leftTo [.ref (gb G + c0), .int x1] μ Q :=
  CtI.of pn_X4 (Nat.le_of_ble_eq_true rfl) (fun E C => k_X4_leftTo_0 C h0 rr1)
set_option maxRecDepth 4000 in
theorem k_X4_narrow_0 {G : mG} {E : mE} {B : mB} {μ : mM} (C : Cx G mX4_narrow E) {c0 : Nat} (h0 : sh c0 = (0, 3)) {x1 : Int32} (kk1 : ∀ v1 : Int32, (((μ c0 2) ≤ 0 ∧ v1 = 0) ∨ (¬ (μ c0 2) ≤ 0 ∧ v1 = 1)) → Wm G mX4_narrow E B μ 18 [(0, .ref (gb G + c0)), (2, .int x1), (3, .int v1), (4, .int 0)] []) : Wm G mX4_narrow E B μ 0 [(0, .ref (gb G + c0)), (1, .int x1)] [] := by
  refine L_iload_n C (i := 1) dX4_narrow_0 rfl rfl ?_
  refine L_istore_n C (i := 2) dX4_narrow_1 rfl (Nat.le_of_ble_eq_true rfl) ?_
  refine L_aload_n C (i := 0) dX4_narrow_2 rfl rfl ?_
  refine L_getI C dX4_narrow_3 h0 fl_X4_28 rfl ?_
  refine phi (fun v1 : Int32 => Wm G mX4_narrow E B μ 14 [(0, .ref (gb G + c0)), (2, .int x1)] [.int v1]) (fun v1 : Int32 => ((μ c0 2) ≤ 0 ∧ v1 = 0) ∨ (¬ (μ c0 2) ≤ 0 ∧ v1 = 1)) (fun H => ?_) (fun v1 hv1 => ?_)
  · refine L_if_le C (tgt := 13) dX4_narrow_6 rfl (fun p1 => ?_) (fun p1 => ?_)
    · refine L_iconst C (v := 0) dX4_narrow_13 rfl ?_
      refine L_sub [0, 2] rfl ?_
      exact H _ (Or.inl ⟨p1, rfl⟩)
    · refine L_iconst C (v := 1) dX4_narrow_9 rfl ?_
      refine L_goto C (tgt := 14) dX4_narrow_10 rfl ?_
      refine L_sub [0, 2] rfl ?_
      exact H _ (Or.inr ⟨p1, rfl⟩)
  refine L_istore_n C (i := 3) dX4_narrow_14 rfl (Nat.le_of_ble_eq_true rfl) ?_
  refine L_iconst C (v := 0) dX4_narrow_15 rfl ?_
  refine L_istore C dX4_narrow_16 (Nat.le_of_ble_eq_true rfl) ?_
  exact kk1 v1 hv1
theorem e_X4_narrow {G : mG} {Q : Int32 → mM → Prop} {μ : mM} {c0 : Nat} (h0 : sh c0 = (0, 3)) {x1 : Int32} (k : ∀ E, Cx G mX4_narrow E → Wm G mX4_narrow E (bm G mX4_narrow E (pI Q)) μ 0 [(0, .ref (gb G + c0)), (1, .int x1)] []) : CtI G mX4_narrow [.ref (gb G + c0), .int x1] μ Q := CtI.of pn_X4 (Nat.le_of_ble_eq_true rfl) k
set_option maxRecDepth 4000 in
theorem k_X4_narrow_18 {G : mG} {E : mE} {Q : Int32 → mM → Prop} {μ : mM} (C : Cx G mX4_narrow E) {c0 : Nat} (h0 : sh c0 = (0, 3)) {x2 : Int32} {x3 : Int32} {x4 : Int32} (rr1 : (x3 = 0 ∨ (¬ x3 = 0 ∧ 40 ≤ x4)) → Q x2 μ) (kk2 : ¬ x3 = 0 → ¬ 40 ≤ x4 → Wm G mX4_narrow E (bm G mX4_narrow E (pI Q)) μ 34 [(0, .ref (gb G + c0)), (2, .int x2), (3, .int 0), (4, .int x4), (5, .int 0)] []) : Wm G mX4_narrow E (bm G mX4_narrow E (pI Q)) μ 18 [(0, .ref (gb G + c0)), (2, .int x2), (3, .int x3), (4, .int x4)] [] := by
  refine L_iload_n C (i := 3) dX4_narrow_18 rfl rfl ?_
  refine L_if_eq C (tgt := 127) dX4_narrow_19 rfl (fun p1 => ?_) (fun p1 => ?_)
  · refine L_iload_n C (i := 2) dX4_narrow_127 rfl rfl ?_
    exact L_irI C dX4_narrow_128 rfl (rr1 (Or.inl p1))
  · refine L_iload C dX4_narrow_22 rfl ?_
    refine L_bipush C (v := 40) dX4_narrow_24 rfl ?_
    refine L_icmp_ge C (tgt := 127) dX4_narrow_26 rfl (fun p2 => ?_) (fun p2 => ?_)
    · refine L_iload_n C (i := 2) dX4_narrow_127 rfl rfl ?_
      exact L_irI C dX4_narrow_128 rfl (rr1 (Or.inr ⟨p1, p2⟩))
    · refine L_iconst C (v := 0) dX4_narrow_29 rfl ?_
      refine L_istore_n C (i := 3) dX4_narrow_30 rfl (Nat.le_of_ble_eq_true rfl) ?_
      refine L_iconst C (v := 0) dX4_narrow_31 rfl ?_
      refine L_istore C dX4_narrow_32 (Nat.le_of_ble_eq_true rfl) ?_
      exact kk2 p1 p2
set_option maxRecDepth 4000 in
theorem k_X4_narrow_34 {G : mG} {E : mE} {Q : Int32 → mM → Prop} {μ : mM} (C : Cx G mX4_narrow E) {c0 : Nat} (h0 : sh c0 = (0, 3)) {x2 : Int32} {x3 : Int32} {x4 : Int32} {x5 : Int32} (kk1 : (μ c0 2) ≤ x5 → Wm G mX4_narrow E (bm G mX4_narrow E (pI Q)) μ 18 [(0, .ref (gb G + c0)), (2, .int x2), (3, .int x3), (4, .int (x4 + (1 : Int32)))] []) (ss2 : ¬ (μ c0 2) ≤ x5 → vp_in x5 12) (kk3 : ¬ (μ c0 2) ≤ x5 → (¬ ((μ (c0 + 2) x5.toNatClampNeg) &&& (x2 ^^^ ((-1) : Int32))) = 0 ∨ (((μ (c0 + 2) x5.toNatClampNeg) &&& (x2 ^^^ ((-1) : Int32))) = 0 ∧ ¬ ((μ (c0 + 2) x5.toNatClampNeg) &&& (((((((x2 &&& (μ (c0 + 3) x5.toNatClampNeg)) &&& ((μ (c0 + 2) x5.toNatClampNeg) ^^^ ((-1) : Int32))) ||| (iush ((x2 &&& (μ (c0 + 3) x5.toNatClampNeg)) &&& ((μ (c0 + 2) x5.toNatClampNeg) ^^^ ((-1) : Int32))) 1)) ||| (iush ((x2 &&& (μ (c0 + 3) x5.toNatClampNeg)) &&& ((μ (c0 + 2) x5.toNatClampNeg) ^^^ ((-1) : Int32))) 2)) ||| (iush ((x2 &&& (μ (c0 + 3) x5.toNatClampNeg)) &&& ((μ (c0 + 2) x5.toNatClampNeg) ^^^ ((-1) : Int32))) 3)) &&& (286331153 : Int32)) * (15 : Int32))) = 0 ∧ ¬ (((μ (c0 + 2) x5.toNatClampNeg) &&& (((((((x2 &&& (μ (c0 + 3) x5.toNatClampNeg)) &&& ((μ (c0 + 2) x5.toNatClampNeg) ^^^ ((-1) : Int32))) ||| (iush ((x2 &&& (μ (c0 + 3) x5.toNatClampNeg)) &&& ((μ (c0 + 2) x5.toNatClampNeg) ^^^ ((-1) : Int32))) 1)) ||| (iush ((x2 &&& (μ (c0 + 3) x5.toNatClampNeg)) &&& ((μ (c0 + 2) x5.toNatClampNeg) ^^^ ((-1) : Int32))) 2)) ||| (iush ((x2 &&& (μ (c0 + 3) x5.toNatClampNeg)) &&& ((μ (c0 + 2) x5.toNatClampNeg) ^^^ ((-1) : Int32))) 3)) &&& (286331153 : Int32)) * (15 : Int32))) &&& (((μ (c0 + 2) x5.toNatClampNeg) &&& (((((((x2 &&& (μ (c0 + 3) x5.toNatClampNeg)) &&& ((μ (c0 + 2) x5.toNatClampNeg) ^^^ ((-1) : Int32))) ||| (iush ((x2 &&& (μ (c0 + 3) x5.toNatClampNeg)) &&& ((μ (c0 + 2) x5.toNatClampNeg) ^^^ ((-1) : Int32))) 1)) ||| (iush ((x2 &&& (μ (c0 + 3) x5.toNatClampNeg)) &&& ((μ (c0 + 2) x5.toNatClampNeg) ^^^ ((-1) : Int32))) 2)) ||| (iush ((x2 &&& (μ (c0 + 3) x5.toNatClampNeg)) &&& ((μ (c0 + 2) x5.toNatClampNeg) ^^^ ((-1) : Int32))) 3)) &&& (286331153 : Int32)) * (15 : Int32))) - (1 : Int32))) = 0)) → Wm G mX4_narrow E (bm G mX4_narrow E (pI Q)) μ 34 [(0, .ref (gb G + c0)), (2, .int x2), (3, .int x3), (4, .int x4), (5, .int (x5 + (1 : Int32)))] []) (kk4 : ¬ (μ c0 2) ≤ x5 → ((μ (c0 + 2) x5.toNatClampNeg) &&& (x2 ^^^ ((-1) : Int32))) = 0 → ¬ ((μ (c0 + 2) x5.toNatClampNeg) &&& (((((((x2 &&& (μ (c0 + 3) x5.toNatClampNeg)) &&& ((μ (c0 + 2) x5.toNatClampNeg) ^^^ ((-1) : Int32))) ||| (iush ((x2 &&& (μ (c0 + 3) x5.toNatClampNeg)) &&& ((μ (c0 + 2) x5.toNatClampNeg) ^^^ ((-1) : Int32))) 1)) ||| (iush ((x2 &&& (μ (c0 + 3) x5.toNatClampNeg)) &&& ((μ (c0 + 2) x5.toNatClampNeg) ^^^ ((-1) : Int32))) 2)) ||| (iush ((x2 &&& (μ (c0 + 3) x5.toNatClampNeg)) &&& ((μ (c0 + 2) x5.toNatClampNeg) ^^^ ((-1) : Int32))) 3)) &&& (286331153 : Int32)) * (15 : Int32))) = 0 → (((μ (c0 + 2) x5.toNatClampNeg) &&& (((((((x2 &&& (μ (c0 + 3) x5.toNatClampNeg)) &&& ((μ (c0 + 2) x5.toNatClampNeg) ^^^ ((-1) : Int32))) ||| (iush ((x2 &&& (μ (c0 + 3) x5.toNatClampNeg)) &&& ((μ (c0 + 2) x5.toNatClampNeg) ^^^ ((-1) : Int32))) 1)) ||| (iush ((x2 &&& (μ (c0 + 3) x5.toNatClampNeg)) &&& ((μ (c0 + 2) x5.toNatClampNeg) ^^^ ((-1) : Int32))) 2)) ||| (iush ((x2 &&& (μ (c0 + 3) x5.toNatClampNeg)) &&& ((μ (c0 + 2) x5.toNatClampNeg) ^^^ ((-1) : Int32))) 3)) &&& (286331153 : Int32)) * (15 : Int32))) &&& (((μ (c0 + 2) x5.toNatClampNeg) &&& (((((((x2 &&& (μ (c0 + 3) x5.toNatClampNeg)) &&& ((μ (c0 + 2) x5.toNatClampNeg) ^^^ ((-1) : Int32))) ||| (iush ((x2 &&& (μ (c0 + 3) x5.toNatClampNeg)) &&& ((μ (c0 + 2) x5.toNatClampNeg) ^^^ ((-1) : Int32))) 1)) ||| (iush ((x2 &&& (μ (c0 + 3) x5.toNatClampNeg)) &&& ((μ (c0 + 2) x5.toNatClampNeg) ^^^ ((-1) : Int32))) 2)) ||| (iush ((x2 &&& (μ (c0 + 3) x5.toNatClampNeg)) &&& ((μ (c0 + 2) x5.toNatClampNeg) ^^^ ((-1) : Int32))) 3)) &&& (286331153 : Int32)) * (15 : Int32))) - (1 : Int32))) = 0 → Wm G mX4_narrow E (bm G mX4_narrow E (pI Q)) μ 34 [(0, .ref (gb G + c0)), (2, .int (x2 &&& (((μ (c0 + 2) x5.toNatClampNeg) &&& (((((((x2 &&& (μ (c0 + 3) x5.toNatClampNeg)) &&& ((μ (c0 + 2) x5.toNatClampNeg) ^^^ ((-1) : Int32))) ||| (iush ((x2 &&& (μ (c0 + 3) x5.toNatClampNeg)) &&& ((μ (c0 + 2) x5.toNatClampNeg) ^^^ ((-1) : Int32))) 1)) ||| (iush ((x2 &&& (μ (c0 + 3) x5.toNatClampNeg)) &&& ((μ (c0 + 2) x5.toNatClampNeg) ^^^ ((-1) : Int32))) 2)) ||| (iush ((x2 &&& (μ (c0 + 3) x5.toNatClampNeg)) &&& ((μ (c0 + 2) x5.toNatClampNeg) ^^^ ((-1) : Int32))) 3)) &&& (286331153 : Int32)) * (15 : Int32))) ^^^ ((-1) : Int32)))), (3, .int 1), (4, .int x4), (5, .int (x5 + (1 : Int32)))] []) (rr5 : ¬ (μ c0 2) ≤ x5 → ((μ (c0 + 2) x5.toNatClampNeg) &&& (x2 ^^^ ((-1) : Int32))) = 0 → ((μ (c0 + 2) x5.toNatClampNeg) &&& (((((((x2 &&& (μ (c0 + 3) x5.toNatClampNeg)) &&& ((μ (c0 + 2) x5.toNatClampNeg) ^^^ ((-1) : Int32))) ||| (iush ((x2 &&& (μ (c0 + 3) x5.toNatClampNeg)) &&& ((μ (c0 + 2) x5.toNatClampNeg) ^^^ ((-1) : Int32))) 1)) ||| (iush ((x2 &&& (μ (c0 + 3) x5.toNatClampNeg)) &&& ((μ (c0 + 2) x5.toNatClampNeg) ^^^ ((-1) : Int32))) 2)) ||| (iush ((x2 &&& (μ (c0 + 3) x5.toNatClampNeg)) &&& ((μ (c0 + 2) x5.toNatClampNeg) ^^^ ((-1) : Int32))) 3)) &&& (286331153 : Int32)) * (15 : Int32))) = 0 → Q 0 μ) : Wm G mX4_narrow E (bm G mX4_narrow E (pI Q)) μ 34 [(0, .ref (gb G + c0)), (2, .int x2), (3, .int x3), (4, .int x4), (5, .int x5)] [] := by
  refine L_iload C dX4_narrow_34 rfl ?_
  refine L_aload_n C (i := 0) dX4_narrow_36 rfl rfl ?_
  refine L_getI C dX4_narrow_37 h0 fl_X4_28 rfl ?_
  refine L_icmp_ge C (tgt := 121) dX4_narrow_40 rfl (fun p1 => ?_) (fun p1 => ?_)
  · refine L_iinc C (v := 1) dX4_narrow_121 rfl rfl (Nat.le_of_ble_eq_true rfl) ?_
    refine L_goto C (tgt := 18) dX4_narrow_124 rfl ?_
    refine L_sub [0, 1, 2, 3] rfl ?_
    exact kk1 p1
  · refine L_aload_n C (i := 0) dX4_narrow_43 rfl rfl ?_
    refine L_getC C (c' := (c0 + 2)) dX4_narrow_44 h0 fl_X4_15 rfl rfl ?_
    refine L_iload C dX4_narrow_47 rfl ?_
    refine L_iald C dX4_narrow_49 (shd_3_2 h0) (ss2 p1) ?_
    refine L_iload_n C (i := 2) dX4_narrow_50 rfl rfl ?_
    refine L_iconst C (v := (-1)) dX4_narrow_51 rfl ?_
    refine L_ixor C dX4_narrow_52 ?_
    refine L_iand C dX4_narrow_53 ?_
    refine L_if_ne C (tgt := 115) dX4_narrow_54 rfl (fun p2 => ?_) (fun p2 => ?_)
    · refine L_iinc C (v := 1) dX4_narrow_115 rfl rfl (Nat.le_of_ble_eq_true rfl) ?_
      refine L_goto C (tgt := 34) dX4_narrow_118 rfl ?_
      exact kk3 p1 (Or.inl p2)
    · refine L_aload_n C (i := 0) dX4_narrow_57 rfl rfl ?_
      refine L_getC C (c' := (c0 + 2)) dX4_narrow_58 h0 fl_X4_15 rfl rfl ?_
      refine L_iload C dX4_narrow_61 rfl ?_
      refine L_iald C dX4_narrow_63 (shd_3_2 h0) (ss2 p1) ?_
      refine L_iload_n C (i := 2) dX4_narrow_64 rfl rfl ?_
      refine L_aload_n C (i := 0) dX4_narrow_65 rfl rfl ?_
      refine L_getC C (c' := (c0 + 3)) dX4_narrow_66 h0 fl_X4_18 rfl rfl ?_
      refine L_iload C dX4_narrow_69 rfl ?_
      refine L_iald C dX4_narrow_71 (shd_3_3 h0) (ss2 p1) ?_
      refine L_iand C dX4_narrow_72 ?_
      refine L_aload_n C (i := 0) dX4_narrow_73 rfl rfl ?_
      refine L_getC C (c' := (c0 + 2)) dX4_narrow_74 h0 fl_X4_15 rfl rfl ?_
      refine L_iload C dX4_narrow_77 rfl ?_
      refine L_iald C dX4_narrow_79 (shd_3_2 h0) (ss2 p1) ?_
      refine L_iconst C (v := (-1)) dX4_narrow_80 rfl ?_
      refine L_ixor C dX4_narrow_81 ?_
      refine L_iand C dX4_narrow_82 ?_
      refine L_invSN1i C dX4_narrow_83 cal_X11_columnsOf stc_X11_columnsOf nk_X4_34 ⟨Nat.le_of_ble_eq_true rfl, Nat.le_of_ble_eq_true rfl⟩ ⟨Nat.le_of_ble_eq_true rfl, Nat.le_of_ble_eq_true rfl⟩ (Nat.le_of_ble_eq_true rfl) (a_X11_columnsOf (?_))
      · refine L_iand C dX4_narrow_86 ?_
        refine L_istore C dX4_narrow_87 (Nat.le_of_ble_eq_true rfl) ?_
        refine L_iload C dX4_narrow_89 rfl ?_
        refine L_if_ne C (tgt := 96) dX4_narrow_91 rfl (fun p3 => ?_) (fun p3 => ?_)
        · refine L_iload C dX4_narrow_96 rfl ?_
          refine L_iload C dX4_narrow_98 rfl ?_
          refine L_iconst C (v := 1) dX4_narrow_100 rfl ?_
          refine L_isub C dX4_narrow_101 ?_
          refine L_iand C dX4_narrow_102 ?_
          refine L_if_ne C (tgt := 115) dX4_narrow_103 rfl (fun p4 => ?_) (fun p4 => ?_)
          · refine L_iinc C (v := 1) dX4_narrow_115 rfl rfl (Nat.le_of_ble_eq_true rfl) ?_
            refine L_goto C (tgt := 34) dX4_narrow_118 rfl ?_
            refine L_sub [0, 1, 2, 3, 4] rfl ?_
            exact kk3 p1 (Or.inr ⟨p2, p3, p4⟩)
          · refine L_iload_n C (i := 2) dX4_narrow_106 rfl rfl ?_
            refine L_iload C dX4_narrow_107 rfl ?_
            refine L_iconst C (v := (-1)) dX4_narrow_109 rfl ?_
            refine L_ixor C dX4_narrow_110 ?_
            refine L_iand C dX4_narrow_111 ?_
            refine L_istore_n C (i := 2) dX4_narrow_112 rfl (Nat.le_of_ble_eq_true rfl) ?_
            refine L_iconst C (v := 1) dX4_narrow_113 rfl ?_
            refine L_istore_n C (i := 3) dX4_narrow_114 rfl (Nat.le_of_ble_eq_true rfl) ?_
            refine L_iinc C (v := 1) dX4_narrow_115 rfl rfl (Nat.le_of_ble_eq_true rfl) ?_
            refine L_goto C (tgt := 34) dX4_narrow_118 rfl ?_
            refine L_sub [0, 1, 2, 3, 4] rfl ?_
            exact kk4 p1 p2 p3 p4
        · refine L_iconst C (v := 0) dX4_narrow_94 rfl ?_
          exact L_irI C dX4_narrow_95 rfl (rr5 p1 p2 p3)
set_option maxRecDepth 4000 in
theorem k_X4_openCell_0 {G : mG} {E : mE} {B : mB} {μ : mM} (C : Cx G mX4_openCell E) {c0 : Nat} (h0 : sh c0 = (0, 3)) {x1 : Int32} (kk1 : Wm G mX4_openCell E B μ 2 [(0, .ref (gb G + c0)), (1, .int x1), (2, .int 0)] []) : Wm G mX4_openCell E B μ 0 [(0, .ref (gb G + c0)), (1, .int x1)] [] := by
  refine L_iconst C (v := 0) dX4_openCell_0 rfl ?_
  refine L_istore_n C (i := 2) dX4_openCell_1 rfl (Nat.le_of_ble_eq_true rfl) ?_
  exact kk1
theorem e_X4_openCell {G : mG} {Q : Int32 → mM → Prop} {μ : mM} {c0 : Nat} (h0 : sh c0 = (0, 3)) {x1 : Int32} (k : ∀ E, Cx G mX4_openCell E → Wm G mX4_openCell E (bm G mX4_openCell E (pI Q)) μ 0 [(0, .ref (gb G + c0)), (1, .int x1)] []) : CtI G mX4_openCell [.ref (gb G + c0), .int x1] μ Q := CtI.of pn_X4 (Nat.le_of_ble_eq_true rfl) k
set_option maxRecDepth 4000 in
theorem k_X4_openCell_2 {G : mG} {E : mE} {Q : Int32 → mM → Prop} {μ : mM} (C : Cx G mX4_openCell E) {c0 : Nat} (h0 : sh c0 = (0, 3)) {x1 : Int32} {x2 : Int32} (rr1 : (μ c0 2) ≤ x2 → Q 0 μ) (ss2 : ¬ (μ c0 2) ≤ x2 → vp_in x2 12) (kk3 : ¬ (μ c0 2) ≤ x2 → ¬ ((μ (c0 + 2) x2.toNatClampNeg) &&& (x1 ^^^ ((-1) : Int32))) = 0 → Wm G mX4_openCell E (bm G mX4_openCell E (pI Q)) μ 2 [(0, .ref (gb G + c0)), (1, .int x1), (2, .int (x2 + (1 : Int32)))] []) (rr4 : ¬ (μ c0 2) ≤ x2 → ((μ (c0 + 2) x2.toNatClampNeg) &&& (x1 ^^^ ((-1) : Int32))) = 0 → Q (((μ (c0 + 2) x2.toNatClampNeg) &&& (((((((x1 &&& (μ (c0 + 3) x2.toNatClampNeg)) &&& ((μ (c0 + 2) x2.toNatClampNeg) ^^^ ((-1) : Int32))) ||| (iush ((x1 &&& (μ (c0 + 3) x2.toNatClampNeg)) &&& ((μ (c0 + 2) x2.toNatClampNeg) ^^^ ((-1) : Int32))) 1)) ||| (iush ((x1 &&& (μ (c0 + 3) x2.toNatClampNeg)) &&& ((μ (c0 + 2) x2.toNatClampNeg) ^^^ ((-1) : Int32))) 2)) ||| (iush ((x1 &&& (μ (c0 + 3) x2.toNatClampNeg)) &&& ((μ (c0 + 2) x2.toNatClampNeg) ^^^ ((-1) : Int32))) 3)) &&& (286331153 : Int32)) * (15 : Int32))) &&& (-((μ (c0 + 2) x2.toNatClampNeg) &&& (((((((x1 &&& (μ (c0 + 3) x2.toNatClampNeg)) &&& ((μ (c0 + 2) x2.toNatClampNeg) ^^^ ((-1) : Int32))) ||| (iush ((x1 &&& (μ (c0 + 3) x2.toNatClampNeg)) &&& ((μ (c0 + 2) x2.toNatClampNeg) ^^^ ((-1) : Int32))) 1)) ||| (iush ((x1 &&& (μ (c0 + 3) x2.toNatClampNeg)) &&& ((μ (c0 + 2) x2.toNatClampNeg) ^^^ ((-1) : Int32))) 2)) ||| (iush ((x1 &&& (μ (c0 + 3) x2.toNatClampNeg)) &&& ((μ (c0 + 2) x2.toNatClampNeg) ^^^ ((-1) : Int32))) 3)) &&& (286331153 : Int32)) * (15 : Int32))))) μ) : Wm G mX4_openCell E (bm G mX4_openCell E (pI Q)) μ 2 [(0, .ref (gb G + c0)), (1, .int x1), (2, .int x2)] [] := by
  refine L_iload_n C (i := 2) dX4_openCell_2 rfl rfl ?_
  refine L_aload_n C (i := 0) dX4_openCell_3 rfl rfl ?_
  refine L_getI C dX4_openCell_4 h0 fl_X4_28 rfl ?_
  refine L_icmp_ge C (tgt := 62) dX4_openCell_7 rfl (fun p1 => ?_) (fun p1 => ?_)
  · refine L_iconst C (v := 0) dX4_openCell_62 rfl ?_
    exact L_irI C dX4_openCell_63 rfl (rr1 p1)
  · refine L_aload_n C (i := 0) dX4_openCell_10 rfl rfl ?_
    refine L_getC C (c' := (c0 + 2)) dX4_openCell_11 h0 fl_X4_15 rfl rfl ?_
    refine L_iload_n C (i := 2) dX4_openCell_14 rfl rfl ?_
    refine L_iald C dX4_openCell_15 (shd_3_2 h0) (ss2 p1) ?_
    refine L_iload_n C (i := 1) dX4_openCell_16 rfl rfl ?_
    refine L_iconst C (v := (-1)) dX4_openCell_17 rfl ?_
    refine L_ixor C dX4_openCell_18 ?_
    refine L_iand C dX4_openCell_19 ?_
    refine L_if_ne C (tgt := 56) dX4_openCell_20 rfl (fun p2 => ?_) (fun p2 => ?_)
    · refine L_iinc C (v := 1) dX4_openCell_56 rfl rfl (Nat.le_of_ble_eq_true rfl) ?_
      refine L_goto C (tgt := 2) dX4_openCell_59 rfl ?_
      exact kk3 p1 p2
    · refine L_aload_n C (i := 0) dX4_openCell_23 rfl rfl ?_
      refine L_getC C (c' := (c0 + 2)) dX4_openCell_24 h0 fl_X4_15 rfl rfl ?_
      refine L_iload_n C (i := 2) dX4_openCell_27 rfl rfl ?_
      refine L_iald C dX4_openCell_28 (shd_3_2 h0) (ss2 p1) ?_
      refine L_iload_n C (i := 1) dX4_openCell_29 rfl rfl ?_
      refine L_aload_n C (i := 0) dX4_openCell_30 rfl rfl ?_
      refine L_getC C (c' := (c0 + 3)) dX4_openCell_31 h0 fl_X4_18 rfl rfl ?_
      refine L_iload_n C (i := 2) dX4_openCell_34 rfl rfl ?_
      refine L_iald C dX4_openCell_35 (shd_3_3 h0) (ss2 p1) ?_
      refine L_iand C dX4_openCell_36 ?_
      refine L_aload_n C (i := 0) dX4_openCell_37 rfl rfl ?_
      refine L_getC C (c' := (c0 + 2)) dX4_openCell_38 h0 fl_X4_15 rfl rfl ?_
      refine L_iload_n C (i := 2) dX4_openCell_41 rfl rfl ?_
      refine L_iald C dX4_openCell_42 (shd_3_2 h0) (ss2 p1) ?_
      refine L_iconst C (v := (-1)) dX4_openCell_43 rfl ?_
      refine L_ixor C dX4_openCell_44 ?_
      refine L_iand C dX4_openCell_45 ?_
      refine L_invSN1i C dX4_openCell_46 cal_X11_columnsOf stc_X11_columnsOf nk_X4_34 ⟨Nat.le_of_ble_eq_true rfl, Nat.le_of_ble_eq_true rfl⟩ ⟨Nat.le_of_ble_eq_true rfl, Nat.le_of_ble_eq_true rfl⟩ (Nat.le_of_ble_eq_true rfl) (a_X11_columnsOf (?_))
      · refine L_iand C dX4_openCell_49 ?_
        refine L_istore_n C (i := 3) dX4_openCell_50 rfl (Nat.le_of_ble_eq_true rfl) ?_
        refine L_iload_n C (i := 3) dX4_openCell_51 rfl rfl ?_
        refine L_iload_n C (i := 3) dX4_openCell_52 rfl rfl ?_
        refine L_ineg C dX4_openCell_53 ?_
        refine L_iand C dX4_openCell_54 ?_
        exact L_irI C dX4_openCell_55 rfl (rr4 p1 p2)
set_option maxRecDepth 4000 in
theorem k_X4_leastRow_0 {G : mG} {E : mE} {B : mB} {μ : mM} (C : Cx G mX4_leastRow E) {c0 : Nat} (h0 : sh c0 = (0, 3)) {x1 : Int32} (kk1 : Wm G mX4_leastRow E B μ 4 [(0, .ref (gb G + c0)), (1, .int x1), (2, .int 0), (3, .int 0)] []) : Wm G mX4_leastRow E B μ 0 [(0, .ref (gb G + c0)), (1, .int x1)] [] := by
  refine L_iconst C (v := 0) dX4_leastRow_0 rfl ?_
  refine L_istore_n C (i := 2) dX4_leastRow_1 rfl (Nat.le_of_ble_eq_true rfl) ?_
  refine L_iconst C (v := 0) dX4_leastRow_2 rfl ?_
  refine L_istore_n C (i := 3) dX4_leastRow_3 rfl (Nat.le_of_ble_eq_true rfl) ?_
  exact kk1
theorem e_X4_leastRow {G : mG} {Q : Int32 → mM → Prop} {μ : mM} {c0 : Nat} (h0 : sh c0 = (0, 3)) {x1 : Int32} (k : ∀ E, Cx G mX4_leastRow E → Wm G mX4_leastRow E (bm G mX4_leastRow E (pI Q)) μ 0 [(0, .ref (gb G + c0)), (1, .int x1)] []) : CtI G mX4_leastRow [.ref (gb G + c0), .int x1] μ Q := CtI.of pn_X4 (Nat.le_of_ble_eq_true rfl) k
set_option maxRecDepth 4000 in
theorem k_X4_leastRow_4 {G : mG} {E : mE} {Q : Int32 → mM → Prop} {μ : mM} (C : Cx G mX4_leastRow E) {c0 : Nat} (h0 : sh c0 = (0, 3)) {x1 : Int32} {x2 : Int32} {x3 : Int32} (rr1 : (μ c0 0) ≤ x3 → Q x2 μ) (kk2 : ¬ (μ c0 0) ≤ x3 → Wm G mX4_leastRow E (bm G mX4_leastRow E (pI Q)) μ 4 [(0, .ref (gb G + c0)), (1, .int x1), (2, .int (x2 ||| ((((iush x1 ((4 : Int32) * x3)) &&& (15 : Int32)) &&& (-((iush x1 ((4 : Int32) * x3)) &&& (15 : Int32)))) <<< (((4 : Int32) * x3) &&& 31)))), (3, .int (x3 + (1 : Int32)))] []) : Wm G mX4_leastRow E (bm G mX4_leastRow E (pI Q)) μ 4 [(0, .ref (gb G + c0)), (1, .int x1), (2, .int x2), (3, .int x3)] [] := by
  refine L_iload_n C (i := 3) dX4_leastRow_4 rfl rfl ?_
  refine L_aload_n C (i := 0) dX4_leastRow_5 rfl rfl ?_
  refine L_getI C dX4_leastRow_6 h0 fl_X4_21 rfl ?_
  refine L_icmp_ge C (tgt := 41) dX4_leastRow_9 rfl (fun p1 => ?_) (fun p1 => ?_)
  · refine L_iload_n C (i := 2) dX4_leastRow_41 rfl rfl ?_
    exact L_irI C dX4_leastRow_42 rfl (rr1 p1)
  · refine L_iload_n C (i := 1) dX4_leastRow_12 rfl rfl ?_
    refine L_iconst C (v := 4) dX4_leastRow_13 rfl ?_
    refine L_iload_n C (i := 3) dX4_leastRow_14 rfl rfl ?_
    refine L_imul C dX4_leastRow_15 ?_
    refine L_iushr C dX4_leastRow_16 ?_
    refine L_bipush C (v := 15) dX4_leastRow_17 rfl ?_
    refine L_iand C dX4_leastRow_19 ?_
    refine L_istore C dX4_leastRow_20 (Nat.le_of_ble_eq_true rfl) ?_
    refine L_iload_n C (i := 2) dX4_leastRow_22 rfl rfl ?_
    refine L_iload C dX4_leastRow_23 rfl ?_
    refine L_iload C dX4_leastRow_25 rfl ?_
    refine L_ineg C dX4_leastRow_27 ?_
    refine L_iand C dX4_leastRow_28 ?_
    refine L_iconst C (v := 4) dX4_leastRow_29 rfl ?_
    refine L_iload_n C (i := 3) dX4_leastRow_30 rfl rfl ?_
    refine L_imul C dX4_leastRow_31 ?_
    refine L_ishl C dX4_leastRow_32 ?_
    refine L_ior C dX4_leastRow_33 ?_
    refine L_istore_n C (i := 2) dX4_leastRow_34 rfl (Nat.le_of_ble_eq_true rfl) ?_
    refine L_iinc C (v := 1) dX4_leastRow_35 rfl rfl (Nat.le_of_ble_eq_true rfl) ?_
    refine L_goto C (tgt := 4) dX4_leastRow_38 rfl ?_
    refine L_sub [0, 1, 2, 3] rfl ?_
    exact kk2 p1
set_option maxRecDepth 4000 in
theorem k_X4_withOnly_0 {G : mG} {E : mE} {Q : Int32 → mM → Prop} {μ : mM} (C : Cx G mX4_withOnly E) {x0 : Int32} {x1 : Int32} (rr1 : Q ((x0 &&& ((((((x1 ||| (iush x1 1)) ||| (iush x1 2)) ||| (iush x1 3)) &&& (286331153 : Int32)) * (15 : Int32)) ^^^ ((-1) : Int32))) ||| x1) μ) : Wm G mX4_withOnly E (bm G mX4_withOnly E (pI Q)) μ 0 [(0, .int x0), (1, .int x1)] [] := by
  refine L_iload_n C (i := 0) dX4_withOnly_0 rfl rfl ?_
  refine L_iload_n C (i := 1) dX4_withOnly_1 rfl rfl ?_
  refine L_invSN1i C dX4_withOnly_2 cal_X11_columnsOf stc_X11_columnsOf nk_X4_34 ⟨Nat.le_of_ble_eq_true rfl, Nat.le_of_ble_eq_true rfl⟩ ⟨Nat.le_of_ble_eq_true rfl, Nat.le_of_ble_eq_true rfl⟩ (Nat.le_of_ble_eq_true rfl) (a_X11_columnsOf (?_))
  · refine L_iconst C (v := (-1)) dX4_withOnly_5 rfl ?_
    refine L_ixor C dX4_withOnly_6 ?_
    refine L_iand C dX4_withOnly_7 ?_
    refine L_iload_n C (i := 1) dX4_withOnly_8 rfl rfl ?_
    refine L_ior C dX4_withOnly_9 ?_
    exact L_irI C dX4_withOnly_10 rfl (rr1)
theorem a_X4_withOnly {G : mG} {Q : Int32 → mM → Prop} {μ : mM} {x0 : Int32} {x1 : Int32} (rr1 : Q ((x0 &&& ((((((x1 ||| (iush x1 1)) ||| (iush x1 2)) ||| (iush x1 3)) &&& (286331153 : Int32)) * (15 : Int32)) ^^^ ((-1) : Int32))) ||| x1) μ) : CtI G mX4_withOnly [.int x0, .int x1] μ Q :=
  CtI.of pn_X4 (Nat.le_of_ble_eq_true rfl) (fun E C => k_X4_withOnly_0 C rr1)
set_option maxRecDepth 4000 in
theorem k_X4_lawfulRow_0 {G : mG} {E : mE} {dp : Nat} {Q : Int32 → mM → Prop} {μ : mM} (C : Cx G (mX4_lawfulRow (dp + 4)) E) {c0 : Nat} (h0 : sh c0 = (0, 3)) {x1 : Int32} {x2 : Int32} (cc1 : CtI G mX4_narrow [.ref (gb G + c0), .int x1] μ (fun r μ' => Wm G (mX4_lawfulRow (dp + 4)) E (bm G (mX4_lawfulRow (dp + 4)) E (pI Q)) μ' 5 [(0, .ref (gb G + c0)), (2, .int x2)] [.int r])) : Wm G (mX4_lawfulRow (dp + 4)) E (bm G (mX4_lawfulRow (dp + 4)) E (pI Q)) μ 0 [(0, .ref (gb G + c0)), (1, .int x1), (2, .int x2)] [] := by
  refine L_aload_n C (i := 0) dX4_lawfulRow_0 rfl rfl ?_
  refine L_iload_n C (i := 1) dX4_lawfulRow_1 rfl rfl ?_
  refine L_sub [0, 2] rfl ?_
  refine L_invV1i C dX4_lawfulRow_2 h0 cal_X4_narrow lk_X4_76 ⟨by show 2 + 1 ≤ dp + 4; omega, by show 8 + (7 + 11) + 48 * 2 ≤ 48 * (dp + 4); omega⟩ ⟨Nat.le_of_ble_eq_true rfl, Nat.le_of_ble_eq_true rfl⟩ (Nat.le_of_ble_eq_true rfl) ?_
  exact cc1
theorem e_X4_lawfulRow {G : mG} {dp : Nat} {Q : Int32 → mM → Prop} {μ : mM} {c0 : Nat} (h0 : sh c0 = (0, 3)) {x1 : Int32} {x2 : Int32} (k : ∀ E, Cx G (mX4_lawfulRow (dp + 4)) E → Wm G (mX4_lawfulRow (dp + 4)) E (bm G (mX4_lawfulRow (dp + 4)) E (pI Q)) μ 0 [(0, .ref (gb G + c0)), (1, .int x1), (2, .int x2)] []) : CtI G (mX4_lawfulRow (dp + 4)) [.ref (gb G + c0), .int x1, .int x2] μ Q := CtI.of pn_X4 (Nat.le_of_ble_eq_true rfl) k
set_option maxRecDepth 4000 in
theorem k_X4_lawfulRow_5 {G : mG} {E : mE} {dp : Nat} {Q : Int32 → mM → Prop} {μ : mM} (C : Cx G (mX4_lawfulRow (dp + 4)) E) {c0 : Nat} (h0 : sh c0 = (0, 3)) {x2 : Int32} {sx0 : Int32} (rr1 : (sx0 = 0 ∨ (¬ sx0 = 0 ∧ ¬ x2 ≤ 40)) → Q 0 μ) (cc2 : ¬ sx0 = 0 → x2 ≤ 40 → CtI G mX4_openCell [.ref (gb G + c0), .int sx0] μ (fun r μ' => Wm G (mX4_lawfulRow (dp + 4)) E (bm G (mX4_lawfulRow (dp + 4)) E (pI Q)) μ' 23 [(0, .ref (gb G + c0)), (2, .int x2), (3, .int sx0)] [.int r])) : Wm G (mX4_lawfulRow (dp + 4)) E (bm G (mX4_lawfulRow (dp + 4)) E (pI Q)) μ 5 [(0, .ref (gb G + c0)), (2, .int x2)] [.int sx0] := by
  refine L_istore_n C (i := 3) dX4_lawfulRow_5 rfl (Nat.le_of_ble_eq_true rfl) ?_
  refine L_iload_n C (i := 3) dX4_lawfulRow_6 rfl rfl ?_
  refine L_if_eq C (tgt := 16) dX4_lawfulRow_7 rfl (fun p1 => ?_) (fun p1 => ?_)
  · refine L_iconst C (v := 0) dX4_lawfulRow_16 rfl ?_
    exact L_irI C dX4_lawfulRow_17 rfl (rr1 (Or.inl p1))
  · refine L_iload_n C (i := 2) dX4_lawfulRow_10 rfl rfl ?_
    refine L_bipush C (v := 40) dX4_lawfulRow_11 rfl ?_
    refine L_icmp_le C (tgt := 18) dX4_lawfulRow_13 rfl (fun p2 => ?_) (fun p2 => ?_)
    · refine L_aload_n C (i := 0) dX4_lawfulRow_18 rfl rfl ?_
      refine L_iload_n C (i := 3) dX4_lawfulRow_19 rfl rfl ?_
      refine L_invV1i C dX4_lawfulRow_20 h0 cal_X4_openCell lk_X4_79 ⟨by show 2 + 1 ≤ dp + 4; omega, by show 8 + (4 + 11) + 48 * 2 ≤ 48 * (dp + 4); omega⟩ ⟨Nat.le_of_ble_eq_true rfl, Nat.le_of_ble_eq_true rfl⟩ (Nat.le_of_ble_eq_true rfl) ?_
      exact cc2 p1 p2
    · refine L_iconst C (v := 0) dX4_lawfulRow_16 rfl ?_
      exact L_irI C dX4_lawfulRow_17 rfl (rr1 (Or.inr ⟨p1, p2⟩))
set_option maxRecDepth 4000 in
theorem k_X4_lawfulRow_23 {G : mG} {E : mE} {dp : Nat} {Q : Int32 → mM → Prop} {μ : mM} (C : Cx G (mX4_lawfulRow (dp + 4)) E) {c0 : Nat} (h0 : sh c0 = (0, 3)) {x2 : Int32} {x3 : Int32} {sx0 : Int32} (cc1 : ¬ sx0 = 0 → CtI G (mX4_lawfulRow (dp + 3)) [.ref (gb G + c0), .int (x3 &&& (sx0 ^^^ ((-1) : Int32))), .int (x2 + (1 : Int32))] μ (fun r μ' => Wm G (mX4_lawfulRow (dp + 4)) E (bm G (mX4_lawfulRow (dp + 4)) E (pI Q)) μ' 49 [(0, .ref (gb G + c0)), (2, .int x2), (3, .int x3), (4, .int sx0)] [.int r])) (cc2 : sx0 = 0 → CtI G mX4_leastRow [.ref (gb G + c0), .int x3] μ (fun r μ' => Wm G (mX4_lawfulRow (dp + 4)) E (bm G (mX4_lawfulRow (dp + 4)) E (pI Q)) μ' 35 [] [.int r])) : Wm G (mX4_lawfulRow (dp + 4)) E (bm G (mX4_lawfulRow (dp + 4)) E (pI Q)) μ 23 [(0, .ref (gb G + c0)), (2, .int x2), (3, .int x3)] [.int sx0] := by
  refine L_istore C dX4_lawfulRow_23 (Nat.le_of_ble_eq_true rfl) ?_
  refine L_iload C dX4_lawfulRow_25 rfl ?_
  refine L_if_ne C (tgt := 36) dX4_lawfulRow_27 rfl (fun p1 => ?_) (fun p1 => ?_)
  · refine L_aload_n C (i := 0) dX4_lawfulRow_36 rfl rfl ?_
    refine L_iload_n C (i := 3) dX4_lawfulRow_37 rfl rfl ?_
    refine L_iload C dX4_lawfulRow_38 rfl ?_
    refine L_iconst C (v := (-1)) dX4_lawfulRow_40 rfl ?_
    refine L_ixor C dX4_lawfulRow_41 ?_
    refine L_iand C dX4_lawfulRow_42 ?_
    refine L_iload_n C (i := 2) dX4_lawfulRow_43 rfl rfl ?_
    refine L_iconst C (v := 1) dX4_lawfulRow_44 rfl ?_
    refine L_iadd C dX4_lawfulRow_45 ?_
    refine L_invS3i C dX4_lawfulRow_46 (cal_X4_lawfulRow (dp + 3)) stc_X4_lawfulRow lk_X4_68 ⟨by show (dp + 3) + 1 ≤ dp + 4; omega, by show 8 + (6 + 11) + 48 * (dp + 3) ≤ 48 * (dp + 4); omega⟩ ⟨Nat.le_of_ble_eq_true rfl, Nat.le_of_ble_eq_true rfl⟩ (Nat.le_of_ble_eq_true rfl) ?_
    exact cc1 p1
  · refine L_aload_n C (i := 0) dX4_lawfulRow_30 rfl rfl ?_
    refine L_iload_n C (i := 3) dX4_lawfulRow_31 rfl rfl ?_
    refine L_sub [] rfl ?_
    refine L_invV1i C dX4_lawfulRow_32 h0 cal_X4_leastRow lk_X4_82 ⟨by show 1 + 1 ≤ dp + 4; omega, by show 8 + (5 + 11) + 48 * 1 ≤ 48 * (dp + 4); omega⟩ ⟨Nat.le_of_ble_eq_true rfl, Nat.le_of_ble_eq_true rfl⟩ (Nat.le_of_ble_eq_true rfl) ?_
    exact cc2 p1
set_option maxRecDepth 4000 in
theorem k_X4_lawfulRow_35 {G : mG} {E : mE} {dp : Nat} {Q : Int32 → mM → Prop} {μ : mM} (C : Cx G (mX4_lawfulRow (dp + 4)) E) {sx0 : Int32} (rr1 : Q sx0 μ) : Wm G (mX4_lawfulRow (dp + 4)) E (bm G (mX4_lawfulRow (dp + 4)) E (pI Q)) μ 35 [] [.int sx0] := by
  exact L_irI C dX4_lawfulRow_35 rfl (rr1)
set_option maxRecDepth 4000 in
theorem k_X4_lawfulRow_49 {G : mG} {E : mE} {dp : Nat} {Q : Int32 → mM → Prop} {μ : mM} (C : Cx G (mX4_lawfulRow (dp + 4)) E) {c0 : Nat} (h0 : sh c0 = (0, 3)) {x2 : Int32} {x3 : Int32} {x4 : Int32} {sx0 : Int32} (cc1 : sx0 = 0 → CtI G (mX4_lawfulRow (dp + 3)) [.ref (gb G + c0), .int ((x3 &&& ((((((x4 ||| (iush x4 1)) ||| (iush x4 2)) ||| (iush x4 3)) &&& (286331153 : Int32)) * (15 : Int32)) ^^^ ((-1) : Int32))) ||| x4), .int (x2 + (1 : Int32))] μ (fun r μ' => Wm G (mX4_lawfulRow (dp + 4)) E (bm G (mX4_lawfulRow (dp + 4)) E (pI Q)) μ' 74 [] [.int r])) (kk2 : ¬ sx0 = 0 → Wm G (mX4_lawfulRow (dp + 4)) E (bm G (mX4_lawfulRow (dp + 4)) E (pI Q)) μ 74 [] [.int sx0]) : Wm G (mX4_lawfulRow (dp + 4)) E (bm G (mX4_lawfulRow (dp + 4)) E (pI Q)) μ 49 [(0, .ref (gb G + c0)), (2, .int x2), (3, .int x3), (4, .int x4)] [.int sx0] := by
  refine L_istore C dX4_lawfulRow_49 (Nat.le_of_ble_eq_true rfl) ?_
  refine L_iload C dX4_lawfulRow_51 rfl ?_
  refine L_if_eq C (tgt := 61) dX4_lawfulRow_53 rfl (fun p1 => ?_) (fun p1 => ?_)
  · refine L_aload_n C (i := 0) dX4_lawfulRow_61 rfl rfl ?_
    refine L_iload_n C (i := 3) dX4_lawfulRow_62 rfl rfl ?_
    refine L_iload C dX4_lawfulRow_63 rfl ?_
    refine L_invS2i C dX4_lawfulRow_65 cal_X4_withOnly stc_X4_withOnly lk_X4_85 ⟨by show 2 + 1 ≤ dp + 4; omega, by show 8 + (2 + 11) + 48 * 2 ≤ 48 * (dp + 4); omega⟩ ⟨Nat.le_of_ble_eq_true rfl, Nat.le_of_ble_eq_true rfl⟩ (Nat.le_of_ble_eq_true rfl) (a_X4_withOnly (?_))
    · refine L_iload_n C (i := 2) dX4_lawfulRow_68 rfl rfl ?_
      refine L_iconst C (v := 1) dX4_lawfulRow_69 rfl ?_
      refine L_iadd C dX4_lawfulRow_70 ?_
      refine L_sub [] rfl ?_
      refine L_invS3i C dX4_lawfulRow_71 (cal_X4_lawfulRow (dp + 3)) stc_X4_lawfulRow lk_X4_68 ⟨by show (dp + 3) + 1 ≤ dp + 4; omega, by show 8 + (6 + 11) + 48 * (dp + 3) ≤ 48 * (dp + 4); omega⟩ ⟨Nat.le_of_ble_eq_true rfl, Nat.le_of_ble_eq_true rfl⟩ (Nat.le_of_ble_eq_true rfl) ?_
      exact cc1 p1
  · refine L_iload C dX4_lawfulRow_56 rfl ?_
    refine L_goto C (tgt := 74) dX4_lawfulRow_58 rfl ?_
    refine L_sub [] rfl ?_
    exact kk2 p1
set_option maxRecDepth 4000 in
theorem k_X4_lawfulRow_74 {G : mG} {E : mE} {dp : Nat} {Q : Int32 → mM → Prop} {μ : mM} (C : Cx G (mX4_lawfulRow (dp + 4)) E) {sx0 : Int32} (rr1 : Q sx0 μ) : Wm G (mX4_lawfulRow (dp + 4)) E (bm G (mX4_lawfulRow (dp + 4)) E (pI Q)) μ 74 [] [.int sx0] := by
  exact L_irI C dX4_lawfulRow_74 rfl (rr1)
set_option maxRecDepth 4000 in
theorem k_X4_allows_0 {G : mG} {E : mE} {Q : Int32 → mM → Prop} {μ : mM} (C : Cx G mX4_allows E) {c0 : Nat} (h0 : sh c0 = (0, 3)) {x1 : Int32} (cc1 : CtI G (mX4_lawfulRow 63) [.ref (gb G + c0), .int (((μ c0 3) &&& ((((((x1 ||| (iush x1 1)) ||| (iush x1 2)) ||| (iush x1 3)) &&& (286331153 : Int32)) * (15 : Int32)) ^^^ ((-1) : Int32))) ||| x1), .int 0] μ (fun r μ' => Wm G mX4_allows E (bm G mX4_allows E (pI Q)) μ' 10 [] [.int r])) : Wm G mX4_allows E (bm G mX4_allows E (pI Q)) μ 0 [(0, .ref (gb G + c0)), (1, .int x1)] [] := by
  refine L_aload_n C (i := 0) dX4_allows_0 rfl rfl ?_
  refine L_aload_n C (i := 0) dX4_allows_1 rfl rfl ?_
  refine L_iload_n C (i := 1) dX4_allows_2 rfl rfl ?_
  refine L_invV1i C dX4_allows_3 h0 cal_X4_leftTo lk_X4_65 ⟨Nat.le_of_ble_eq_true rfl, Nat.le_of_ble_eq_true rfl⟩ ⟨Nat.le_of_ble_eq_true rfl, Nat.le_of_ble_eq_true rfl⟩ (Nat.le_of_ble_eq_true rfl) (a_X4_leftTo h0 (?_))
  · refine L_iconst C (v := 0) dX4_allows_6 rfl ?_
    refine L_sub [] rfl ?_
    refine L_invS3i C dX4_allows_7 (cal_X4_lawfulRow 63) stc_X4_lawfulRow lk_X4_68 ⟨Nat.le_of_ble_eq_true rfl, Nat.le_of_ble_eq_true rfl⟩ ⟨Nat.le_of_ble_eq_true rfl, Nat.le_of_ble_eq_true rfl⟩ (Nat.le_of_ble_eq_true rfl) ?_
    exact cc1
theorem e_X4_allows {G : mG} {Q : Int32 → mM → Prop} {μ : mM} {c0 : Nat} (h0 : sh c0 = (0, 3)) {x1 : Int32} (k : ∀ E, Cx G mX4_allows E → Wm G mX4_allows E (bm G mX4_allows E (pI Q)) μ 0 [(0, .ref (gb G + c0)), (1, .int x1)] []) : CtI G mX4_allows [.ref (gb G + c0), .int x1] μ Q := CtI.of pn_X4 (Nat.le_of_ble_eq_true rfl) k
set_option maxRecDepth 4000 in
theorem k_X4_allows_10 {G : mG} {E : mE} {Q : Int32 → mM → Prop} {μ : mM} (C : Cx G mX4_allows E) {sx0 : Int32} (rr1 : sx0 = 0 → Q 0 μ) (rr2 : ¬ sx0 = 0 → Q 1 μ) : Wm G mX4_allows E (bm G mX4_allows E (pI Q)) μ 10 [] [.int sx0] := by
  refine L_if_eq C (tgt := 17) dX4_allows_10 rfl (fun p1 => ?_) (fun p1 => ?_)
  · refine L_iconst C (v := 0) dX4_allows_17 rfl ?_
    exact L_irZ C dX4_allows_18 rfl (by decide) (rr1 p1)
  · refine L_iconst C (v := 1) dX4_allows_13 rfl ?_
    refine L_goto C (tgt := 18) dX4_allows_14 rfl ?_
    exact L_irZ C dX4_allows_18 rfl (by decide) (rr2 p1)
set_option maxRecDepth 4000 in
theorem k_X5_read_0 {G : mG} {E : mE} {Q : Int32 → mM → Prop} {μ : mM} (C : Cx G mX5_read E)  (cc1 : CtV G mX5_skipBlanks [.ref (gb G + 3)] (ms (ms (ms (ms (ms (ms (ms (ms (ms μ 3 2 (nI 2)) 3 3 (μ 1 1)) 3 4 0) 3 5 (-1)) 3 6 0) 4 0 0) 4 1 2) 4 2 0) 4 3 0) (fun μ' => Wm G mX5_read E (bm G mX5_read E (pI Q)) μ' 42 [(0, .ref (gb G + 3))] [])) : Wm G mX5_read E (bm G mX5_read E (pI Q)) μ 0 [(0, .ref (gb G + 3)), (1, .ref (gb G + 1))] [] := by
  refine L_aload_n C (i := 0) dX5_read_0 rfl rfl ?_
  refine L_aload_n C (i := 1) dX5_read_1 rfl rfl ?_
  refine L_getC C (c' := 2) dX5_read_2 sh_1 fl_X5_29 rfl rfl ?_
  refine L_putD C dX5_read_5 sh_3 fl_X5_25 rfl rfl rfl (by decide) ?_
  refine L_aload_n C (i := 0) dX5_read_8 rfl rfl ?_
  refine L_aload_n C (i := 1) dX5_read_9 rfl rfl ?_
  refine L_getI C dX5_read_10 sh_1 fl_X5_34 rfl ?_
  refine L_putI C dX5_read_13 sh_3 fl_X5_38 rfl rfl rfl ?_
  refine L_aload_n C (i := 0) dX5_read_16 rfl rfl ?_
  refine L_iconst C (v := 0) dX5_read_17 rfl ?_
  refine L_putI C dX5_read_18 sh_3 fl_X5_39 rfl rfl rfl ?_
  refine L_aload_n C (i := 0) dX5_read_21 rfl rfl ?_
  refine L_iconst C (v := (-1)) dX5_read_22 rfl ?_
  refine L_putI C dX5_read_23 sh_3 fl_X5_42 rfl rfl rfl ?_
  refine L_aload_n C (i := 0) dX5_read_26 rfl rfl ?_
  refine L_iconst C (v := 0) dX5_read_27 rfl ?_
  refine L_putZ C dX5_read_28 sh_3 fl_X5_45 rfl rfl rfl (by decide) ?_
  refine L_aload_n C (i := 0) dX5_read_31 rfl rfl ?_
  refine L_getC C (c' := 4) dX5_read_32 sh_3 fl_X5_12 rfl rfl ?_
  refine L_invV0v C dX5_read_35 sh_4 cal_X4_clear lk_X5_49 ⟨Nat.le_of_ble_eq_true rfl, Nat.le_of_ble_eq_true rfl⟩ ⟨Nat.le_of_ble_eq_true rfl, Nat.le_of_ble_eq_true rfl⟩ (Nat.le_of_ble_eq_true rfl) (a_X4_clear sh_4 (?_))
  · refine L_aload_n C (i := 0) dX5_read_38 rfl rfl ?_
    refine L_sub [0] rfl ?_
    refine L_invV0v C dX5_read_39 sh_3 cal_X5_skipBlanks lk_X5_52 ⟨Nat.le_of_ble_eq_true rfl, Nat.le_of_ble_eq_true rfl⟩ ⟨Nat.le_of_ble_eq_true rfl, Nat.le_of_ble_eq_true rfl⟩ (Nat.le_of_ble_eq_true rfl) ?_
    exact cc1
theorem e_X5_read {G : mG} {Q : Int32 → mM → Prop} {μ : mM}  (k : ∀ E, Cx G mX5_read E → Wm G mX5_read E (bm G mX5_read E (pI Q)) μ 0 [(0, .ref (gb G + 3)), (1, .ref (gb G + 1))] []) : CtI G mX5_read [.ref (gb G + 3), .ref (gb G + 1)] μ Q := CtI.of pn_X5 (Nat.le_of_ble_eq_true rfl) k
set_option maxRecDepth 4000 in
theorem k_X5_read_42 {G : mG} {E : mE} {Q : Int32 → mM → Prop} {μ : mM} (C : Cx G mX5_read E)  (cc1 : CtV G mX5_readLevels [.ref (gb G + 3)] μ (fun μ' => Wm G mX5_read E (bm G mX5_read E (pI Q)) μ' 46 [(0, .ref (gb G + 3))] [])) : Wm G mX5_read E (bm G mX5_read E (pI Q)) μ 42 [(0, .ref (gb G + 3))] [] := by
  refine L_aload_n C (i := 0) dX5_read_42 rfl rfl ?_
  refine L_invV0v C dX5_read_43 sh_3 cal_X5_readLevels lk_X5_55 ⟨Nat.le_of_ble_eq_true rfl, Nat.le_of_ble_eq_true rfl⟩ ⟨Nat.le_of_ble_eq_true rfl, Nat.le_of_ble_eq_true rfl⟩ (Nat.le_of_ble_eq_true rfl) ?_
  exact cc1
set_option maxRecDepth 4000 in
theorem k_X5_read_46 {G : mG} {E : mE} {B : mB} {μ : mM} (C : Cx G mX5_read E)  (kk1 : Wm G mX5_read E B μ 48 [(0, .ref (gb G + 3)), (2, .int 0)] []) : Wm G mX5_read E B μ 46 [(0, .ref (gb G + 3))] [] := by
  refine L_iconst C (v := 0) dX5_read_46 rfl ?_
  refine L_istore_n C (i := 2) dX5_read_47 rfl (Nat.le_of_ble_eq_true rfl) ?_
  exact kk1
set_option maxRecDepth 4000 in
theorem k_X5_read_48 {G : mG} {E : mE} {Q : Int32 → mM → Prop} {μ : mM} (C : Cx G mX5_read E) {x2 : Int32} (kk1 : (¬ (μ 3 5) = (-1) ∨ ((μ 3 5) = (-1) ∧ ((μ 3 3) ≤ (μ 3 4) ∨ (¬ (μ 3 3) ≤ (μ 3 4) ∧ 200 ≤ x2)))) → Wm G mX5_read E (bm G mX5_read E (pI Q)) μ 84 [(0, .ref (gb G + 3))] []) (cc2 : (μ 3 5) = (-1) → ¬ (μ 3 3) ≤ (μ 3 4) → ¬ 200 ≤ x2 → CtV G mX5_readLine [.ref (gb G + 3)] μ (fun μ' => Wm G mX5_read E (bm G mX5_read E (pI Q)) μ' 78 [(0, .ref (gb G + 3)), (2, .int x2)] [])) : Wm G mX5_read E (bm G mX5_read E (pI Q)) μ 48 [(0, .ref (gb G + 3)), (2, .int x2)] [] := by
  refine L_aload_n C (i := 0) dX5_read_48 rfl rfl ?_
  refine L_getI C dX5_read_49 sh_3 fl_X5_42 rfl ?_
  refine L_iconst C (v := (-1)) dX5_read_52 rfl ?_
  refine L_icmp_ne C (tgt := 84) dX5_read_53 rfl (fun p1 => ?_) (fun p1 => ?_)
  · refine L_sub [0] rfl ?_
    exact kk1 (Or.inl p1)
  · refine L_aload_n C (i := 0) dX5_read_56 rfl rfl ?_
    refine L_getI C dX5_read_57 sh_3 fl_X5_39 rfl ?_
    refine L_aload_n C (i := 0) dX5_read_60 rfl rfl ?_
    refine L_getI C dX5_read_61 sh_3 fl_X5_38 rfl ?_
    refine L_icmp_ge C (tgt := 84) dX5_read_64 rfl (fun p2 => ?_) (fun p2 => ?_)
    · refine L_sub [0] rfl ?_
      exact kk1 (Or.inr ⟨p1, (Or.inl p2)⟩)
    · refine L_iload_n C (i := 2) dX5_read_67 rfl rfl ?_
      refine L_sipush C (v := 200) dX5_read_68 rfl ?_
      refine L_icmp_ge C (tgt := 84) dX5_read_71 rfl (fun p3 => ?_) (fun p3 => ?_)
      · refine L_sub [0] rfl ?_
        exact kk1 (Or.inr ⟨p1, (Or.inr ⟨p2, p3⟩)⟩)
      · refine L_aload_n C (i := 0) dX5_read_74 rfl rfl ?_
        refine L_invV0v C dX5_read_75 sh_3 cal_X5_readLine lk_X5_58 ⟨Nat.le_of_ble_eq_true rfl, Nat.le_of_ble_eq_true rfl⟩ ⟨Nat.le_of_ble_eq_true rfl, Nat.le_of_ble_eq_true rfl⟩ (Nat.le_of_ble_eq_true rfl) ?_
        exact cc2 p1 p2 p3
set_option maxRecDepth 4000 in
theorem k_X5_read_78 {G : mG} {E : mE} {B : mB} {μ : mM} (C : Cx G mX5_read E) {x2 : Int32} (kk1 : Wm G mX5_read E B μ 48 [(0, .ref (gb G + 3)), (2, .int (x2 + (1 : Int32)))] []) : Wm G mX5_read E B μ 78 [(0, .ref (gb G + 3)), (2, .int x2)] [] := by
  refine L_iinc C (v := 1) dX5_read_78 rfl rfl (Nat.le_of_ble_eq_true rfl) ?_
  refine L_goto C (tgt := 48) dX5_read_81 rfl ?_
  exact kk1
set_option maxRecDepth 4000 in
theorem k_X5_read_84 {G : mG} {E : mE} {Q : Int32 → mM → Prop} {μ : mM} (C : Cx G mX5_read E)  (kk1 : ¬ (μ 3 5) = (-1) → Wm G mX5_read E (bm G mX5_read E (pI Q)) μ 126 [(0, .ref (gb G + 3))] []) (cc2 : (μ 3 5) = (-1) → CtI G mX5_mixesOf [.ref (gb G + 3), .ref (gb G + 4)] μ (fun r μ' => Wm G mX5_read E (bm G mX5_read E (pI Q)) μ' 100 [(0, .ref (gb G + 3))] [.int r])) : Wm G mX5_read E (bm G mX5_read E (pI Q)) μ 84 [(0, .ref (gb G + 3))] [] := by
  refine L_aload_n C (i := 0) dX5_read_84 rfl rfl ?_
  refine L_getI C dX5_read_85 sh_3 fl_X5_42 rfl ?_
  refine L_iconst C (v := (-1)) dX5_read_88 rfl ?_
  refine L_icmp_ne C (tgt := 126) dX5_read_89 rfl (fun p1 => ?_) (fun p1 => ?_)
  · exact kk1 p1
  · refine L_aload_n C (i := 0) dX5_read_92 rfl rfl ?_
    refine L_aload_n C (i := 0) dX5_read_93 rfl rfl ?_
    refine L_getC C (c' := 4) dX5_read_94 sh_3 fl_X5_12 rfl rfl ?_
    refine L_invV1i C dX5_read_97 sh_3 cal_X5_mixesOf lk_X5_61 ⟨Nat.le_of_ble_eq_true rfl, Nat.le_of_ble_eq_true rfl⟩ ⟨Nat.le_of_ble_eq_true rfl, Nat.le_of_ble_eq_true rfl⟩ (Nat.le_of_ble_eq_true rfl) ?_
    exact cc2 p1
set_option maxRecDepth 4000 in
theorem k_X5_read_100 {G : mG} {E : mE} {Q : Int32 → mM → Prop} {μ : mM} (C : Cx G mX5_read E) {sx0 : Int32} (kk1 : 1200 < sx0 → Wm G mX5_read E (bm G mX5_read E (pI Q)) μ 117 [(0, .ref (gb G + 3))] []) (cc2 : ¬ 1200 < sx0 → CtI G mX4_allows [.ref (gb G + 4), .int 0] μ (fun r μ' => Wm G mX5_read E (bm G mX5_read E (pI Q)) μ' 114 [(0, .ref (gb G + 3))] [.int r])) : Wm G mX5_read E (bm G mX5_read E (pI Q)) μ 100 [(0, .ref (gb G + 3))] [.int sx0] := by
  refine L_sipush C (v := 1200) dX5_read_100 rfl ?_
  refine L_icmp_gt C (tgt := 117) dX5_read_103 rfl (fun p1 => ?_) (fun p1 => ?_)
  · exact kk1 p1
  · refine L_aload_n C (i := 0) dX5_read_106 rfl rfl ?_
    refine L_getC C (c' := 4) dX5_read_107 sh_3 fl_X5_12 rfl rfl ?_
    refine L_iconst C (v := 0) dX5_read_110 rfl ?_
    refine L_invV1i C dX5_read_111 sh_4 cal_X4_allows lk_X5_65 ⟨Nat.le_of_ble_eq_true rfl, Nat.le_of_ble_eq_true rfl⟩ ⟨Nat.le_of_ble_eq_true rfl, Nat.le_of_ble_eq_true rfl⟩ (Nat.le_of_ble_eq_true rfl) ?_
    exact cc2 p1
set_option maxRecDepth 4000 in
theorem k_X5_read_114 {G : mG} {E : mE} {B : mB} {μ : mM} (C : Cx G mX5_read E) {sx0 : Int32} (kk1 : ¬ sx0 = 0 → Wm G mX5_read E B μ 126 [(0, .ref (gb G + 3))] []) (kk2 : sx0 = 0 → Wm G mX5_read E B μ 117 [(0, .ref (gb G + 3))] []) : Wm G mX5_read E B μ 114 [(0, .ref (gb G + 3))] [.int sx0] := by
  refine L_if_ne C (tgt := 126) dX5_read_114 rfl (fun p1 => ?_) (fun p1 => ?_)
  · exact kk1 p1
  · exact kk2 p1
set_option maxRecDepth 4000 in
theorem k_X5_read_117 {G : mG} {E : mE} {Q : Int32 → mM → Prop} {μ : mM} (C : Cx G mX5_read E)  (cc1 : CtV G mX5_fail [.ref (gb G + 3), .int (μ 3 3), .int 4] μ (fun μ' => Wm G mX5_read E (bm G mX5_read E (pI Q)) μ' 126 [(0, .ref (gb G + 3))] [])) : Wm G mX5_read E (bm G mX5_read E (pI Q)) μ 117 [(0, .ref (gb G + 3))] [] := by
  refine L_aload_n C (i := 0) dX5_read_117 rfl rfl ?_
  refine L_aload_n C (i := 0) dX5_read_118 rfl rfl ?_
  refine L_getI C dX5_read_119 sh_3 fl_X5_38 rfl ?_
  refine L_iconst C (v := 4) dX5_read_122 rfl ?_
  refine L_invV2v C dX5_read_123 sh_3 cal_X5_fail lk_X5_69 ⟨Nat.le_of_ble_eq_true rfl, Nat.le_of_ble_eq_true rfl⟩ ⟨Nat.le_of_ble_eq_true rfl, Nat.le_of_ble_eq_true rfl⟩ (Nat.le_of_ble_eq_true rfl) ?_
  exact cc1
set_option maxRecDepth 4000 in
theorem k_X5_read_126 {G : mG} {E : mE} {Q : Int32 → mM → Prop} {μ : mM} (C : Cx G mX5_read E)  (rr1 : Q (μ 3 5) μ) : Wm G mX5_read E (bm G mX5_read E (pI Q)) μ 126 [(0, .ref (gb G + 3))] [] := by
  refine L_aload_n C (i := 0) dX5_read_126 rfl rfl ?_
  refine L_getI C dX5_read_127 sh_3 fl_X5_42 rfl ?_
  exact L_irI C dX5_read_130 rfl (rr1)
set_option maxRecDepth 4000 in
theorem k_X4_copyFrom_0 {G : mG} {E : mE} {Q : mM → Prop} {μ : mM} (C : Cx G mX4_copyFrom E) {c0 : Nat} (h0 : sh c0 = (0, 3)) {c1 : Nat} (h1 : sh c1 = (0, 3)) (ss1 : cpyOk 0 0 8 8 8) (ss2 : cpyOk 0 0 12 12 12) (rr3 : Q (cpy (cpy (cpy (ms (ms (ms (ms μ c0 0 (μ c1 0)) c0 1 ((ms μ c0 0 (μ c1 0)) c1 1)) c0 2 ((ms (ms μ c0 0 (μ c1 0)) c0 1 ((ms μ c0 0 (μ c1 0)) c1 1)) c1 2)) c0 3 ((ms (ms (ms μ c0 0 (μ c1 0)) c0 1 ((ms μ c0 0 (μ c1 0)) c1 1)) c0 2 ((ms (ms μ c0 0 (μ c1 0)) c0 1 ((ms μ c0 0 (μ c1 0)) c1 1)) c1 2)) c1 3)) (c1 + 1) (c0 + 1) 0 0 8) (c1 + 2) (c0 + 2) 0 0 12) (c1 + 3) (c0 + 3) 0 0 12)) : Wm G mX4_copyFrom E (bm G mX4_copyFrom E (pV Q)) μ 0 [(0, .ref (gb G + c0)), (1, .ref (gb G + c1))] [] := by
  refine L_aload_n C (i := 0) dX4_copyFrom_0 rfl rfl ?_
  refine L_aload_n C (i := 1) dX4_copyFrom_1 rfl rfl ?_
  refine L_getI C dX4_copyFrom_2 h1 fl_X4_21 rfl ?_
  refine L_putI C dX4_copyFrom_5 h0 fl_X4_21 rfl rfl rfl ?_
  refine L_aload_n C (i := 0) dX4_copyFrom_8 rfl rfl ?_
  refine L_aload_n C (i := 1) dX4_copyFrom_9 rfl rfl ?_
  refine L_getI C dX4_copyFrom_10 h1 fl_X4_25 rfl ?_
  refine L_putI C dX4_copyFrom_13 h0 fl_X4_25 rfl rfl rfl ?_
  refine L_aload_n C (i := 0) dX4_copyFrom_16 rfl rfl ?_
  refine L_aload_n C (i := 1) dX4_copyFrom_17 rfl rfl ?_
  refine L_getI C dX4_copyFrom_18 h1 fl_X4_28 rfl ?_
  refine L_putI C dX4_copyFrom_21 h0 fl_X4_28 rfl rfl rfl ?_
  refine L_aload_n C (i := 0) dX4_copyFrom_24 rfl rfl ?_
  refine L_aload_n C (i := 1) dX4_copyFrom_25 rfl rfl ?_
  refine L_getI C dX4_copyFrom_26 h1 fl_X4_31 rfl ?_
  refine L_putI C dX4_copyFrom_29 h0 fl_X4_31 rfl rfl rfl ?_
  refine L_aload_n C (i := 1) dX4_copyFrom_32 rfl rfl ?_
  refine L_getC C (c' := (c1 + 1)) dX4_copyFrom_33 h1 fl_X4_9 rfl rfl ?_
  refine L_iconst C (v := 0) dX4_copyFrom_36 rfl ?_
  refine L_aload_n C (i := 0) dX4_copyFrom_37 rfl rfl ?_
  refine L_getC C (c' := (c0 + 1)) dX4_copyFrom_38 h0 fl_X4_9 rfl rfl ?_
  refine L_iconst C (v := 0) dX4_copyFrom_41 rfl ?_
  refine L_bipush C (v := 8) dX4_copyFrom_42 rfl ?_
  refine L_cpy C dX4_copyFrom_44 (shd_3_1 h1) (shd_3_1 h0) lk_X4_38 ac_nat ac_stat ac_ini (Nat.le_of_ble_eq_true rfl) (Nat.le_of_ble_eq_true rfl) (Nat.le_of_ble_eq_true rfl) (ss1) ?_
  refine L_aload_n C (i := 1) dX4_copyFrom_47 rfl rfl ?_
  refine L_getC C (c' := (c1 + 2)) dX4_copyFrom_48 h1 fl_X4_15 rfl rfl ?_
  refine L_iconst C (v := 0) dX4_copyFrom_51 rfl ?_
  refine L_aload_n C (i := 0) dX4_copyFrom_52 rfl rfl ?_
  refine L_getC C (c' := (c0 + 2)) dX4_copyFrom_53 h0 fl_X4_15 rfl rfl ?_
  refine L_iconst C (v := 0) dX4_copyFrom_56 rfl ?_
  refine L_bipush C (v := 12) dX4_copyFrom_57 rfl ?_
  refine L_cpy C dX4_copyFrom_59 (shd_3_2 h1) (shd_3_2 h0) lk_X4_38 ac_nat ac_stat ac_ini (Nat.le_of_ble_eq_true rfl) (Nat.le_of_ble_eq_true rfl) (Nat.le_of_ble_eq_true rfl) (ss2) ?_
  refine L_aload_n C (i := 1) dX4_copyFrom_62 rfl rfl ?_
  refine L_getC C (c' := (c1 + 3)) dX4_copyFrom_63 h1 fl_X4_18 rfl rfl ?_
  refine L_iconst C (v := 0) dX4_copyFrom_66 rfl ?_
  refine L_aload_n C (i := 0) dX4_copyFrom_67 rfl rfl ?_
  refine L_getC C (c' := (c0 + 3)) dX4_copyFrom_68 h0 fl_X4_18 rfl rfl ?_
  refine L_iconst C (v := 0) dX4_copyFrom_71 rfl ?_
  refine L_bipush C (v := 12) dX4_copyFrom_72 rfl ?_
  refine L_cpy C dX4_copyFrom_74 (shd_3_3 h1) (shd_3_3 h0) lk_X4_38 ac_nat ac_stat ac_ini (Nat.le_of_ble_eq_true rfl) (Nat.le_of_ble_eq_true rfl) (Nat.le_of_ble_eq_true rfl) (ss2) ?_
  exact L_irV C dX4_copyFrom_77 rfl (rr3)
theorem a_X4_copyFrom {G : mG} {Q : mM → Prop} {μ : mM} {c0 : Nat} (h0 : sh c0 = (0, 3)) {c1 : Nat} (h1 : sh c1 = (0, 3)) (ss1 : cpyOk 0 0 8 8 8) (ss2 : cpyOk 0 0 12 12 12) (rr3 : Q (cpy (cpy (cpy (ms (ms (ms (ms μ c0 0 (μ c1 0)) c0 1 ((ms μ c0 0 (μ c1 0)) c1 1)) c0 2 ((ms (ms μ c0 0 (μ c1 0)) c0 1 ((ms μ c0 0 (μ c1 0)) c1 1)) c1 2)) c0 3 ((ms (ms (ms μ c0 0 (μ c1 0)) c0 1 ((ms μ c0 0 (μ c1 0)) c1 1)) c0 2 ((ms (ms μ c0 0 (μ c1 0)) c0 1 ((ms μ c0 0 (μ c1 0)) c1 1)) c1 2)) c1 3)) (c1 + 1) (c0 + 1) 0 0 8) (c1 + 2) (c0 + 2) 0 0 12) (c1 + 3) (c0 + 3) 0 0 12)) : CtV G mX4_copyFrom [.ref (gb G + c0), .ref (gb G + c1)] μ Q :=
  CtV.of pn_X4 (Nat.le_of_ble_eq_true rfl) (fun E C => k_X4_copyFrom_0 C h0 h1 ss1 ss2 rr3)
set_option maxRecDepth 4000 in
theorem k_X0_columnAt_0 {G : mG} {E : mE} {Q : Int32 → mM → Prop} {μ : mM} (C : Cx G mX0_columnAt E) {c0 : Nat} (h0 : sh c0 = (0, 0)) {x1 : Int32} {x2 : Int32} (ss1 : vp_in ((x1 * (3 : Int32)) + x2) 168) (rr2 : Q (μ (c0 + 1) ((x1 * (3 : Int32)) + x2).toNatClampNeg) μ) : Wm G mX0_columnAt E (bm G mX0_columnAt E (pI Q)) μ 0 [(0, .ref (gb G + c0)), (1, .int x1), (2, .int x2)] [] := by
  refine L_aload_n C (i := 0) dX0_columnAt_0 rfl rfl ?_
  refine L_getC C (c' := (c0 + 1)) dX0_columnAt_1 h0 fl_X0_9 rfl rfl ?_
  refine L_iload_n C (i := 1) dX0_columnAt_4 rfl rfl ?_
  refine L_iconst C (v := 3) dX0_columnAt_5 rfl ?_
  refine L_imul C dX0_columnAt_6 ?_
  refine L_iload_n C (i := 2) dX0_columnAt_7 rfl rfl ?_
  refine L_iadd C dX0_columnAt_8 ?_
  refine L_iald C dX0_columnAt_9 (shd_0_1 h0) (ss1) ?_
  exact L_irI C dX0_columnAt_10 rfl (rr2)
theorem a_X0_columnAt {G : mG} {Q : Int32 → mM → Prop} {μ : mM} {c0 : Nat} (h0 : sh c0 = (0, 0)) {x1 : Int32} {x2 : Int32} (ss1 : vp_in ((x1 * (3 : Int32)) + x2) 168) (rr2 : Q (μ (c0 + 1) ((x1 * (3 : Int32)) + x2).toNatClampNeg) μ) : CtI G mX0_columnAt [.ref (gb G + c0), .int x1, .int x2] μ Q :=
  CtI.of pn_X0 (Nat.le_of_ble_eq_true rfl) (fun E C => k_X0_columnAt_0 C h0 ss1 rr2)
set_option maxRecDepth 4000 in
theorem k_X0_levelsAt_0 {G : mG} {E : mE} {Q : Int32 → mM → Prop} {μ : mM} (C : Cx G mX0_levelsAt E) {c0 : Nat} (h0 : sh c0 = (0, 0)) {x1 : Int32} {x2 : Int32} (ss1 : vp_in ((x1 * (3 : Int32)) + x2) 168) (ss2 : vp_in (μ (c0 + 1) ((x1 * (3 : Int32)) + x2).toNatClampNeg) 8) (rr3 : Q (μ (c0 + 4) (μ (c0 + 1) ((x1 * (3 : Int32)) + x2).toNatClampNeg).toNatClampNeg) μ) : Wm G mX0_levelsAt E (bm G mX0_levelsAt E (pI Q)) μ 0 [(0, .ref (gb G + c0)), (1, .int x1), (2, .int x2)] [] := by
  refine L_aload_n C (i := 0) dX0_levelsAt_0 rfl rfl ?_
  refine L_getC C (c' := (c0 + 4)) dX0_levelsAt_1 h0 fl_X0_21 rfl rfl ?_
  refine L_aload_n C (i := 0) dX0_levelsAt_4 rfl rfl ?_
  refine L_iload_n C (i := 1) dX0_levelsAt_5 rfl rfl ?_
  refine L_iload_n C (i := 2) dX0_levelsAt_6 rfl rfl ?_
  refine L_invV2i C dX0_levelsAt_7 h0 cal_X0_columnAt lk_X0_52 ⟨Nat.le_of_ble_eq_true rfl, Nat.le_of_ble_eq_true rfl⟩ ⟨Nat.le_of_ble_eq_true rfl, Nat.le_of_ble_eq_true rfl⟩ (Nat.le_of_ble_eq_true rfl) (a_X0_columnAt h0 (ss1) (?_))
  · refine L_iald C dX0_levelsAt_10 (shd_0_4 h0) (ss2) ?_
    exact L_irI C dX0_levelsAt_11 rfl (rr3)
theorem a_X0_levelsAt {G : mG} {Q : Int32 → mM → Prop} {μ : mM} {c0 : Nat} (h0 : sh c0 = (0, 0)) {x1 : Int32} {x2 : Int32} (ss1 : vp_in ((x1 * (3 : Int32)) + x2) 168) (ss2 : vp_in (μ (c0 + 1) ((x1 * (3 : Int32)) + x2).toNatClampNeg) 8) (rr3 : Q (μ (c0 + 4) (μ (c0 + 1) ((x1 * (3 : Int32)) + x2).toNatClampNeg).toNatClampNeg) μ) : CtI G mX0_levelsAt [.ref (gb G + c0), .int x1, .int x2] μ Q :=
  CtI.of pn_X0 (Nat.le_of_ble_eq_true rfl) (fun E C => k_X0_levelsAt_0 C h0 ss1 ss2 rr3)
set_option maxRecDepth 4000 in
theorem k_X2_cellsOf_0 {G : mG} {E : mE} {B : mB} {μ : mM} (C : Cx G mX2_cellsOf E) {x1 : Int32} {x2 : Int32} (ss1 : vp_in x1 57) (kk2 : Wm G mX2_cellsOf E B μ 26 [(0, .ref (gb G + 22)), (1, .int x1), (3, .int (x2 - (μ 25 x1.toNatClampNeg))), (4, .int 0), (5, .int ((μ 23 1) - (1 : Int32)))] []) : Wm G mX2_cellsOf E B μ 0 [(0, .ref (gb G + 22)), (1, .int x1), (2, .int x2)] [] := by
  refine L_iload_n C (i := 2) dX2_cellsOf_0 rfl rfl ?_
  refine L_aload_n C (i := 0) dX2_cellsOf_1 rfl rfl ?_
  refine L_getC C (c' := 23) dX2_cellsOf_2 sh_22 fl_X2_12 rfl rfl ?_
  refine L_getC C (c' := 25) dX2_cellsOf_5 sh_23 fl_X2_28 rfl rfl ?_
  refine L_iload_n C (i := 1) dX2_cellsOf_8 rfl rfl ?_
  refine L_iald C dX2_cellsOf_9 sh_25 (ss1) ?_
  refine L_isub C dX2_cellsOf_10 ?_
  refine L_istore_n C (i := 3) dX2_cellsOf_11 rfl (Nat.le_of_ble_eq_true rfl) ?_
  refine L_iconst C (v := 0) dX2_cellsOf_12 rfl ?_
  refine L_istore C dX2_cellsOf_13 (Nat.le_of_ble_eq_true rfl) ?_
  refine L_aload_n C (i := 0) dX2_cellsOf_15 rfl rfl ?_
  refine L_getC C (c' := 23) dX2_cellsOf_16 sh_22 fl_X2_12 rfl rfl ?_
  refine L_getI C dX2_cellsOf_19 sh_23 fl_X2_66 rfl ?_
  refine L_iconst C (v := 1) dX2_cellsOf_22 rfl ?_
  refine L_isub C dX2_cellsOf_23 ?_
  refine L_istore C dX2_cellsOf_24 (Nat.le_of_ble_eq_true rfl) ?_
  refine L_sub [0, 1, 3, 4, 5] rfl ?_
  exact kk2
theorem e_X2_cellsOf {G : mG} {Q : Int32 → mM → Prop} {μ : mM} {x1 : Int32} {x2 : Int32} (k : ∀ E, Cx G mX2_cellsOf E → Wm G mX2_cellsOf E (bm G mX2_cellsOf E (pI Q)) μ 0 [(0, .ref (gb G + 22)), (1, .int x1), (2, .int x2)] []) : CtI G mX2_cellsOf [.ref (gb G + 22), .int x1, .int x2] μ Q := CtI.of pn_X2 (Nat.le_of_ble_eq_true rfl) k
set_option maxRecDepth 4000 in
theorem k_X2_cellsOf_26 {G : mG} {E : mE} {Q : Int32 → mM → Prop} {μ : mM} (C : Cx G mX2_cellsOf E) {x1 : Int32} {x3 : Int32} {x4 : Int32} {x5 : Int32} (rr1 : x5 < 0 → Q x4 μ) (ss2 : ¬ x5 < 0 → vp_in ((x1 * (3 : Int32)) + x5) 168) (ss3 : ¬ x5 < 0 → vp_in (μ 24 ((x1 * (3 : Int32)) + x5).toNatClampNeg) 8) (dd4 : ¬ x5 < 0 → ¬ (if 1 < (μ 27 (μ 24 ((x1 * (3 : Int32)) + x5).toNatClampNeg).toNatClampNeg) then (μ 27 (μ 24 ((x1 * (3 : Int32)) + x5).toNatClampNeg).toNatClampNeg) else 1) = 0) (kk5 : ¬ x5 < 0 → Wm G mX2_cellsOf E (bm G mX2_cellsOf E (pI Q)) μ 26 [(0, .ref (gb G + 22)), (1, .int x1), (3, .int (x3 / (if 1 < (μ 27 (μ 24 ((x1 * (3 : Int32)) + x5).toNatClampNeg).toNatClampNeg) then (μ 27 (μ 24 ((x1 * (3 : Int32)) + x5).toNatClampNeg).toNatClampNeg) else 1))), (4, .int (x4 ||| ((1 : Int32) <<< ((((4 : Int32) * (μ 24 ((x1 * (3 : Int32)) + x5).toNatClampNeg)) + (x3 - x3 / (if 1 < (μ 27 (μ 24 ((x1 * (3 : Int32)) + x5).toNatClampNeg).toNatClampNeg) then (μ 27 (μ 24 ((x1 * (3 : Int32)) + x5).toNatClampNeg).toNatClampNeg) else 1) * (if 1 < (μ 27 (μ 24 ((x1 * (3 : Int32)) + x5).toNatClampNeg).toNatClampNeg) then (μ 27 (μ 24 ((x1 * (3 : Int32)) + x5).toNatClampNeg).toNatClampNeg) else 1))) &&& 31)))), (5, .int (x5 + ((-1) : Int32)))] []) : Wm G mX2_cellsOf E (bm G mX2_cellsOf E (pI Q)) μ 26 [(0, .ref (gb G + 22)), (1, .int x1), (3, .int x3), (4, .int x4), (5, .int x5)] [] := by
  refine L_iload C dX2_cellsOf_26 rfl ?_
  refine L_if_lt C (tgt := 82) dX2_cellsOf_28 rfl (fun p1 => ?_) (fun p1 => ?_)
  · refine L_iload C dX2_cellsOf_82 rfl ?_
    exact L_irI C dX2_cellsOf_84 rfl (rr1 p1)
  · refine L_iconst C (v := 1) dX2_cellsOf_31 rfl ?_
    refine L_aload_n C (i := 0) dX2_cellsOf_32 rfl rfl ?_
    refine L_getC C (c' := 23) dX2_cellsOf_33 sh_22 fl_X2_12 rfl rfl ?_
    refine L_iload_n C (i := 1) dX2_cellsOf_36 rfl rfl ?_
    refine L_iload C dX2_cellsOf_37 rfl ?_
    refine L_invV2i C dX2_cellsOf_39 sh_23 cal_X0_levelsAt lk_X2_69 ⟨Nat.le_of_ble_eq_true rfl, Nat.le_of_ble_eq_true rfl⟩ ⟨Nat.le_of_ble_eq_true rfl, Nat.le_of_ble_eq_true rfl⟩ (Nat.le_of_ble_eq_true rfl) (a_X0_levelsAt sh_23 (ss2 p1) (ss3 p1) (?_))
    · refine L_max C dX2_cellsOf_42 lk_X2_72 mmax_stat math_ini mmax_code (Nat.le_of_ble_eq_true rfl) (Nat.le_of_ble_eq_true rfl) (Nat.le_of_ble_eq_true rfl) ⟨Nat.le_of_ble_eq_true rfl, Nat.le_of_ble_eq_true rfl⟩ ?_
      refine L_istore C dX2_cellsOf_45 (Nat.le_of_ble_eq_true rfl) ?_
      refine L_iload C dX2_cellsOf_47 rfl ?_
      refine L_iconst C (v := 1) dX2_cellsOf_49 rfl ?_
      refine L_iconst C (v := 4) dX2_cellsOf_50 rfl ?_
      refine L_aload_n C (i := 0) dX2_cellsOf_51 rfl rfl ?_
      refine L_getC C (c' := 23) dX2_cellsOf_52 sh_22 fl_X2_12 rfl rfl ?_
      refine L_iload_n C (i := 1) dX2_cellsOf_55 rfl rfl ?_
      refine L_iload C dX2_cellsOf_56 rfl ?_
      refine L_invV2i C dX2_cellsOf_58 sh_23 cal_X0_columnAt lk_X2_75 ⟨Nat.le_of_ble_eq_true rfl, Nat.le_of_ble_eq_true rfl⟩ ⟨Nat.le_of_ble_eq_true rfl, Nat.le_of_ble_eq_true rfl⟩ (Nat.le_of_ble_eq_true rfl) (a_X0_columnAt sh_23 (ss2 p1) (?_))
      · refine L_imul C dX2_cellsOf_61 ?_
        refine L_iload_n C (i := 3) dX2_cellsOf_62 rfl rfl ?_
        refine L_iload C dX2_cellsOf_63 rfl ?_
        refine L_irem C dX2_cellsOf_65 (dd4 p1) ?_
        refine L_iadd C dX2_cellsOf_66 ?_
        refine L_ishl C dX2_cellsOf_67 ?_
        refine L_ior C dX2_cellsOf_68 ?_
        refine L_istore C dX2_cellsOf_69 (Nat.le_of_ble_eq_true rfl) ?_
        refine L_iload_n C (i := 3) dX2_cellsOf_71 rfl rfl ?_
        refine L_iload C dX2_cellsOf_72 rfl ?_
        refine L_idiv C dX2_cellsOf_74 (dd4 p1) ?_
        refine L_istore_n C (i := 3) dX2_cellsOf_75 rfl (Nat.le_of_ble_eq_true rfl) ?_
        refine L_iinc C (v := (-1)) dX2_cellsOf_76 rfl rfl (Nat.le_of_ble_eq_true rfl) ?_
        refine L_goto C (tgt := 26) dX2_cellsOf_79 rfl ?_
        refine L_sub [0, 1, 2, 3, 4] rfl ?_
        exact kk5 p1
set_option maxRecDepth 4000 in
theorem k_X4_lawfulNear_0 {G : mG} {E : mE} {Q : Int32 → mM → Prop} {μ : mM} (C : Cx G mX4_lawfulNear E) {c0 : Nat} (h0 : sh c0 = (0, 3)) {x1 : Int32} {x2 : Int32} (kk1 : Wm G mX4_lawfulNear E (bm G mX4_lawfulNear E (pI Q)) μ 14 [(0, .ref (gb G + c0)), (2, .int x2), (3, .int ((x1 &&& ((((((x2 ||| (iush x2 1)) ||| (iush x2 2)) ||| (iush x2 3)) &&& (286331153 : Int32)) * (15 : Int32)) ^^^ ((-1) : Int32))) ||| x2)), (4, .int 0)] []) : Wm G mX4_lawfulNear E (bm G mX4_lawfulNear E (pI Q)) μ 0 [(0, .ref (gb G + c0)), (1, .int x1), (2, .int x2)] [] := by
  refine L_iload_n C (i := 1) dX4_lawfulNear_0 rfl rfl ?_
  refine L_iload_n C (i := 2) dX4_lawfulNear_1 rfl rfl ?_
  refine L_invSN1i C dX4_lawfulNear_2 cal_X11_columnsOf stc_X11_columnsOf nk_X4_34 ⟨Nat.le_of_ble_eq_true rfl, Nat.le_of_ble_eq_true rfl⟩ ⟨Nat.le_of_ble_eq_true rfl, Nat.le_of_ble_eq_true rfl⟩ (Nat.le_of_ble_eq_true rfl) (a_X11_columnsOf (?_))
  · refine L_iconst C (v := (-1)) dX4_lawfulNear_5 rfl ?_
    refine L_ixor C dX4_lawfulNear_6 ?_
    refine L_iand C dX4_lawfulNear_7 ?_
    refine L_iload_n C (i := 2) dX4_lawfulNear_8 rfl rfl ?_
    refine L_ior C dX4_lawfulNear_9 ?_
    refine L_istore_n C (i := 3) dX4_lawfulNear_10 rfl (Nat.le_of_ble_eq_true rfl) ?_
    refine L_iconst C (v := 0) dX4_lawfulNear_11 rfl ?_
    refine L_istore C dX4_lawfulNear_12 (Nat.le_of_ble_eq_true rfl) ?_
    refine L_sub [0, 2, 3, 4] rfl ?_
    exact kk1
theorem e_X4_lawfulNear {G : mG} {Q : Int32 → mM → Prop} {μ : mM} {c0 : Nat} (h0 : sh c0 = (0, 3)) {x1 : Int32} {x2 : Int32} (k : ∀ E, Cx G mX4_lawfulNear E → Wm G mX4_lawfulNear E (bm G mX4_lawfulNear E (pI Q)) μ 0 [(0, .ref (gb G + c0)), (1, .int x1), (2, .int x2)] []) : CtI G mX4_lawfulNear [.ref (gb G + c0), .int x1, .int x2] μ Q := CtI.of pn_X4 (Nat.le_of_ble_eq_true rfl) k
set_option maxRecDepth 4000 in
theorem k_X4_lawfulNear_14 {G : mG} {E : mE} {Q : Int32 → mM → Prop} {μ : mM} (C : Cx G mX4_lawfulNear E) {c0 : Nat} (h0 : sh c0 = (0, 3)) {x2 : Int32} {x3 : Int32} {x4 : Int32} (rr1 : (μ c0 2) ≤ x4 → Q x3 μ) (ss2 : ¬ (μ c0 2) ≤ x4 → vp_in x4 12) (kk3 : ¬ (μ c0 2) ≤ x4 → ¬ ((μ (c0 + 2) x4.toNatClampNeg) &&& (x3 ^^^ ((-1) : Int32))) = 0 → Wm G mX4_lawfulNear E (bm G mX4_lawfulNear E (pI Q)) μ 14 [(0, .ref (gb G + c0)), (2, .int x2), (3, .int x3), (4, .int (x4 + (1 : Int32)))] []) (cc4 : ¬ (μ c0 2) ≤ x4 → ((μ (c0 + 2) x4.toNatClampNeg) &&& (x3 ^^^ ((-1) : Int32))) = 0 → CtI G (mX4_lawfulRow 63) [.ref (gb G + c0), .int (((μ c0 3) &&& ((((((x2 ||| (iush x2 1)) ||| (iush x2 2)) ||| (iush x2 3)) &&& (286331153 : Int32)) * (15 : Int32)) ^^^ ((-1) : Int32))) ||| x2), .int 0] μ (fun r μ' => Wm G mX4_lawfulNear E (bm G mX4_lawfulNear E (pI Q)) μ' 47 [] [.int r])) : Wm G mX4_lawfulNear E (bm G mX4_lawfulNear E (pI Q)) μ 14 [(0, .ref (gb G + c0)), (2, .int x2), (3, .int x3), (4, .int x4)] [] := by
  refine L_iload C dX4_lawfulNear_14 rfl ?_
  refine L_aload_n C (i := 0) dX4_lawfulNear_16 rfl rfl ?_
  refine L_getI C dX4_lawfulNear_17 h0 fl_X4_28 rfl ?_
  refine L_icmp_ge C (tgt := 54) dX4_lawfulNear_20 rfl (fun p1 => ?_) (fun p1 => ?_)
  · refine L_iload_n C (i := 3) dX4_lawfulNear_54 rfl rfl ?_
    exact L_irI C dX4_lawfulNear_55 rfl (rr1 p1)
  · refine L_aload_n C (i := 0) dX4_lawfulNear_23 rfl rfl ?_
    refine L_getC C (c' := (c0 + 2)) dX4_lawfulNear_24 h0 fl_X4_15 rfl rfl ?_
    refine L_iload C dX4_lawfulNear_27 rfl ?_
    refine L_iald C dX4_lawfulNear_29 (shd_3_2 h0) (ss2 p1) ?_
    refine L_iload_n C (i := 3) dX4_lawfulNear_30 rfl rfl ?_
    refine L_iconst C (v := (-1)) dX4_lawfulNear_31 rfl ?_
    refine L_ixor C dX4_lawfulNear_32 ?_
    refine L_iand C dX4_lawfulNear_33 ?_
    refine L_if_ne C (tgt := 48) dX4_lawfulNear_34 rfl (fun p2 => ?_) (fun p2 => ?_)
    · refine L_iinc C (v := 1) dX4_lawfulNear_48 rfl rfl (Nat.le_of_ble_eq_true rfl) ?_
      refine L_goto C (tgt := 14) dX4_lawfulNear_51 rfl ?_
      exact kk3 p1 p2
    · refine L_aload_n C (i := 0) dX4_lawfulNear_37 rfl rfl ?_
      refine L_aload_n C (i := 0) dX4_lawfulNear_38 rfl rfl ?_
      refine L_iload_n C (i := 2) dX4_lawfulNear_39 rfl rfl ?_
      refine L_invV1i C dX4_lawfulNear_40 h0 cal_X4_leftTo lk_X4_65 ⟨Nat.le_of_ble_eq_true rfl, Nat.le_of_ble_eq_true rfl⟩ ⟨Nat.le_of_ble_eq_true rfl, Nat.le_of_ble_eq_true rfl⟩ (Nat.le_of_ble_eq_true rfl) (a_X4_leftTo h0 (?_))
      · refine L_iconst C (v := 0) dX4_lawfulNear_43 rfl ?_
        refine L_sub [] rfl ?_
        refine L_invS3i C dX4_lawfulNear_44 (cal_X4_lawfulRow 63) stc_X4_lawfulRow lk_X4_68 ⟨Nat.le_of_ble_eq_true rfl, Nat.le_of_ble_eq_true rfl⟩ ⟨Nat.le_of_ble_eq_true rfl, Nat.le_of_ble_eq_true rfl⟩ (Nat.le_of_ble_eq_true rfl) ?_
        exact cc4 p1 p2
set_option maxRecDepth 4000 in
theorem k_X4_lawfulNear_47 {G : mG} {E : mE} {Q : Int32 → mM → Prop} {μ : mM} (C : Cx G mX4_lawfulNear E) {sx0 : Int32} (rr1 : Q sx0 μ) : Wm G mX4_lawfulNear E (bm G mX4_lawfulNear E (pI Q)) μ 47 [] [.int sx0] := by
  exact L_irI C dX4_lawfulNear_47 rfl (rr1)
set_option maxRecDepth 4000 in
theorem k_X2_build_0 {G : mG} {E : mE} {Q : mM → Prop} {μ : mM} (C : Cx G mX2_build E) {c1 : Nat} (h1 : sh c1 = (0, 3)) (cc1 : CtV G mX0_build [.ref (gb G + 23), .ref (gb G + c1), .int (μ c1 1)] μ (fun μ' => Wm G mX2_build E (bm G mX2_build E (pV Q)) μ' 12 [(0, .ref (gb G + 22)), (1, .ref (gb G + c1))] [])) : Wm G mX2_build E (bm G mX2_build E (pV Q)) μ 0 [(0, .ref (gb G + 22)), (1, .ref (gb G + c1))] [] := by
  refine L_aload_n C (i := 0) dX2_build_0 rfl rfl ?_
  refine L_getC C (c' := 23) dX2_build_1 sh_22 fl_X2_12 rfl rfl ?_
  refine L_aload_n C (i := 1) dX2_build_4 rfl rfl ?_
  refine L_aload_n C (i := 1) dX2_build_5 rfl rfl ?_
  refine L_getI C dX2_build_6 h1 fl_X2_41 rfl ?_
  refine L_invV2v C dX2_build_9 sh_23 cal_X0_build lk_X2_46 ⟨Nat.le_of_ble_eq_true rfl, Nat.le_of_ble_eq_true rfl⟩ ⟨Nat.le_of_ble_eq_true rfl, Nat.le_of_ble_eq_true rfl⟩ (Nat.le_of_ble_eq_true rfl) ?_
  exact cc1
theorem e_X2_build {G : mG} {Q : mM → Prop} {μ : mM} {c1 : Nat} (h1 : sh c1 = (0, 3)) (k : ∀ E, Cx G mX2_build E → Wm G mX2_build E (bm G mX2_build E (pV Q)) μ 0 [(0, .ref (gb G + 22)), (1, .ref (gb G + c1))] []) : CtV G mX2_build [.ref (gb G + 22), .ref (gb G + c1)] μ Q := CtV.of pn_X2 (Nat.le_of_ble_eq_true rfl) k
set_option maxRecDepth 4000 in
theorem k_X2_build_12 {G : mG} {E : mE} {Q : mM → Prop} {μ : mM} (C : Cx G mX2_build E) {c1 : Nat} (h1 : sh c1 = (0, 3)) (cc1 : CtI G (mX4_lawfulRow 63) [.ref (gb G + c1), .int (μ c1 3), .int 0] μ (fun r μ' => Wm G mX2_build E (bm G mX2_build E (pV Q)) μ' 21 [(0, .ref (gb G + 22)), (1, .ref (gb G + c1))] [.int r])) : Wm G mX2_build E (bm G mX2_build E (pV Q)) μ 12 [(0, .ref (gb G + 22)), (1, .ref (gb G + c1))] [] := by
  refine L_aload_n C (i := 1) dX2_build_12 rfl rfl ?_
  refine L_aload_n C (i := 1) dX2_build_13 rfl rfl ?_
  refine L_getI C dX2_build_14 h1 fl_X2_50 rfl ?_
  refine L_iconst C (v := 0) dX2_build_17 rfl ?_
  refine L_invSN3i C dX2_build_18 (cal_X4_lawfulRow 63) stc_X4_lawfulRow nk_X2_53 ⟨Nat.le_of_ble_eq_true rfl, Nat.le_of_ble_eq_true rfl⟩ ⟨Nat.le_of_ble_eq_true rfl, Nat.le_of_ble_eq_true rfl⟩ (Nat.le_of_ble_eq_true rfl) ?_
  exact cc1
set_option maxRecDepth 4000 in
theorem k_X2_build_21 {G : mG} {E : mE} {B : mB} {μ : mM} (C : Cx G mX2_build E) {c1 : Nat} (h1 : sh c1 = (0, 3)) {sx0 : Int32} (kk1 : Wm G mX2_build E B (ms μ 22 4 0) 29 [(0, .ref (gb G + 22)), (1, .ref (gb G + c1)), (2, .int sx0), (3, .int 0)] []) : Wm G mX2_build E B μ 21 [(0, .ref (gb G + 22)), (1, .ref (gb G + c1))] [.int sx0] := by
  refine L_istore_n C (i := 2) dX2_build_21 rfl (Nat.le_of_ble_eq_true rfl) ?_
  refine L_aload_n C (i := 0) dX2_build_22 rfl rfl ?_
  refine L_iconst C (v := 0) dX2_build_23 rfl ?_
  refine L_putI C dX2_build_24 sh_22 fl_X2_57 rfl rfl rfl ?_
  refine L_iconst C (v := 0) dX2_build_27 rfl ?_
  refine L_istore_n C (i := 3) dX2_build_28 rfl (Nat.le_of_ble_eq_true rfl) ?_
  exact kk1
set_option maxRecDepth 4000 in
theorem k_X2_build_29 {G : mG} {E : mE} {Q : mM → Prop} {μ : mM} (C : Cx G mX2_build E) {c1 : Nat} (h1 : sh c1 = (0, 3)) {x2 : Int32} {x3 : Int32} (rr1 : (μ 23 0) ≤ x3 → Q μ) (ss2 : ¬ (μ 23 0) ≤ x3 → vp_in x3 57) (kk3 : ¬ (μ 23 0) ≤ x3 → Wm G mX2_build E (bm G mX2_build E (pV Q)) μ 51 [(0, .ref (gb G + 22)), (1, .ref (gb G + c1)), (2, .int x2), (3, .int x3), (4, .int (μ 25 x3.toNatClampNeg))] []) : Wm G mX2_build E (bm G mX2_build E (pV Q)) μ 29 [(0, .ref (gb G + 22)), (1, .ref (gb G + c1)), (2, .int x2), (3, .int x3)] [] := by
  refine L_iload_n C (i := 3) dX2_build_29 rfl rfl ?_
  refine L_aload_n C (i := 0) dX2_build_30 rfl rfl ?_
  refine L_getC C (c' := 23) dX2_build_31 sh_22 fl_X2_12 rfl rfl ?_
  refine L_getI C dX2_build_34 sh_23 fl_X2_31 rfl ?_
  refine L_icmp_ge C (tgt := 144) dX2_build_37 rfl (fun p1 => ?_) (fun p1 => ?_)
  · exact L_irV C dX2_build_144 rfl (rr1 p1)
  · refine L_aload_n C (i := 0) dX2_build_40 rfl rfl ?_
    refine L_getC C (c' := 23) dX2_build_41 sh_22 fl_X2_12 rfl rfl ?_
    refine L_getC C (c' := 25) dX2_build_44 sh_23 fl_X2_28 rfl rfl ?_
    refine L_iload_n C (i := 3) dX2_build_47 rfl rfl ?_
    refine L_iald C dX2_build_48 sh_25 (ss2 p1) ?_
    refine L_istore C dX2_build_49 (Nat.le_of_ble_eq_true rfl) ?_
    exact kk3 p1
set_option maxRecDepth 4000 in
theorem k_X2_build_51 {G : mG} {E : mE} {Q : mM → Prop} {μ : mM} (C : Cx G mX2_build E) {c1 : Nat} (h1 : sh c1 = (0, 3)) {x2 : Int32} {x3 : Int32} {x4 : Int32} (ss1 : vp_in (x3 + (1 : Int32)) 57) (kk2 : ((μ 25 (x3 + (1 : Int32)).toNatClampNeg) ≤ x4 ∨ (¬ (μ 25 (x3 + (1 : Int32)).toNatClampNeg) ≤ x4 ∧ 1200 ≤ x4)) → Wm G mX2_build E (bm G mX2_build E (pV Q)) μ 29 [(0, .ref (gb G + 22)), (1, .ref (gb G + c1)), (2, .int x2), (3, .int (x3 + (1 : Int32)))] []) (cc3 : ¬ (μ 25 (x3 + (1 : Int32)).toNatClampNeg) ≤ x4 → ¬ 1200 ≤ x4 → CtI G mX2_cellsOf [.ref (gb G + 22), .int x3, .int x4] μ (fun r μ' => Wm G mX2_build E (bm G mX2_build E (pV Q)) μ' 88 [(0, .ref (gb G + 22)), (1, .ref (gb G + c1)), (2, .int x2), (3, .int x3), (4, .int x4)] [.int r, .int x4, .ref (gb G + 28)])) : Wm G mX2_build E (bm G mX2_build E (pV Q)) μ 51 [(0, .ref (gb G + 22)), (1, .ref (gb G + c1)), (2, .int x2), (3, .int x3), (4, .int x4)] [] := by
  refine L_iload C dX2_build_51 rfl ?_
  refine L_aload_n C (i := 0) dX2_build_53 rfl rfl ?_
  refine L_getC C (c' := 23) dX2_build_54 sh_22 fl_X2_12 rfl rfl ?_
  refine L_getC C (c' := 25) dX2_build_57 sh_23 fl_X2_28 rfl rfl ?_
  refine L_iload_n C (i := 3) dX2_build_60 rfl rfl ?_
  refine L_iconst C (v := 1) dX2_build_61 rfl ?_
  refine L_iadd C dX2_build_62 ?_
  refine L_iald C dX2_build_63 sh_25 (ss1) ?_
  refine L_icmp_ge C (tgt := 138) dX2_build_64 rfl (fun p1 => ?_) (fun p1 => ?_)
  · refine L_iinc C (v := 1) dX2_build_138 rfl rfl (Nat.le_of_ble_eq_true rfl) ?_
    refine L_goto C (tgt := 29) dX2_build_141 rfl ?_
    refine L_sub [0, 1, 2, 3] rfl ?_
    exact kk2 (Or.inl p1)
  · refine L_iload C dX2_build_67 rfl ?_
    refine L_sipush C (v := 1200) dX2_build_69 rfl ?_
    refine L_icmp_ge C (tgt := 138) dX2_build_72 rfl (fun p2 => ?_) (fun p2 => ?_)
    · refine L_iinc C (v := 1) dX2_build_138 rfl rfl (Nat.le_of_ble_eq_true rfl) ?_
      refine L_goto C (tgt := 29) dX2_build_141 rfl ?_
      refine L_sub [0, 1, 2, 3] rfl ?_
      exact kk2 (Or.inr ⟨p1, p2⟩)
    · refine L_aload_n C (i := 0) dX2_build_75 rfl rfl ?_
      refine L_getC C (c' := 28) dX2_build_76 sh_22 fl_X2_18 rfl rfl ?_
      refine L_iload C dX2_build_79 rfl ?_
      refine L_aload_n C (i := 0) dX2_build_81 rfl rfl ?_
      refine L_iload_n C (i := 3) dX2_build_82 rfl rfl ?_
      refine L_iload C dX2_build_83 rfl ?_
      refine L_invV2i C dX2_build_85 sh_22 cal_X2_cellsOf lk_X2_60 ⟨Nat.le_of_ble_eq_true rfl, Nat.le_of_ble_eq_true rfl⟩ ⟨Nat.le_of_ble_eq_true rfl, Nat.le_of_ble_eq_true rfl⟩ (Nat.le_of_ble_eq_true rfl) ?_
      exact cc3 p1 p2
set_option maxRecDepth 4000 in
theorem k_X2_build_88 {G : mG} {E : mE} {Q : mM → Prop} {μ : mM} (C : Cx G mX2_build E) {c1 : Nat} (h1 : sh c1 = (0, 3)) {x2 : Int32} {x3 : Int32} {x4 : Int32} {sx1 : Int32} {sx2 : Int32} (ss1 : vp_in sx1 1200) (ss2 : vp_in x4 1200) (cc3 : CtI G mX4_lawfulNear [.ref (gb G + c1), .int x2, .int ((ms μ 28 sx1.toNatClampNeg sx2) 28 x4.toNatClampNeg)] (ms μ 28 sx1.toNatClampNeg sx2) (fun r μ' => Wm G mX2_build E (bm G mX2_build E (pV Q)) μ' 107 [(0, .ref (gb G + 22)), (1, .ref (gb G + c1)), (2, .int x2), (3, .int x3), (4, .int x4)] [.int r, .int x4, .ref (gb G + 29)])) : Wm G mX2_build E (bm G mX2_build E (pV Q)) μ 88 [(0, .ref (gb G + 22)), (1, .ref (gb G + c1)), (2, .int x2), (3, .int x3), (4, .int x4)] [.int sx2, .int sx1, .ref (gb G + 28)] := by
  refine L_iast C dX2_build_88 sh_28 (ss1) ?_
  refine L_aload_n C (i := 0) dX2_build_89 rfl rfl ?_
  refine L_getC C (c' := 29) dX2_build_90 sh_22 fl_X2_22 rfl rfl ?_
  refine L_iload C dX2_build_93 rfl ?_
  refine L_aload_n C (i := 1) dX2_build_95 rfl rfl ?_
  refine L_iload_n C (i := 2) dX2_build_96 rfl rfl ?_
  refine L_aload_n C (i := 0) dX2_build_97 rfl rfl ?_
  refine L_getC C (c' := 28) dX2_build_98 sh_22 fl_X2_18 rfl rfl ?_
  refine L_iload C dX2_build_101 rfl ?_
  refine L_iald C dX2_build_103 sh_28 (ss2) ?_
  refine L_invV2i C dX2_build_104 h1 cal_X4_lawfulNear lk_X2_63 ⟨Nat.le_of_ble_eq_true rfl, Nat.le_of_ble_eq_true rfl⟩ ⟨Nat.le_of_ble_eq_true rfl, Nat.le_of_ble_eq_true rfl⟩ (Nat.le_of_ble_eq_true rfl) ?_
  exact cc3
set_option maxRecDepth 4000 in
theorem k_X2_build_107 {G : mG} {E : mE} {B : mB} {μ : mM} (C : Cx G mX2_build E) {c1 : Nat} (h1 : sh c1 = (0, 3)) {x2 : Int32} {x3 : Int32} {x4 : Int32} {sx1 : Int32} {sx2 : Int32} (ss1 : vp_in sx1 1200) (ss2 : vp_in x4 1200) (kk3 : ∀ v1 : Int32, ((((ms μ 29 sx1.toNatClampNeg sx2) 29 x4.toNatClampNeg) = 0 ∧ v1 = 0) ∨ (¬ ((ms μ 29 sx1.toNatClampNeg sx2) 29 x4.toNatClampNeg) = 0 ∧ v1 = 1)) → Wm G mX2_build E B (ms (ms μ 29 sx1.toNatClampNeg sx2) 22 4 ((μ 22 4) + v1)) 51 [(0, .ref (gb G + 22)), (1, .ref (gb G + c1)), (2, .int x2), (3, .int x3), (4, .int (x4 + (1 : Int32)))] []) : Wm G mX2_build E B μ 107 [(0, .ref (gb G + 22)), (1, .ref (gb G + c1)), (2, .int x2), (3, .int x3), (4, .int x4)] [.int sx2, .int sx1, .ref (gb G + 29)] := by
  refine L_iast C dX2_build_107 sh_29 (ss1) ?_
  refine L_aload_n C (i := 0) dX2_build_108 rfl rfl ?_
  refine L_dup C dX2_build_109 rfl ?_
  refine L_getI C dX2_build_110 sh_22 fl_X2_57 rfl ?_
  refine L_aload_n C (i := 0) dX2_build_113 rfl rfl ?_
  refine L_getC C (c' := 29) dX2_build_114 sh_22 fl_X2_22 rfl rfl ?_
  refine L_iload C dX2_build_117 rfl ?_
  refine L_iald C dX2_build_119 sh_29 (ss2) ?_
  refine phi (fun v1 : Int32 => Wm G mX2_build E B (ms μ 29 sx1.toNatClampNeg sx2) 128 [(0, .ref (gb G + 22)), (1, .ref (gb G + c1)), (2, .int x2), (3, .int x3), (4, .int x4)] [.int v1, .int (μ 22 4), .ref (gb G + 22)]) (fun v1 : Int32 => (((ms μ 29 sx1.toNatClampNeg sx2) 29 x4.toNatClampNeg) = 0 ∧ v1 = 0) ∨ (¬ ((ms μ 29 sx1.toNatClampNeg sx2) 29 x4.toNatClampNeg) = 0 ∧ v1 = 1)) (fun H => ?_) (fun v1 hv1 => ?_)
  · refine L_if_eq C (tgt := 127) dX2_build_120 rfl (fun p1 => ?_) (fun p1 => ?_)
    · refine L_iconst C (v := 0) dX2_build_127 rfl ?_
      exact H _ (Or.inl ⟨p1, rfl⟩)
    · refine L_iconst C (v := 1) dX2_build_123 rfl ?_
      refine L_goto C (tgt := 128) dX2_build_124 rfl ?_
      exact H _ (Or.inr ⟨p1, rfl⟩)
  refine L_iadd C dX2_build_128 ?_
  refine L_putI C dX2_build_129 sh_22 fl_X2_57 rfl rfl rfl ?_
  refine L_iinc C (v := 1) dX2_build_132 rfl rfl (Nat.le_of_ble_eq_true rfl) ?_
  refine L_goto C (tgt := 51) dX2_build_135 rfl ?_
  exact kk3 v1 hv1
set_option maxRecDepth 4000 in
theorem k_X2_size_0 {G : mG} {E : mE} {Q : Int32 → mM → Prop} {μ : mM} (C : Cx G mX2_size E)  (ss1 : vp_in (μ 23 0) 57) (rr2 : Q (if 1200 < (μ 25 (μ 23 0).toNatClampNeg) then 1200 else (μ 25 (μ 23 0).toNatClampNeg)) μ) : Wm G mX2_size E (bm G mX2_size E (pI Q)) μ 0 [(0, .ref (gb G + 22))] [] := by
  refine L_aload_n C (i := 0) dX2_size_0 rfl rfl ?_
  refine L_getC C (c' := 23) dX2_size_1 sh_22 fl_X2_12 rfl rfl ?_
  refine L_getC C (c' := 25) dX2_size_4 sh_23 fl_X2_28 rfl rfl ?_
  refine L_aload_n C (i := 0) dX2_size_7 rfl rfl ?_
  refine L_getC C (c' := 23) dX2_size_8 sh_22 fl_X2_12 rfl rfl ?_
  refine L_getI C dX2_size_11 sh_23 fl_X2_31 rfl ?_
  refine L_iald C dX2_size_14 sh_25 (ss1) ?_
  refine L_sipush C (v := 1200) dX2_size_15 rfl ?_
  refine L_min C dX2_size_18 lk_X2_35 mmin_stat math_ini mmin_code (Nat.le_of_ble_eq_true rfl) (Nat.le_of_ble_eq_true rfl) (Nat.le_of_ble_eq_true rfl) ⟨Nat.le_of_ble_eq_true rfl, Nat.le_of_ble_eq_true rfl⟩ ?_
  exact L_irI C dX2_size_21 rfl (rr2)
theorem a_X2_size {G : mG} {Q : Int32 → mM → Prop} {μ : mM}  (ss1 : vp_in (μ 23 0) 57) (rr2 : Q (if 1200 < (μ 25 (μ 23 0).toNatClampNeg) then 1200 else (μ 25 (μ 23 0).toNatClampNeg)) μ) : CtI G mX2_size [.ref (gb G + 22)] μ Q :=
  CtI.of pn_X2 (Nat.le_of_ble_eq_true rfl) (fun E C => k_X2_size_0 C ss1 rr2)
set_option maxRecDepth 4000 in
theorem k_X0_numberIn_0 {G : mG} {E : mE} {B : mB} {μ : mM} (C : Cx G mX0_numberIn E) {c0 : Nat} (h0 : sh c0 = (0, 0)) {x1 : Int32} {x2 : Int32} (kk1 : Wm G mX0_numberIn E B μ 5 [(0, .ref (gb G + c0)), (1, .int x1), (2, .int x2), (3, .int 0), (4, .int 0)] []) : Wm G mX0_numberIn E B μ 0 [(0, .ref (gb G + c0)), (1, .int x1), (2, .int x2)] [] := by
  refine L_iconst C (v := 0) dX0_numberIn_0 rfl ?_
  refine L_istore_n C (i := 3) dX0_numberIn_1 rfl (Nat.le_of_ble_eq_true rfl) ?_
  refine L_iconst C (v := 0) dX0_numberIn_2 rfl ?_
  refine L_istore C dX0_numberIn_3 (Nat.le_of_ble_eq_true rfl) ?_
  exact kk1
theorem e_X0_numberIn {G : mG} {Q : Int32 → mM → Prop} {μ : mM} {c0 : Nat} (h0 : sh c0 = (0, 0)) {x1 : Int32} {x2 : Int32} (k : ∀ E, Cx G mX0_numberIn E → Wm G mX0_numberIn E (bm G mX0_numberIn E (pI Q)) μ 0 [(0, .ref (gb G + c0)), (1, .int x1), (2, .int x2)] []) : CtI G mX0_numberIn [.ref (gb G + c0), .int x1, .int x2] μ Q := CtI.of pn_X0 (Nat.le_of_ble_eq_true rfl) k
set_option maxRecDepth 4000 in
theorem k_X0_numberIn_5 {G : mG} {E : mE} {Q : Int32 → mM → Prop} {μ : mM} (C : Cx G mX0_numberIn E) {c0 : Nat} (h0 : sh c0 = (0, 0)) {x1 : Int32} {x2 : Int32} {x3 : Int32} {x4 : Int32} (ss1 : (μ c0 1) ≤ x4 → vp_in x1 57) (rr2 : (μ c0 1) ≤ x4 → Q ((μ (c0 + 2) x1.toNatClampNeg) + x3) μ) (ss3 : ¬ (μ c0 1) ≤ x4 → vp_in ((x1 * (3 : Int32)) + x4) 168) (ss4 : ¬ (μ c0 1) ≤ x4 → ¬ ((iush x2 ((4 : Int32) * (μ (c0 + 1) ((x1 * (3 : Int32)) + x4).toNatClampNeg))) &&& (15 : Int32)) = 0 → ¬ ((((iush x2 ((4 : Int32) * (μ (c0 + 1) ((x1 * (3 : Int32)) + x4).toNatClampNeg))) &&& (15 : Int32)) >>> ((1 : Int32) &&& 31)) - (((iush x2 ((4 : Int32) * (μ (c0 + 1) ((x1 * (3 : Int32)) + x4).toNatClampNeg))) &&& (15 : Int32)) >>> ((3 : Int32) &&& 31))) = (-1) → vp_in (μ (c0 + 1) ((x1 * (3 : Int32)) + x4).toNatClampNeg) 8) (kk5 : ¬ (μ c0 1) ≤ x4 → ¬ ((iush x2 ((4 : Int32) * (μ (c0 + 1) ((x1 * (3 : Int32)) + x4).toNatClampNeg))) &&& (15 : Int32)) = 0 → ¬ ((((iush x2 ((4 : Int32) * (μ (c0 + 1) ((x1 * (3 : Int32)) + x4).toNatClampNeg))) &&& (15 : Int32)) >>> ((1 : Int32) &&& 31)) - (((iush x2 ((4 : Int32) * (μ (c0 + 1) ((x1 * (3 : Int32)) + x4).toNatClampNeg))) &&& (15 : Int32)) >>> ((3 : Int32) &&& 31))) = (-1) → Wm G mX0_numberIn E (bm G mX0_numberIn E (pI Q)) μ 5 [(0, .ref (gb G + c0)), (1, .int x1), (2, .int x2), (3, .int ((x3 * (μ (c0 + 4) (μ (c0 + 1) ((x1 * (3 : Int32)) + x4).toNatClampNeg).toNatClampNeg)) + ((((iush x2 ((4 : Int32) * (μ (c0 + 1) ((x1 * (3 : Int32)) + x4).toNatClampNeg))) &&& (15 : Int32)) >>> ((1 : Int32) &&& 31)) - (((iush x2 ((4 : Int32) * (μ (c0 + 1) ((x1 * (3 : Int32)) + x4).toNatClampNeg))) &&& (15 : Int32)) >>> ((3 : Int32) &&& 31))))), (4, .int (x4 + (1 : Int32)))] []) (rr6 : ¬ (μ c0 1) ≤ x4 → ((¬ ((iush x2 ((4 : Int32) * (μ (c0 + 1) ((x1 * (3 : Int32)) + x4).toNatClampNeg))) &&& (15 : Int32)) = 0 ∧ ((((iush x2 ((4 : Int32) * (μ (c0 + 1) ((x1 * (3 : Int32)) + x4).toNatClampNeg))) &&& (15 : Int32)) >>> ((1 : Int32) &&& 31)) - (((iush x2 ((4 : Int32) * (μ (c0 + 1) ((x1 * (3 : Int32)) + x4).toNatClampNeg))) &&& (15 : Int32)) >>> ((3 : Int32) &&& 31))) = (-1)) ∨ ((iush x2 ((4 : Int32) * (μ (c0 + 1) ((x1 * (3 : Int32)) + x4).toNatClampNeg))) &&& (15 : Int32)) = 0) → Q (-1) μ) : Wm G mX0_numberIn E (bm G mX0_numberIn E (pI Q)) μ 5 [(0, .ref (gb G + c0)), (1, .int x1), (2, .int x2), (3, .int x3), (4, .int x4)] [] := by
  refine L_iload C dX0_numberIn_5 rfl ?_
  refine L_aload_n C (i := 0) dX0_numberIn_7 rfl rfl ?_
  refine L_getI C dX0_numberIn_8 h0 fl_X0_30 rfl ?_
  refine L_icmp_ge C (tgt := 62) dX0_numberIn_11 rfl (fun p1 => ?_) (fun p1 => ?_)
  · refine L_aload_n C (i := 0) dX0_numberIn_62 rfl rfl ?_
    refine L_getC C (c' := (c0 + 2)) dX0_numberIn_63 h0 fl_X0_15 rfl rfl ?_
    refine L_iload_n C (i := 1) dX0_numberIn_66 rfl rfl ?_
    refine L_iald C dX0_numberIn_67 (shd_0_2 h0) (ss1 p1) ?_
    refine L_iload_n C (i := 3) dX0_numberIn_68 rfl rfl ?_
    refine L_iadd C dX0_numberIn_69 ?_
    exact L_irI C dX0_numberIn_70 rfl (rr2 p1)
  · refine L_aload_n C (i := 0) dX0_numberIn_14 rfl rfl ?_
    refine L_getC C (c' := (c0 + 1)) dX0_numberIn_15 h0 fl_X0_9 rfl rfl ?_
    refine L_iload_n C (i := 1) dX0_numberIn_18 rfl rfl ?_
    refine L_iconst C (v := 3) dX0_numberIn_19 rfl ?_
    refine L_imul C dX0_numberIn_20 ?_
    refine L_iload C dX0_numberIn_21 rfl ?_
    refine L_iadd C dX0_numberIn_23 ?_
    refine L_iald C dX0_numberIn_24 (shd_0_1 h0) (ss3 p1) ?_
    refine L_istore C dX0_numberIn_25 (Nat.le_of_ble_eq_true rfl) ?_
    refine L_iload_n C (i := 2) dX0_numberIn_27 rfl rfl ?_
    refine L_iload C dX0_numberIn_28 rfl ?_
    refine L_invSN2i C dX0_numberIn_30 cal_X11_levelIn stc_X11_levelIn nk_X0_55 ⟨Nat.le_of_ble_eq_true rfl, Nat.le_of_ble_eq_true rfl⟩ ⟨Nat.le_of_ble_eq_true rfl, Nat.le_of_ble_eq_true rfl⟩ (Nat.le_of_ble_eq_true rfl) (a_X11_levelIn (fun p2 => ?_) (fun p3 => ?_))
    · refine L_istore C dX0_numberIn_33 (Nat.le_of_ble_eq_true rfl) ?_
      refine L_iload C dX0_numberIn_35 rfl ?_
      refine L_iconst C (v := (-1)) dX0_numberIn_37 rfl ?_
      refine L_icmp_ne C (tgt := 43) dX0_numberIn_38 rfl (fun p4 => ?_) (fun p4 => ?_)
      · refine L_iload_n C (i := 3) dX0_numberIn_43 rfl rfl ?_
        refine L_aload_n C (i := 0) dX0_numberIn_44 rfl rfl ?_
        refine L_getC C (c' := (c0 + 4)) dX0_numberIn_45 h0 fl_X0_21 rfl rfl ?_
        refine L_iload C dX0_numberIn_48 rfl ?_
        refine L_iald C dX0_numberIn_50 (shd_0_4 h0) (ss4 p1 p2 p4) ?_
        refine L_imul C dX0_numberIn_51 ?_
        refine L_iload C dX0_numberIn_52 rfl ?_
        refine L_iadd C dX0_numberIn_54 ?_
        refine L_istore_n C (i := 3) dX0_numberIn_55 rfl (Nat.le_of_ble_eq_true rfl) ?_
        refine L_iinc C (v := 1) dX0_numberIn_56 rfl rfl (Nat.le_of_ble_eq_true rfl) ?_
        refine L_goto C (tgt := 5) dX0_numberIn_59 rfl ?_
        refine L_sub [0, 1, 2, 3, 4] rfl ?_
        exact kk5 p1 p2 p4
      · refine L_iconst C (v := (-1)) dX0_numberIn_41 rfl ?_
        exact L_irI C dX0_numberIn_42 rfl (rr6 p1 (Or.inl ⟨p2, p4⟩))
    · refine L_istore C dX0_numberIn_33 (Nat.le_of_ble_eq_true rfl) ?_
      refine L_iload C dX0_numberIn_35 rfl ?_
      refine L_iconst C (v := (-1)) dX0_numberIn_37 rfl ?_
      refine L_icmp_ne C (tgt := 43) dX0_numberIn_38 rfl (fun p5 => absurd p5 (by decide)) (fun p5 => ?_)
      refine L_iconst C (v := (-1)) dX0_numberIn_41 rfl ?_
      exact L_irI C dX0_numberIn_42 rfl (rr6 p1 (Or.inr p3))
set_option maxRecDepth 4000 in
theorem k_X2_change_0 {G : mG} {E : mE} {B : mB} {μ : mM} (C : Cx G mX2_change E) {x1 : Int32} {x2 : Int32} (kk1 : Wm G mX2_change E B μ 2 [(0, .ref (gb G + 22)), (1, .int x1), (2, .int x2), (3, .int 0)] []) : Wm G mX2_change E B μ 0 [(0, .ref (gb G + 22)), (1, .int x1), (2, .int x2)] [] := by
  refine L_iconst C (v := 0) dX2_change_0 rfl ?_
  refine L_istore_n C (i := 3) dX2_change_1 rfl (Nat.le_of_ble_eq_true rfl) ?_
  exact kk1
theorem e_X2_change {G : mG} {Q : mM → Prop} {μ : mM} {x1 : Int32} {x2 : Int32} (k : ∀ E, Cx G mX2_change E → Wm G mX2_change E (bm G mX2_change E (pV Q)) μ 0 [(0, .ref (gb G + 22)), (1, .int x1), (2, .int x2)] []) : CtV G mX2_change [.ref (gb G + 22), .int x1, .int x2] μ Q := CtV.of pn_X2 (Nat.le_of_ble_eq_true rfl) k
set_option maxRecDepth 4000 in
theorem k_X2_change_2 {G : mG} {E : mE} {Q : mM → Prop} {μ : mM} (C : Cx G mX2_change E) {x1 : Int32} {x2 : Int32} {x3 : Int32} (rr1 : (μ 23 0) ≤ x3 → Q μ) (cc2 : ¬ (μ 23 0) ≤ x3 → ¬ x1 = 0 → CtI G mX0_numberIn [.ref (gb G + 23), .int x3, .int x1] μ (fun r μ' => Wm G mX2_change E (bm G mX2_change E (pV Q)) μ' 30 [(0, .ref (gb G + 22)), (1, .int x1), (2, .int x2), (3, .int x3)] [.int r])) (kk3 : ¬ (μ 23 0) ≤ x3 → x1 = 0 → Wm G mX2_change E (bm G mX2_change E (pV Q)) μ 30 [(0, .ref (gb G + 22)), (1, .int x1), (2, .int x2), (3, .int x3)] [.int (-1)]) : Wm G mX2_change E (bm G mX2_change E (pV Q)) μ 2 [(0, .ref (gb G + 22)), (1, .int x1), (2, .int x2), (3, .int x3)] [] := by
  refine L_iload_n C (i := 3) dX2_change_2 rfl rfl ?_
  refine L_aload_n C (i := 0) dX2_change_3 rfl rfl ?_
  refine L_getC C (c' := 23) dX2_change_4 sh_22 fl_X2_12 rfl rfl ?_
  refine L_getI C dX2_change_7 sh_23 fl_X2_31 rfl ?_
  refine L_icmp_ge C (tgt := 91) dX2_change_10 rfl (fun p1 => ?_) (fun p1 => ?_)
  · exact L_irV C dX2_change_91 rfl (rr1 p1)
  · refine L_iload_n C (i := 1) dX2_change_13 rfl rfl ?_
    refine L_if_ne C (tgt := 21) dX2_change_14 rfl (fun p2 => ?_) (fun p2 => ?_)
    · refine L_aload_n C (i := 0) dX2_change_21 rfl rfl ?_
      refine L_getC C (c' := 23) dX2_change_22 sh_22 fl_X2_12 rfl rfl ?_
      refine L_iload_n C (i := 3) dX2_change_25 rfl rfl ?_
      refine L_iload_n C (i := 1) dX2_change_26 rfl rfl ?_
      refine L_invV2i C dX2_change_27 sh_23 cal_X0_numberIn lk_X2_101 ⟨Nat.le_of_ble_eq_true rfl, Nat.le_of_ble_eq_true rfl⟩ ⟨Nat.le_of_ble_eq_true rfl, Nat.le_of_ble_eq_true rfl⟩ (Nat.le_of_ble_eq_true rfl) ?_
      exact cc2 p1 p2
    · refine L_iconst C (v := (-1)) dX2_change_17 rfl ?_
      refine L_goto C (tgt := 30) dX2_change_18 rfl ?_
      exact kk3 p1 p2
set_option maxRecDepth 4000 in
theorem k_X2_change_30 {G : mG} {E : mE} {Q : mM → Prop} {μ : mM} (C : Cx G mX2_change E) {x1 : Int32} {x2 : Int32} {x3 : Int32} {sx0 : Int32} (cc1 : ¬ x2 = 0 → CtI G mX0_numberIn [.ref (gb G + 23), .int x3, .int x2] μ (fun r μ' => Wm G mX2_change E (bm G mX2_change E (pV Q)) μ' 49 [(0, .ref (gb G + 22)), (1, .int x1), (2, .int x2), (3, .int x3), (4, .int sx0)] [.int r])) (kk2 : x2 = 0 → Wm G mX2_change E (bm G mX2_change E (pV Q)) μ 49 [(0, .ref (gb G + 22)), (1, .int x1), (2, .int x2), (3, .int x3), (4, .int sx0)] [.int (-1)]) : Wm G mX2_change E (bm G mX2_change E (pV Q)) μ 30 [(0, .ref (gb G + 22)), (1, .int x1), (2, .int x2), (3, .int x3)] [.int sx0] := by
  refine L_istore C dX2_change_30 (Nat.le_of_ble_eq_true rfl) ?_
  refine L_iload_n C (i := 2) dX2_change_32 rfl rfl ?_
  refine L_if_ne C (tgt := 40) dX2_change_33 rfl (fun p1 => ?_) (fun p1 => ?_)
  · refine L_aload_n C (i := 0) dX2_change_40 rfl rfl ?_
    refine L_getC C (c' := 23) dX2_change_41 sh_22 fl_X2_12 rfl rfl ?_
    refine L_iload_n C (i := 3) dX2_change_44 rfl rfl ?_
    refine L_iload_n C (i := 2) dX2_change_45 rfl rfl ?_
    refine L_invV2i C dX2_change_46 sh_23 cal_X0_numberIn lk_X2_101 ⟨Nat.le_of_ble_eq_true rfl, Nat.le_of_ble_eq_true rfl⟩ ⟨Nat.le_of_ble_eq_true rfl, Nat.le_of_ble_eq_true rfl⟩ (Nat.le_of_ble_eq_true rfl) ?_
    exact cc1 p1
  · refine L_iconst C (v := (-1)) dX2_change_36 rfl ?_
    refine L_goto C (tgt := 49) dX2_change_37 rfl ?_
    exact kk2 p1
set_option maxRecDepth 4000 in
theorem k_X2_change_49 {G : mG} {E : mE} {B : mB} {μ : mM} (C : Cx G mX2_change E) {x1 : Int32} {x2 : Int32} {x3 : Int32} {x4 : Int32} {sx0 : Int32} (kk1 : x4 = (-1) → Wm G mX2_change E B μ 68 [(0, .ref (gb G + 22)), (1, .int x1), (2, .int x2), (3, .int x3), (5, .int sx0)] []) (ss2 : ¬ x4 = (-1) → vp_in x4 1200) (kk3 : ¬ x4 = (-1) → Wm G mX2_change E B (ms μ 30 x4.toNatClampNeg ((μ 30 x4.toNatClampNeg) - (1 : Int32))) 68 [(0, .ref (gb G + 22)), (1, .int x1), (2, .int x2), (3, .int x3), (5, .int sx0)] []) : Wm G mX2_change E B μ 49 [(0, .ref (gb G + 22)), (1, .int x1), (2, .int x2), (3, .int x3), (4, .int x4)] [.int sx0] := by
  refine L_istore C dX2_change_49 (Nat.le_of_ble_eq_true rfl) ?_
  refine L_iload C dX2_change_51 rfl ?_
  refine L_iconst C (v := (-1)) dX2_change_53 rfl ?_
  refine L_icmp_eq C (tgt := 68) dX2_change_54 rfl (fun p1 => ?_) (fun p1 => ?_)
  · refine L_sub [0, 1, 2, 3, 5] rfl ?_
    exact kk1 p1
  · refine L_aload_n C (i := 0) dX2_change_57 rfl rfl ?_
    refine L_getC C (c' := 30) dX2_change_58 sh_22 fl_X2_25 rfl rfl ?_
    refine L_iload C dX2_change_61 rfl ?_
    refine L_dup2 C dX2_change_63 rfl rfl ?_
    refine L_iald C dX2_change_64 sh_30 (ss2 p1) ?_
    refine L_iconst C (v := 1) dX2_change_65 rfl ?_
    refine L_isub C dX2_change_66 ?_
    refine L_iast C dX2_change_67 sh_30 (ss2 p1) ?_
    refine L_sub [0, 1, 2, 3, 5] rfl ?_
    exact kk3 p1
set_option maxRecDepth 4000 in
theorem k_X2_change_68 {G : mG} {E : mE} {B : mB} {μ : mM} (C : Cx G mX2_change E) {x1 : Int32} {x2 : Int32} {x3 : Int32} {x5 : Int32} (kk1 : x5 = (-1) → Wm G mX2_change E B μ 2 [(0, .ref (gb G + 22)), (1, .int x1), (2, .int x2), (3, .int (x3 + (1 : Int32)))] []) (ss2 : ¬ x5 = (-1) → vp_in x5 1200) (kk3 : ¬ x5 = (-1) → Wm G mX2_change E B (ms μ 30 x5.toNatClampNeg ((μ 30 x5.toNatClampNeg) + (1 : Int32))) 2 [(0, .ref (gb G + 22)), (1, .int x1), (2, .int x2), (3, .int (x3 + (1 : Int32)))] []) : Wm G mX2_change E B μ 68 [(0, .ref (gb G + 22)), (1, .int x1), (2, .int x2), (3, .int x3), (5, .int x5)] [] := by
  refine L_iload C dX2_change_68 rfl ?_
  refine L_iconst C (v := (-1)) dX2_change_70 rfl ?_
  refine L_icmp_eq C (tgt := 85) dX2_change_71 rfl (fun p1 => ?_) (fun p1 => ?_)
  · refine L_iinc C (v := 1) dX2_change_85 rfl rfl (Nat.le_of_ble_eq_true rfl) ?_
    refine L_goto C (tgt := 2) dX2_change_88 rfl ?_
    refine L_sub [0, 1, 2, 3] rfl ?_
    exact kk1 p1
  · refine L_aload_n C (i := 0) dX2_change_74 rfl rfl ?_
    refine L_getC C (c' := 30) dX2_change_75 sh_22 fl_X2_25 rfl rfl ?_
    refine L_iload C dX2_change_78 rfl ?_
    refine L_dup2 C dX2_change_80 rfl rfl ?_
    refine L_iald C dX2_change_81 sh_30 (ss2 p1) ?_
    refine L_iconst C (v := 1) dX2_change_82 rfl ?_
    refine L_iadd C dX2_change_83 ?_
    refine L_iast C dX2_change_84 sh_30 (ss2 p1) ?_
    refine L_iinc C (v := 1) dX2_change_85 rfl rfl (Nat.le_of_ble_eq_true rfl) ?_
    refine L_goto C (tgt := 2) dX2_change_88 rfl ?_
    refine L_sub [0, 1, 2, 3] rfl ?_
    exact kk3 p1
set_option maxRecDepth 4000 in
theorem k_X2_recount_0 {G : mG} {E : mE} {Q : mM → Prop} {μ : mM} (C : Cx G mX2_recount E) {c1 : Nat} (h1 : sh c1 = (0, 6)) (ss1 : vp_in (μ 23 0) 57) (kk2 : Wm G mX2_recount E (bm G mX2_recount E (pV Q)) μ 7 [(0, .ref (gb G + 22)), (1, .ref (gb G + c1)), (2, .int (if 1200 < (μ 25 (μ 23 0).toNatClampNeg) then 1200 else (μ 25 (μ 23 0).toNatClampNeg))), (3, .int 0)] []) : Wm G mX2_recount E (bm G mX2_recount E (pV Q)) μ 0 [(0, .ref (gb G + 22)), (1, .ref (gb G + c1))] [] := by
  refine L_aload_n C (i := 0) dX2_recount_0 rfl rfl ?_
  refine L_invV0i C dX2_recount_1 sh_22 cal_X2_size lk_X2_88 ⟨Nat.le_of_ble_eq_true rfl, Nat.le_of_ble_eq_true rfl⟩ ⟨Nat.le_of_ble_eq_true rfl, Nat.le_of_ble_eq_true rfl⟩ (Nat.le_of_ble_eq_true rfl) (a_X2_size (ss1) (?_))
  · refine L_istore_n C (i := 2) dX2_recount_4 rfl (Nat.le_of_ble_eq_true rfl) ?_
    refine L_iconst C (v := 0) dX2_recount_5 rfl ?_
    refine L_istore_n C (i := 3) dX2_recount_6 rfl (Nat.le_of_ble_eq_true rfl) ?_
    exact kk2
theorem e_X2_recount {G : mG} {Q : mM → Prop} {μ : mM} {c1 : Nat} (h1 : sh c1 = (0, 6)) (k : ∀ E, Cx G mX2_recount E → Wm G mX2_recount E (bm G mX2_recount E (pV Q)) μ 0 [(0, .ref (gb G + 22)), (1, .ref (gb G + c1))] []) : CtV G mX2_recount [.ref (gb G + 22), .ref (gb G + c1)] μ Q := CtV.of pn_X2 (Nat.le_of_ble_eq_true rfl) k
set_option maxRecDepth 4000 in
theorem k_X2_recount_7 {G : mG} {E : mE} {B : mB} {μ : mM} (C : Cx G mX2_recount E) {c1 : Nat} (h1 : sh c1 = (0, 6)) {x2 : Int32} {x3 : Int32} (kk1 : x2 ≤ x3 → Wm G mX2_recount E B μ 27 [(0, .ref (gb G + 22)), (1, .ref (gb G + c1)), (3, .int 0)] []) (ss2 : ¬ x2 ≤ x3 → vp_in x3 1200) (kk3 : ¬ x2 ≤ x3 → Wm G mX2_recount E B (ms μ 30 x3.toNatClampNeg 0) 7 [(0, .ref (gb G + 22)), (1, .ref (gb G + c1)), (2, .int x2), (3, .int (x3 + (1 : Int32)))] []) : Wm G mX2_recount E B μ 7 [(0, .ref (gb G + 22)), (1, .ref (gb G + c1)), (2, .int x2), (3, .int x3)] [] := by
  refine L_iload_n C (i := 3) dX2_recount_7 rfl rfl ?_
  refine L_iload_n C (i := 2) dX2_recount_8 rfl rfl ?_
  refine L_icmp_ge C (tgt := 25) dX2_recount_9 rfl (fun p1 => ?_) (fun p1 => ?_)
  · refine L_iconst C (v := 0) dX2_recount_25 rfl ?_
    refine L_istore_n C (i := 3) dX2_recount_26 rfl (Nat.le_of_ble_eq_true rfl) ?_
    refine L_sub [0, 1, 3] rfl ?_
    exact kk1 p1
  · refine L_aload_n C (i := 0) dX2_recount_12 rfl rfl ?_
    refine L_getC C (c' := 30) dX2_recount_13 sh_22 fl_X2_25 rfl rfl ?_
    refine L_iload_n C (i := 3) dX2_recount_16 rfl rfl ?_
    refine L_iconst C (v := 0) dX2_recount_17 rfl ?_
    refine L_iast C dX2_recount_18 sh_30 (ss2 p1) ?_
    refine L_iinc C (v := 1) dX2_recount_19 rfl rfl (Nat.le_of_ble_eq_true rfl) ?_
    refine L_goto C (tgt := 7) dX2_recount_22 rfl ?_
    exact kk3 p1
set_option maxRecDepth 4000 in
theorem k_X2_recount_27 {G : mG} {E : mE} {Q : mM → Prop} {μ : mM} (C : Cx G mX2_recount E) {c1 : Nat} (h1 : sh c1 = (0, 6)) {x3 : Int32} (rr1 : (μ c1 0) ≤ x3 → Q μ) (ss2 : ¬ (μ c1 0) ≤ x3 → vp_in x3 64) (cc3 : ¬ (μ c1 0) ≤ x3 → CtV G mX2_change [.ref (gb G + 22), .int 0, .int (μ (c1 + 1) x3.toNatClampNeg)] μ (fun μ' => Wm G mX2_recount E (bm G mX2_recount E (pV Q)) μ' 46 [(0, .ref (gb G + 22)), (1, .ref (gb G + c1)), (3, .int x3)] [])) : Wm G mX2_recount E (bm G mX2_recount E (pV Q)) μ 27 [(0, .ref (gb G + 22)), (1, .ref (gb G + c1)), (3, .int x3)] [] := by
  refine L_iload_n C (i := 3) dX2_recount_27 rfl rfl ?_
  refine L_aload_n C (i := 1) dX2_recount_28 rfl rfl ?_
  refine L_getI C dX2_recount_29 h1 fl_X2_91 rfl ?_
  refine L_icmp_ge C (tgt := 52) dX2_recount_32 rfl (fun p1 => ?_) (fun p1 => ?_)
  · exact L_irV C dX2_recount_52 rfl (rr1 p1)
  · refine L_aload_n C (i := 0) dX2_recount_35 rfl rfl ?_
    refine L_iconst C (v := 0) dX2_recount_36 rfl ?_
    refine L_aload_n C (i := 1) dX2_recount_37 rfl rfl ?_
    refine L_getC C (c' := (c1 + 1)) dX2_recount_38 h1 fl_X2_94 rfl rfl ?_
    refine L_iload_n C (i := 3) dX2_recount_41 rfl rfl ?_
    refine L_iald C dX2_recount_42 (shd_6_1 h1) (ss2 p1) ?_
    refine L_invV2v C dX2_recount_43 sh_22 cal_X2_change lk_X2_97 ⟨Nat.le_of_ble_eq_true rfl, Nat.le_of_ble_eq_true rfl⟩ ⟨Nat.le_of_ble_eq_true rfl, Nat.le_of_ble_eq_true rfl⟩ (Nat.le_of_ble_eq_true rfl) ?_
    exact cc3 p1
set_option maxRecDepth 4000 in
theorem k_X2_recount_46 {G : mG} {E : mE} {B : mB} {μ : mM} (C : Cx G mX2_recount E) {c1 : Nat} (h1 : sh c1 = (0, 6)) {x3 : Int32} (kk1 : Wm G mX2_recount E B μ 27 [(0, .ref (gb G + 22)), (1, .ref (gb G + c1)), (3, .int (x3 + (1 : Int32)))] []) : Wm G mX2_recount E B μ 46 [(0, .ref (gb G + 22)), (1, .ref (gb G + c1)), (3, .int x3)] [] := by
  refine L_iinc C (v := 1) dX2_recount_46 rfl rfl (Nat.le_of_ble_eq_true rfl) ?_
  refine L_goto C (tgt := 27) dX2_recount_49 rfl ?_
  exact kk1
set_option maxRecDepth 4000 in
theorem k_X11_rebuild_0 {G : mG} {E : mE} {Q : mM → Prop} {μ : mM} (C : Cx G mX11_rebuild E)  (cc1 : CtV G mX2_build [.ref (gb G + 22), .ref (gb G + 15)] μ (fun μ' => Wm G mX11_rebuild E (bm G mX11_rebuild E (pV Q)) μ' 14 [(0, .ref (gb G + 0))] [])) : Wm G mX11_rebuild E (bm G mX11_rebuild E (pV Q)) μ 0 [(0, .ref (gb G + 0))] [] := by
  refine L_aload_n C (i := 0) dX11_rebuild_0 rfl rfl ?_
  refine L_getC C (c' := 22) dX11_rebuild_1 sh_0 fl_X11_33 rfl rfl ?_
  refine L_aload_n C (i := 0) dX11_rebuild_4 rfl rfl ?_
  refine L_getC C (c' := 14) dX11_rebuild_5 sh_0 fl_X11_26 rfl rfl ?_
  refine L_getC C (c' := 15) dX11_rebuild_8 sh_14 fl_X11_77 rfl rfl ?_
  refine L_invV1v C dX11_rebuild_11 sh_22 cal_X2_build lk_X11_318 ⟨Nat.le_of_ble_eq_true rfl, Nat.le_of_ble_eq_true rfl⟩ ⟨Nat.le_of_ble_eq_true rfl, Nat.le_of_ble_eq_true rfl⟩ (Nat.le_of_ble_eq_true rfl) ?_
  exact cc1
theorem e_X11_rebuild {G : mG} {Q : mM → Prop} {μ : mM}  (k : ∀ E, Cx G mX11_rebuild E → Wm G mX11_rebuild E (bm G mX11_rebuild E (pV Q)) μ 0 [(0, .ref (gb G + 0))] []) : CtV G mX11_rebuild [.ref (gb G + 0)] μ Q := CtV.of pn_X11 (Nat.le_of_ble_eq_true rfl) k
set_option maxRecDepth 4000 in
theorem k_X11_rebuild_14 {G : mG} {E : mE} {Q : mM → Prop} {μ : mM} (C : Cx G mX11_rebuild E)  (cc1 : CtV G mX2_recount [.ref (gb G + 22), .ref (gb G + 19)] μ (fun μ' => Wm G mX11_rebuild E (bm G mX11_rebuild E (pV Q)) μ' 28 [] [])) : Wm G mX11_rebuild E (bm G mX11_rebuild E (pV Q)) μ 14 [(0, .ref (gb G + 0))] [] := by
  refine L_aload_n C (i := 0) dX11_rebuild_14 rfl rfl ?_
  refine L_getC C (c' := 22) dX11_rebuild_15 sh_0 fl_X11_33 rfl rfl ?_
  refine L_aload_n C (i := 0) dX11_rebuild_18 rfl rfl ?_
  refine L_getC C (c' := 14) dX11_rebuild_19 sh_0 fl_X11_26 rfl rfl ?_
  refine L_getC C (c' := 19) dX11_rebuild_22 sh_14 fl_X11_90 rfl rfl ?_
  refine L_sub [] rfl ?_
  refine L_invV1v C dX11_rebuild_25 sh_22 cal_X2_recount lk_X11_204 ⟨Nat.le_of_ble_eq_true rfl, Nat.le_of_ble_eq_true rfl⟩ ⟨Nat.le_of_ble_eq_true rfl, Nat.le_of_ble_eq_true rfl⟩ (Nat.le_of_ble_eq_true rfl) ?_
  exact cc1
set_option maxRecDepth 4000 in
theorem k_X11_rebuild_28 {G : mG} {E : mE} {Q : mM → Prop} {μ : mM} (C : Cx G mX11_rebuild E)  (rr1 : Q μ) : Wm G mX11_rebuild E (bm G mX11_rebuild E (pV Q)) μ 28 [] [] := by
  exact L_irV C dX11_rebuild_28 rfl (rr1)
set_option maxRecDepth 4000 in
theorem k_X11_plan_0 {G : mG} {E : mE} {Q : Int32 → mM → Prop} {μ : mM} (C : Cx G mX11_plan E)  (cc1 : CtI G mX5_read [.ref (gb G + 3), .ref (gb G + 1)] μ (fun r μ' => Wm G mX11_plan E (bm G mX11_plan E (pI Q)) μ' 11 [(0, .ref (gb G + 0))] [.int r])) : Wm G mX11_plan E (bm G mX11_plan E (pI Q)) μ 0 [(0, .ref (gb G + 0))] [] := by
  refine L_aload_n C (i := 0) dX11_plan_0 rfl rfl ?_
  refine L_getC C (c' := 3) dX11_plan_1 sh_0 fl_X11_19 rfl rfl ?_
  refine L_aload_n C (i := 0) dX11_plan_4 rfl rfl ?_
  refine L_getC C (c' := 1) dX11_plan_5 sh_0 fl_X11_10 rfl rfl ?_
  refine L_invV1i C dX11_plan_8 sh_3 cal_X5_read lk_X11_73 ⟨Nat.le_of_ble_eq_true rfl, Nat.le_of_ble_eq_true rfl⟩ ⟨Nat.le_of_ble_eq_true rfl, Nat.le_of_ble_eq_true rfl⟩ (Nat.le_of_ble_eq_true rfl) ?_
  exact cc1
theorem e_X11_plan {G : mG} {Q : Int32 → mM → Prop} {μ : mM}  (k : ∀ E, Cx G mX11_plan E → Wm G mX11_plan E (bm G mX11_plan E (pI Q)) μ 0 [(0, .ref (gb G + 0))] []) : CtI G mX11_plan [.ref (gb G + 0)] μ Q := CtI.of pn_X11 (Nat.le_of_ble_eq_true rfl) k
set_option maxRecDepth 4000 in
theorem k_X11_plan_11 {G : mG} {E : mE} {Q : Int32 → mM → Prop} {μ : mM} (C : Cx G mX11_plan E) {sx0 : Int32} (cc1 : sx0 = (-1) → CtV G mX4_copyFrom [.ref (gb G + 15), .ref (gb G + 4)] (ms μ 1 1 0) (fun μ' => Wm G mX11_plan E (bm G mX11_plan E (pI Q)) μ' 47 [(0, .ref (gb G + 0))] [])) (rr2 : ¬ sx0 = (-1) → Q (((-2) : Int32) - sx0) (ms μ 1 1 0)) : Wm G mX11_plan E (bm G mX11_plan E (pI Q)) μ 11 [(0, .ref (gb G + 0))] [.int sx0] := by
  refine L_istore_n C (i := 1) dX11_plan_11 rfl (Nat.le_of_ble_eq_true rfl) ?_
  refine L_aload_n C (i := 0) dX11_plan_12 rfl rfl ?_
  refine L_getC C (c' := 1) dX11_plan_13 sh_0 fl_X11_10 rfl rfl ?_
  refine L_iconst C (v := 0) dX11_plan_16 rfl ?_
  refine L_putI C dX11_plan_17 sh_1 fl_X11_65 rfl rfl rfl ?_
  refine L_iload_n C (i := 1) dX11_plan_20 rfl rfl ?_
  refine L_iconst C (v := (-1)) dX11_plan_21 rfl ?_
  refine L_icmp_eq C (tgt := 30) dX11_plan_22 rfl (fun p1 => ?_) (fun p1 => ?_)
  · refine L_aload_n C (i := 0) dX11_plan_30 rfl rfl ?_
    refine L_getC C (c' := 14) dX11_plan_31 sh_0 fl_X11_26 rfl rfl ?_
    refine L_getC C (c' := 15) dX11_plan_34 sh_14 fl_X11_77 rfl rfl ?_
    refine L_aload_n C (i := 0) dX11_plan_37 rfl rfl ?_
    refine L_getC C (c' := 3) dX11_plan_38 sh_0 fl_X11_19 rfl rfl ?_
    refine L_getC C (c' := 4) dX11_plan_41 sh_3 fl_X11_81 rfl rfl ?_
    refine L_sub [0] rfl ?_
    refine L_invV1v C dX11_plan_44 sh_15 cal_X4_copyFrom lk_X11_84 ⟨Nat.le_of_ble_eq_true rfl, Nat.le_of_ble_eq_true rfl⟩ ⟨Nat.le_of_ble_eq_true rfl, Nat.le_of_ble_eq_true rfl⟩ (Nat.le_of_ble_eq_true rfl) ?_
    exact cc1 p1
  · refine L_bipush C (v := (-2)) dX11_plan_25 rfl ?_
    refine L_iload_n C (i := 1) dX11_plan_27 rfl rfl ?_
    refine L_isub C dX11_plan_28 ?_
    exact L_irI C dX11_plan_29 rfl (rr2 p1)
set_option maxRecDepth 4000 in
theorem k_X11_plan_47 {G : mG} {E : mE} {Q : Int32 → mM → Prop} {μ : mM} (C : Cx G mX11_plan E)  (cc1 : CtV G mX11_rebuild [.ref (gb G + 0)] (ms (ms μ 19 0 0) 0 9 0) (fun μ' => Wm G mX11_plan E (bm G mX11_plan E (pI Q)) μ' 67 [(0, .ref (gb G + 0))] [])) : Wm G mX11_plan E (bm G mX11_plan E (pI Q)) μ 47 [(0, .ref (gb G + 0))] [] := by
  refine L_aload_n C (i := 0) dX11_plan_47 rfl rfl ?_
  refine L_getC C (c' := 14) dX11_plan_48 sh_0 fl_X11_26 rfl rfl ?_
  refine L_getC C (c' := 19) dX11_plan_51 sh_14 fl_X11_90 rfl rfl ?_
  refine L_iconst C (v := 0) dX11_plan_54 rfl ?_
  refine L_putI C dX11_plan_55 sh_19 fl_X11_94 rfl rfl rfl ?_
  refine L_aload_n C (i := 0) dX11_plan_58 rfl rfl ?_
  refine L_iconst C (v := 0) dX11_plan_59 rfl ?_
  refine L_putI C dX11_plan_60 sh_0 fl_X11_97 rfl rfl rfl ?_
  refine L_aload_n C (i := 0) dX11_plan_63 rfl rfl ?_
  refine L_invV0v C dX11_plan_64 sh_0 cal_X11_rebuild lk_X11_100 ⟨Nat.le_of_ble_eq_true rfl, Nat.le_of_ble_eq_true rfl⟩ ⟨Nat.le_of_ble_eq_true rfl, Nat.le_of_ble_eq_true rfl⟩ (Nat.le_of_ble_eq_true rfl) ?_
  exact cc1
set_option maxRecDepth 4000 in
theorem k_X11_plan_67 {G : mG} {E : mE} {Q : Int32 → mM → Prop} {μ : mM} (C : Cx G mX11_plan E)  (ss1 : vp_in (μ 23 0) 57) (rr2 : Q (if 1200 < (μ 25 (μ 23 0).toNatClampNeg) then 1200 else (μ 25 (μ 23 0).toNatClampNeg)) μ) : Wm G mX11_plan E (bm G mX11_plan E (pI Q)) μ 67 [(0, .ref (gb G + 0))] [] := by
  refine L_aload_n C (i := 0) dX11_plan_67 rfl rfl ?_
  refine L_getC C (c' := 22) dX11_plan_68 sh_0 fl_X11_33 rfl rfl ?_
  refine L_invV0i C dX11_plan_71 sh_22 cal_X2_size lk_X11_103 ⟨Nat.le_of_ble_eq_true rfl, Nat.le_of_ble_eq_true rfl⟩ ⟨Nat.le_of_ble_eq_true rfl, Nat.le_of_ble_eq_true rfl⟩ (Nat.le_of_ble_eq_true rfl) (a_X2_size (ss1) (?_))
  · exact L_irI C dX11_plan_74 rfl (rr2)
set_option maxRecDepth 4000 in
theorem k_X11_isColumn_0 {G : mG} {E : mE} {Q : Int32 → mM → Prop} {μ : mM} (C : Cx G mX11_isColumn E) {x1 : Int32} (rr1 : (x1 < 0 ∨ (¬ x1 < 0 ∧ (μ 15 0) ≤ x1)) → Q 0 μ) (rr2 : ¬ x1 < 0 → ¬ (μ 15 0) ≤ x1 → Q 1 μ) : Wm G mX11_isColumn E (bm G mX11_isColumn E (pI Q)) μ 0 [(0, .ref (gb G + 0)), (1, .int x1)] [] := by
  refine L_iload_n C (i := 1) dX11_isColumn_0 rfl rfl ?_
  refine L_if_lt C (tgt := 22) dX11_isColumn_1 rfl (fun p1 => ?_) (fun p1 => ?_)
  · refine L_iconst C (v := 0) dX11_isColumn_22 rfl ?_
    exact L_irZ C dX11_isColumn_23 rfl (by decide) (rr1 (Or.inl p1))
  · refine L_iload_n C (i := 1) dX11_isColumn_4 rfl rfl ?_
    refine L_aload_n C (i := 0) dX11_isColumn_5 rfl rfl ?_
    refine L_getC C (c' := 14) dX11_isColumn_6 sh_0 fl_X11_26 rfl rfl ?_
    refine L_getC C (c' := 15) dX11_isColumn_9 sh_14 fl_X11_77 rfl rfl ?_
    refine L_getI C dX11_isColumn_12 sh_15 fl_X11_208 rfl ?_
    refine L_icmp_ge C (tgt := 22) dX11_isColumn_15 rfl (fun p2 => ?_) (fun p2 => ?_)
    · refine L_iconst C (v := 0) dX11_isColumn_22 rfl ?_
      exact L_irZ C dX11_isColumn_23 rfl (by decide) (rr1 (Or.inr ⟨p1, p2⟩))
    · refine L_iconst C (v := 1) dX11_isColumn_18 rfl ?_
      refine L_goto C (tgt := 23) dX11_isColumn_19 rfl ?_
      exact L_irZ C dX11_isColumn_23 rfl (by decide) (rr2 p1 p2)
theorem a_X11_isColumn {G : mG} {Q : Int32 → mM → Prop} {μ : mM} {x1 : Int32} (rr1 : (x1 < 0 ∨ (¬ x1 < 0 ∧ (μ 15 0) ≤ x1)) → Q 0 μ) (rr2 : ¬ x1 < 0 → ¬ (μ 15 0) ≤ x1 → Q 1 μ) : CtI G mX11_isColumn [.ref (gb G + 0), .int x1] μ Q :=
  CtI.of pn_X11 (Nat.le_of_ble_eq_true rfl) (fun E C => k_X11_isColumn_0 C rr1 rr2)
set_option maxRecDepth 4000 in
theorem k_X11_levels_0 {G : mG} {E : mE} {Q : Int32 → mM → Prop} {μ : mM} (C : Cx G mX11_levels E) {x1 : Int32} (rr1 : (x1 < 0 ∨ (¬ x1 < 0 ∧ (μ 15 0) ≤ x1)) → Q (-1) μ) (ss2 : ¬ x1 < 0 → ¬ (μ 15 0) ≤ x1 → vp_in x1 8) (rr3 : ¬ x1 < 0 → ¬ (μ 15 0) ≤ x1 → Q (μ 16 x1.toNatClampNeg) μ) : Wm G mX11_levels E (bm G mX11_levels E (pI Q)) μ 0 [(0, .ref (gb G + 0)), (1, .int x1)] [] := by
  refine L_aload_n C (i := 0) dX11_levels_0 rfl rfl ?_
  refine L_iload_n C (i := 1) dX11_levels_1 rfl rfl ?_
  refine L_invV1i C dX11_levels_2 sh_0 cal_X11_isColumn lk_X11_106 ⟨Nat.le_of_ble_eq_true rfl, Nat.le_of_ble_eq_true rfl⟩ ⟨Nat.le_of_ble_eq_true rfl, Nat.le_of_ble_eq_true rfl⟩ (Nat.le_of_ble_eq_true rfl) (a_X11_isColumn (fun p1 => ?_) (fun p2 p3 => ?_))
  · refine L_if_eq C (tgt := 23) dX11_levels_5 rfl (fun p4 => ?_) (fun p4 => absurd p4 (by decide))
    refine L_iconst C (v := (-1)) dX11_levels_23 rfl ?_
    exact L_irI C dX11_levels_24 rfl (rr1 p1)
  · refine L_if_eq C (tgt := 23) dX11_levels_5 rfl (fun p5 => absurd p5 (by decide)) (fun p5 => ?_)
    refine L_aload_n C (i := 0) dX11_levels_8 rfl rfl ?_
    refine L_getC C (c' := 14) dX11_levels_9 sh_0 fl_X11_26 rfl rfl ?_
    refine L_getC C (c' := 15) dX11_levels_12 sh_14 fl_X11_77 rfl rfl ?_
    refine L_getC C (c' := 16) dX11_levels_15 sh_15 fl_X11_110 rfl rfl ?_
    refine L_iload_n C (i := 1) dX11_levels_18 rfl rfl ?_
    refine L_iald C dX11_levels_19 sh_16 (ss2 p2 p3) ?_
    refine L_goto C (tgt := 24) dX11_levels_20 rfl ?_
    exact L_irI C dX11_levels_24 rfl (rr3 p2 p3)
theorem a_X11_levels {G : mG} {Q : Int32 → mM → Prop} {μ : mM} {x1 : Int32} (rr1 : (x1 < 0 ∨ (¬ x1 < 0 ∧ (μ 15 0) ≤ x1)) → Q (-1) μ) (ss2 : ¬ x1 < 0 → ¬ (μ 15 0) ≤ x1 → vp_in x1 8) (rr3 : ¬ x1 < 0 → ¬ (μ 15 0) ≤ x1 → Q (μ 16 x1.toNatClampNeg) μ) : CtI G mX11_levels [.ref (gb G + 0), .int x1] μ Q :=
  CtI.of pn_X11 (Nat.le_of_ble_eq_true rfl) (fun E C => k_X11_levels_0 C rr1 ss2 rr3)
set_option maxRecDepth 4000 in
theorem k_X11_hasPlan_0 {G : mG} {E : mE} {Q : Int32 → mM → Prop} {μ : mM} (C : Cx G mX11_hasPlan E)  (rr1 : (μ 15 0) ≤ 0 → Q 0 μ) (rr2 : ¬ (μ 15 0) ≤ 0 → Q 1 μ) : Wm G mX11_hasPlan E (bm G mX11_hasPlan E (pI Q)) μ 0 [(0, .ref (gb G + 0))] [] := by
  refine L_aload_n C (i := 0) dX11_hasPlan_0 rfl rfl ?_
  refine L_getC C (c' := 14) dX11_hasPlan_1 sh_0 fl_X11_26 rfl rfl ?_
  refine L_getC C (c' := 15) dX11_hasPlan_4 sh_14 fl_X11_77 rfl rfl ?_
  refine L_getI C dX11_hasPlan_7 sh_15 fl_X11_208 rfl ?_
  refine L_if_le C (tgt := 17) dX11_hasPlan_10 rfl (fun p1 => ?_) (fun p1 => ?_)
  · refine L_iconst C (v := 0) dX11_hasPlan_17 rfl ?_
    exact L_irZ C dX11_hasPlan_18 rfl (by decide) (rr1 p1)
  · refine L_iconst C (v := 1) dX11_hasPlan_13 rfl ?_
    refine L_goto C (tgt := 18) dX11_hasPlan_14 rfl ?_
    exact L_irZ C dX11_hasPlan_18 rfl (by decide) (rr2 p1)
theorem a_X11_hasPlan {G : mG} {Q : Int32 → mM → Prop} {μ : mM}  (rr1 : (μ 15 0) ≤ 0 → Q 0 μ) (rr2 : ¬ (μ 15 0) ≤ 0 → Q 1 μ) : CtI G mX11_hasPlan [.ref (gb G + 0)] μ Q :=
  CtI.of pn_X11 (Nat.le_of_ble_eq_true rfl) (fun E C => k_X11_hasPlan_0 C rr1 rr2)
set_option maxRecDepth 4000 in
theorem k_X11_mixCount_0 {G : mG} {E : mE} {Q : Int32 → mM → Prop} {μ : mM} (C : Cx G mX11_mixCount E)  (rr1 : (μ 15 0) ≤ 0 → Q 0 μ) (ss2 : ¬ (μ 15 0) ≤ 0 → vp_in (μ 23 0) 57) (rr3 : ¬ (μ 15 0) ≤ 0 → Q (if 1200 < (μ 25 (μ 23 0).toNatClampNeg) then 1200 else (μ 25 (μ 23 0).toNatClampNeg)) μ) : Wm G mX11_mixCount E (bm G mX11_mixCount E (pI Q)) μ 0 [(0, .ref (gb G + 0))] [] := by
  refine L_aload_n C (i := 0) dX11_mixCount_0 rfl rfl ?_
  refine L_invV0i C dX11_mixCount_1 sh_0 cal_X11_hasPlan lk_X11_165 ⟨Nat.le_of_ble_eq_true rfl, Nat.le_of_ble_eq_true rfl⟩ ⟨Nat.le_of_ble_eq_true rfl, Nat.le_of_ble_eq_true rfl⟩ (Nat.le_of_ble_eq_true rfl) (a_X11_hasPlan (fun p1 => ?_) (fun p2 => ?_))
  · refine L_if_eq C (tgt := 17) dX11_mixCount_4 rfl (fun p3 => ?_) (fun p3 => absurd p3 (by decide))
    refine L_iconst C (v := 0) dX11_mixCount_17 rfl ?_
    exact L_irI C dX11_mixCount_18 rfl (rr1 p1)
  · refine L_if_eq C (tgt := 17) dX11_mixCount_4 rfl (fun p4 => absurd p4 (by decide)) (fun p4 => ?_)
    refine L_aload_n C (i := 0) dX11_mixCount_7 rfl rfl ?_
    refine L_getC C (c' := 22) dX11_mixCount_8 sh_0 fl_X11_33 rfl rfl ?_
    refine L_invV0i C dX11_mixCount_11 sh_22 cal_X2_size lk_X11_103 ⟨Nat.le_of_ble_eq_true rfl, Nat.le_of_ble_eq_true rfl⟩ ⟨Nat.le_of_ble_eq_true rfl, Nat.le_of_ble_eq_true rfl⟩ (Nat.le_of_ble_eq_true rfl) (a_X2_size (ss2 p2) (?_))
    · refine L_goto C (tgt := 18) dX11_mixCount_14 rfl ?_
      exact L_irI C dX11_mixCount_18 rfl (rr3 p2)
theorem a_X11_mixCount {G : mG} {Q : Int32 → mM → Prop} {μ : mM}  (rr1 : (μ 15 0) ≤ 0 → Q 0 μ) (ss2 : ¬ (μ 15 0) ≤ 0 → vp_in (μ 23 0) 57) (rr3 : ¬ (μ 15 0) ≤ 0 → Q (if 1200 < (μ 25 (μ 23 0).toNatClampNeg) then 1200 else (μ 25 (μ 23 0).toNatClampNeg)) μ) : CtI G mX11_mixCount [.ref (gb G + 0)] μ Q :=
  CtI.of pn_X11 (Nat.le_of_ble_eq_true rfl) (fun E C => k_X11_mixCount_0 C rr1 ss2 rr3)
set_option maxRecDepth 4000 in
theorem k_X2_setOf_0 {G : mG} {E : mE} {B : mB} {μ : mM} (C : Cx G mX2_setOf E) {x1 : Int32} (kk1 : Wm G mX2_setOf E B μ 2 [(0, .ref (gb G + 22)), (1, .int x1), (2, .int 0)] []) : Wm G mX2_setOf E B μ 0 [(0, .ref (gb G + 22)), (1, .int x1)] [] := by
  refine L_iconst C (v := 0) dX2_setOf_0 rfl ?_
  refine L_istore_n C (i := 2) dX2_setOf_1 rfl (Nat.le_of_ble_eq_true rfl) ?_
  exact kk1
theorem e_X2_setOf {G : mG} {Q : Int32 → mM → Prop} {μ : mM} {x1 : Int32} (k : ∀ E, Cx G mX2_setOf E → Wm G mX2_setOf E (bm G mX2_setOf E (pI Q)) μ 0 [(0, .ref (gb G + 22)), (1, .int x1)] []) : CtI G mX2_setOf [.ref (gb G + 22), .int x1] μ Q := CtI.of pn_X2 (Nat.le_of_ble_eq_true rfl) k
set_option maxRecDepth 4000 in
theorem k_X2_setOf_2 {G : mG} {E : mE} {Q : Int32 → mM → Prop} {μ : mM} (C : Cx G mX2_setOf E) {x1 : Int32} {x2 : Int32} (rr1 : ((μ 23 0) ≤ (x2 + (1 : Int32)) ∨ (¬ (μ 23 0) ≤ (x2 + (1 : Int32)) ∧ x1 < (μ 25 (x2 + (1 : Int32)).toNatClampNeg))) → Q x2 μ) (ss2 : ¬ (μ 23 0) ≤ (x2 + (1 : Int32)) → vp_in (x2 + (1 : Int32)) 57) (kk3 : ¬ (μ 23 0) ≤ (x2 + (1 : Int32)) → ¬ x1 < (μ 25 (x2 + (1 : Int32)).toNatClampNeg) → Wm G mX2_setOf E (bm G mX2_setOf E (pI Q)) μ 2 [(0, .ref (gb G + 22)), (1, .int x1), (2, .int (x2 + (1 : Int32)))] []) : Wm G mX2_setOf E (bm G mX2_setOf E (pI Q)) μ 2 [(0, .ref (gb G + 22)), (1, .int x1), (2, .int x2)] [] := by
  refine L_iload_n C (i := 2) dX2_setOf_2 rfl rfl ?_
  refine L_iconst C (v := 1) dX2_setOf_3 rfl ?_
  refine L_iadd C dX2_setOf_4 ?_
  refine L_aload_n C (i := 0) dX2_setOf_5 rfl rfl ?_
  refine L_getC C (c' := 23) dX2_setOf_6 sh_22 fl_X2_12 rfl rfl ?_
  refine L_getI C dX2_setOf_9 sh_23 fl_X2_31 rfl ?_
  refine L_icmp_ge C (tgt := 36) dX2_setOf_12 rfl (fun p1 => ?_) (fun p1 => ?_)
  · refine L_iload_n C (i := 2) dX2_setOf_36 rfl rfl ?_
    exact L_irI C dX2_setOf_37 rfl (rr1 (Or.inl p1))
  · refine L_aload_n C (i := 0) dX2_setOf_15 rfl rfl ?_
    refine L_getC C (c' := 23) dX2_setOf_16 sh_22 fl_X2_12 rfl rfl ?_
    refine L_getC C (c' := 25) dX2_setOf_19 sh_23 fl_X2_28 rfl rfl ?_
    refine L_iload_n C (i := 2) dX2_setOf_22 rfl rfl ?_
    refine L_iconst C (v := 1) dX2_setOf_23 rfl ?_
    refine L_iadd C dX2_setOf_24 ?_
    refine L_iald C dX2_setOf_25 sh_25 (ss2 p1) ?_
    refine L_iload_n C (i := 1) dX2_setOf_26 rfl rfl ?_
    refine L_icmp_gt C (tgt := 36) dX2_setOf_27 rfl (fun p2 => ?_) (fun p2 => ?_)
    · refine L_iload_n C (i := 2) dX2_setOf_36 rfl rfl ?_
      exact L_irI C dX2_setOf_37 rfl (rr1 (Or.inr ⟨p1, p2⟩))
    · refine L_iinc C (v := 1) dX2_setOf_30 rfl rfl (Nat.le_of_ble_eq_true rfl) ?_
      refine L_goto C (tgt := 2) dX2_setOf_33 rfl ?_
      exact kk3 p1 p2
set_option maxRecDepth 4000 in
theorem k_X2_columnOf_0 {G : mG} {E : mE} {Q : Int32 → mM → Prop} {μ : mM} (C : Cx G mX2_columnOf E) {x1 : Int32} {x2 : Int32} (rr1 : (μ 23 1) ≤ x2 → Q (-2) μ) (cc2 : ¬ (μ 23 1) ≤ x2 → CtI G mX2_setOf [.ref (gb G + 22), .int x1] μ (fun r μ' => Wm G mX2_columnOf E (bm G mX2_columnOf E (pI Q)) μ' 20 [(2, .int x2)] [.int r, .ref (gb G + 23)])) : Wm G mX2_columnOf E (bm G mX2_columnOf E (pI Q)) μ 0 [(0, .ref (gb G + 22)), (1, .int x1), (2, .int x2)] [] := by
  refine L_iload_n C (i := 2) dX2_columnOf_0 rfl rfl ?_
  refine L_aload_n C (i := 0) dX2_columnOf_1 rfl rfl ?_
  refine L_getC C (c' := 23) dX2_columnOf_2 sh_22 fl_X2_12 rfl rfl ?_
  refine L_getI C dX2_columnOf_5 sh_23 fl_X2_66 rfl ?_
  refine L_icmp_ge C (tgt := 27) dX2_columnOf_8 rfl (fun p1 => ?_) (fun p1 => ?_)
  · refine L_bipush C (v := (-2)) dX2_columnOf_27 rfl ?_
    exact L_irI C dX2_columnOf_29 rfl (rr1 p1)
  · refine L_aload_n C (i := 0) dX2_columnOf_11 rfl rfl ?_
    refine L_getC C (c' := 23) dX2_columnOf_12 sh_22 fl_X2_12 rfl rfl ?_
    refine L_aload_n C (i := 0) dX2_columnOf_15 rfl rfl ?_
    refine L_iload_n C (i := 1) dX2_columnOf_16 rfl rfl ?_
    refine L_sub [2] rfl ?_
    refine L_invV1i C dX2_columnOf_17 sh_22 cal_X2_setOf lk_X2_78 ⟨Nat.le_of_ble_eq_true rfl, Nat.le_of_ble_eq_true rfl⟩ ⟨Nat.le_of_ble_eq_true rfl, Nat.le_of_ble_eq_true rfl⟩ (Nat.le_of_ble_eq_true rfl) ?_
    exact cc2 p1
theorem e_X2_columnOf {G : mG} {Q : Int32 → mM → Prop} {μ : mM} {x1 : Int32} {x2 : Int32} (k : ∀ E, Cx G mX2_columnOf E → Wm G mX2_columnOf E (bm G mX2_columnOf E (pI Q)) μ 0 [(0, .ref (gb G + 22)), (1, .int x1), (2, .int x2)] []) : CtI G mX2_columnOf [.ref (gb G + 22), .int x1, .int x2] μ Q := CtI.of pn_X2 (Nat.le_of_ble_eq_true rfl) k
set_option maxRecDepth 4000 in
theorem k_X2_columnOf_20 {G : mG} {E : mE} {Q : Int32 → mM → Prop} {μ : mM} (C : Cx G mX2_columnOf E) {x2 : Int32} {sx1 : Int32} (ss1 : vp_in ((sx1 * (3 : Int32)) + x2) 168) (rr2 : Q (μ 24 ((sx1 * (3 : Int32)) + x2).toNatClampNeg) μ) : Wm G mX2_columnOf E (bm G mX2_columnOf E (pI Q)) μ 20 [(2, .int x2)] [.int sx1, .ref (gb G + 23)] := by
  refine L_iload_n C (i := 2) dX2_columnOf_20 rfl rfl ?_
  refine L_invV2i C dX2_columnOf_21 sh_23 cal_X0_columnAt lk_X2_75 ⟨Nat.le_of_ble_eq_true rfl, Nat.le_of_ble_eq_true rfl⟩ ⟨Nat.le_of_ble_eq_true rfl, Nat.le_of_ble_eq_true rfl⟩ (Nat.le_of_ble_eq_true rfl) (a_X0_columnAt sh_23 (ss1) (?_))
  · refine L_goto C (tgt := 29) dX2_columnOf_24 rfl ?_
    exact L_irI C dX2_columnOf_29 rfl (rr2)
set_option maxRecDepth 4000 in
theorem k_X2_levelOf_0 {G : mG} {E : mE} {Q : Int32 → mM → Prop} {μ : mM} (C : Cx G mX2_levelOf E) {x1 : Int32} {x2 : Int32} (rr1 : (μ 23 1) ≤ x2 → Q (-2) μ) (ss2 : ¬ (μ 23 1) ≤ x2 → vp_in x1 1200) (cc3 : ¬ (μ 23 1) ≤ x2 → CtI G mX2_columnOf [.ref (gb G + 22), .int x1, .int x2] μ (fun r μ' => Wm G mX2_levelOf E (bm G mX2_levelOf E (pI Q)) μ' 23 [] [.int r, .int (μ 28 x1.toNatClampNeg)])) : Wm G mX2_levelOf E (bm G mX2_levelOf E (pI Q)) μ 0 [(0, .ref (gb G + 22)), (1, .int x1), (2, .int x2)] [] := by
  refine L_iload_n C (i := 2) dX2_levelOf_0 rfl rfl ?_
  refine L_aload_n C (i := 0) dX2_levelOf_1 rfl rfl ?_
  refine L_getC C (c' := 23) dX2_levelOf_2 sh_22 fl_X2_12 rfl rfl ?_
  refine L_getI C dX2_levelOf_5 sh_23 fl_X2_66 rfl ?_
  refine L_icmp_ge C (tgt := 29) dX2_levelOf_8 rfl (fun p1 => ?_) (fun p1 => ?_)
  · refine L_bipush C (v := (-2)) dX2_levelOf_29 rfl ?_
    exact L_irI C dX2_levelOf_31 rfl (rr1 p1)
  · refine L_aload_n C (i := 0) dX2_levelOf_11 rfl rfl ?_
    refine L_getC C (c' := 28) dX2_levelOf_12 sh_22 fl_X2_18 rfl rfl ?_
    refine L_iload_n C (i := 1) dX2_levelOf_15 rfl rfl ?_
    refine L_iald C dX2_levelOf_16 sh_28 (ss2 p1) ?_
    refine L_aload_n C (i := 0) dX2_levelOf_17 rfl rfl ?_
    refine L_iload_n C (i := 1) dX2_levelOf_18 rfl rfl ?_
    refine L_iload_n C (i := 2) dX2_levelOf_19 rfl rfl ?_
    refine L_sub [] rfl ?_
    refine L_invV2i C dX2_levelOf_20 sh_22 cal_X2_columnOf lk_X2_82 ⟨Nat.le_of_ble_eq_true rfl, Nat.le_of_ble_eq_true rfl⟩ ⟨Nat.le_of_ble_eq_true rfl, Nat.le_of_ble_eq_true rfl⟩ (Nat.le_of_ble_eq_true rfl) ?_
    exact cc3 p1
theorem e_X2_levelOf {G : mG} {Q : Int32 → mM → Prop} {μ : mM} {x1 : Int32} {x2 : Int32} (k : ∀ E, Cx G mX2_levelOf E → Wm G mX2_levelOf E (bm G mX2_levelOf E (pI Q)) μ 0 [(0, .ref (gb G + 22)), (1, .int x1), (2, .int x2)] []) : CtI G mX2_levelOf [.ref (gb G + 22), .int x1, .int x2] μ Q := CtI.of pn_X2 (Nat.le_of_ble_eq_true rfl) k
set_option maxRecDepth 4000 in
theorem k_X2_levelOf_23 {G : mG} {E : mE} {Q : Int32 → mM → Prop} {μ : mM} (C : Cx G mX2_levelOf E) {sx0 : Int32} {sx1 : Int32} (rr1 : ¬ ((iush sx0 ((4 : Int32) * sx1)) &&& (15 : Int32)) = 0 → Q ((((iush sx0 ((4 : Int32) * sx1)) &&& (15 : Int32)) >>> ((1 : Int32) &&& 31)) - (((iush sx0 ((4 : Int32) * sx1)) &&& (15 : Int32)) >>> ((3 : Int32) &&& 31))) μ) (rr2 : ((iush sx0 ((4 : Int32) * sx1)) &&& (15 : Int32)) = 0 → Q (-1) μ) : Wm G mX2_levelOf E (bm G mX2_levelOf E (pI Q)) μ 23 [] [.int sx1, .int sx0] := by
  refine L_invSN2i C dX2_levelOf_23 cal_X11_levelIn stc_X11_levelIn nk_X2_85 ⟨Nat.le_of_ble_eq_true rfl, Nat.le_of_ble_eq_true rfl⟩ ⟨Nat.le_of_ble_eq_true rfl, Nat.le_of_ble_eq_true rfl⟩ (Nat.le_of_ble_eq_true rfl) (a_X11_levelIn (fun p1 => ?_) (fun p2 => ?_))
  · refine L_goto C (tgt := 31) dX2_levelOf_26 rfl ?_
    exact L_irI C dX2_levelOf_31 rfl (rr1 p1)
  · refine L_goto C (tgt := 31) dX2_levelOf_26 rfl ?_
    exact L_irI C dX2_levelOf_31 rfl (rr2 p2)
set_option maxRecDepth 4000 in
theorem k_X7_firstThatHas_0 {G : mG} {E : mE} {B : mB} {μ : mM} (C : Cx G mX7_firstThatHas E) {c0 : Nat} (h0 : sh c0 = (0, 6)) {x1 : Int32} (kk1 : Wm G mX7_firstThatHas E B μ 2 [(0, .ref (gb G + c0)), (1, .int x1), (2, .int 0)] []) : Wm G mX7_firstThatHas E B μ 0 [(0, .ref (gb G + c0)), (1, .int x1)] [] := by
  refine L_iconst C (v := 0) dX7_firstThatHas_0 rfl ?_
  refine L_istore_n C (i := 2) dX7_firstThatHas_1 rfl (Nat.le_of_ble_eq_true rfl) ?_
  exact kk1
theorem e_X7_firstThatHas {G : mG} {Q : Int32 → mM → Prop} {μ : mM} {c0 : Nat} (h0 : sh c0 = (0, 6)) {x1 : Int32} (k : ∀ E, Cx G mX7_firstThatHas E → Wm G mX7_firstThatHas E (bm G mX7_firstThatHas E (pI Q)) μ 0 [(0, .ref (gb G + c0)), (1, .int x1)] []) : CtI G mX7_firstThatHas [.ref (gb G + c0), .int x1] μ Q := CtI.of pn_X7 (Nat.le_of_ble_eq_true rfl) k
set_option maxRecDepth 4000 in
theorem k_X7_firstThatHas_2 {G : mG} {E : mE} {Q : Int32 → mM → Prop} {μ : mM} (C : Cx G mX7_firstThatHas E) {c0 : Nat} (h0 : sh c0 = (0, 6)) {x1 : Int32} {x2 : Int32} (rr1 : (μ c0 0) ≤ x2 → Q (-2) μ) (ss2 : ¬ (μ c0 0) ≤ x2 → vp_in x2 64) (kk3 : ¬ (μ c0 0) ≤ x2 → ¬ (x1 &&& ((μ (c0 + 1) x2.toNatClampNeg) ^^^ ((-1) : Int32))) = 0 → Wm G mX7_firstThatHas E (bm G mX7_firstThatHas E (pI Q)) μ 2 [(0, .ref (gb G + c0)), (1, .int x1), (2, .int (x2 + (1 : Int32)))] []) (rr4 : ¬ (μ c0 0) ≤ x2 → (x1 &&& ((μ (c0 + 1) x2.toNatClampNeg) ^^^ ((-1) : Int32))) = 0 → Q x2 μ) : Wm G mX7_firstThatHas E (bm G mX7_firstThatHas E (pI Q)) μ 2 [(0, .ref (gb G + c0)), (1, .int x1), (2, .int x2)] [] := by
  refine L_iload_n C (i := 2) dX7_firstThatHas_2 rfl rfl ?_
  refine L_aload_n C (i := 0) dX7_firstThatHas_3 rfl rfl ?_
  refine L_getI C dX7_firstThatHas_4 h0 fl_X7_18 rfl ?_
  refine L_icmp_ge C (tgt := 31) dX7_firstThatHas_7 rfl (fun p1 => ?_) (fun p1 => ?_)
  · refine L_bipush C (v := (-2)) dX7_firstThatHas_31 rfl ?_
    exact L_irI C dX7_firstThatHas_33 rfl (rr1 p1)
  · refine L_iload_n C (i := 1) dX7_firstThatHas_10 rfl rfl ?_
    refine L_aload_n C (i := 0) dX7_firstThatHas_11 rfl rfl ?_
    refine L_getC C (c' := (c0 + 1)) dX7_firstThatHas_12 h0 fl_X7_9 rfl rfl ?_
    refine L_iload_n C (i := 2) dX7_firstThatHas_15 rfl rfl ?_
    refine L_iald C dX7_firstThatHas_16 (shd_6_1 h0) (ss2 p1) ?_
    refine L_iconst C (v := (-1)) dX7_firstThatHas_17 rfl ?_
    refine L_ixor C dX7_firstThatHas_18 ?_
    refine L_iand C dX7_firstThatHas_19 ?_
    refine L_if_ne C (tgt := 25) dX7_firstThatHas_20 rfl (fun p2 => ?_) (fun p2 => ?_)
    · refine L_iinc C (v := 1) dX7_firstThatHas_25 rfl rfl (Nat.le_of_ble_eq_true rfl) ?_
      refine L_goto C (tgt := 2) dX7_firstThatHas_28 rfl ?_
      exact kk3 p1 p2
    · refine L_iload_n C (i := 2) dX7_firstThatHas_23 rfl rfl ?_
      exact L_irI C dX7_firstThatHas_24 rfl (rr4 p1 p2)
set_option maxRecDepth 4000 in
theorem k_X11_mix_0 {G : mG} {E : mE} {Q : Int32 → mM → Prop} {μ : mM} (C : Cx G mX11_mix E) {x1 : Int32} {x2 : Int32} (rr1 : (x1 < 0 ∨ (¬ x1 < 0 ∧ (((μ 15 0) ≤ 0 ∧ (0 ≤ x1 ∨ (¬ 0 ≤ x1 ∧ (x2 < 0 ∨ (¬ x2 < 0 ∧ ¬ x2 ≤ 8))))) ∨ (¬ (μ 15 0) ≤ 0 ∧ ((if 1200 < (μ 25 (μ 23 0).toNatClampNeg) then 1200 else (μ 25 (μ 23 0).toNatClampNeg)) ≤ x1 ∨ (¬ (if 1200 < (μ 25 (μ 23 0).toNatClampNeg) then 1200 else (μ 25 (μ 23 0).toNatClampNeg)) ≤ x1 ∧ (x2 < 0 ∨ (¬ x2 < 0 ∧ ¬ x2 ≤ 8)))))))) → Q (-1) μ) (ss2 : ¬ x1 < 0 → ¬ (μ 15 0) ≤ 0 → vp_in (μ 23 0) 57) (ss3 : ¬ x1 < 0 → (((μ 15 0) ≤ 0 ∧ ¬ 0 ≤ x1 ∧ ¬ x2 < 0 ∧ x2 ≤ 8 ∧ 3 ≤ x2 ∧ 6 ≤ x2) ∨ (¬ (μ 15 0) ≤ 0 ∧ ¬ (if 1200 < (μ 25 (μ 23 0).toNatClampNeg) then 1200 else (μ 25 (μ 23 0).toNatClampNeg)) ≤ x1 ∧ ¬ x2 < 0 ∧ x2 ≤ 8 ∧ 3 ≤ x2 ∧ 6 ≤ x2)) → vp_in x1 1200) (cc4 : ¬ x1 < 0 → (((μ 15 0) ≤ 0 ∧ ¬ 0 ≤ x1 ∧ ¬ x2 < 0 ∧ x2 ≤ 8 ∧ 3 ≤ x2 ∧ 6 ≤ x2 ∧ ¬ x2 = 6 ∧ ¬ x2 = 7) ∨ (¬ (μ 15 0) ≤ 0 ∧ ¬ (if 1200 < (μ 25 (μ 23 0).toNatClampNeg) then 1200 else (μ 25 (μ 23 0).toNatClampNeg)) ≤ x1 ∧ ¬ x2 < 0 ∧ x2 ≤ 8 ∧ 3 ≤ x2 ∧ 6 ≤ x2 ∧ ¬ x2 = 6 ∧ ¬ x2 = 7)) → CtI G mX7_firstThatHas [.ref (gb G + 19), .int (μ 28 x1.toNatClampNeg)] μ (fun r μ' => Wm G mX11_mix E (bm G mX11_mix E (pI Q)) μ' 118 [] [.int r])) (kk5 : ¬ x1 < 0 → (((μ 15 0) ≤ 0 ∧ ¬ 0 ≤ x1 ∧ ¬ x2 < 0 ∧ x2 ≤ 8 ∧ 3 ≤ x2 ∧ 6 ≤ x2 ∧ ¬ x2 = 6 ∧ x2 = 7) ∨ (¬ (μ 15 0) ≤ 0 ∧ ¬ (if 1200 < (μ 25 (μ 23 0).toNatClampNeg) then 1200 else (μ 25 (μ 23 0).toNatClampNeg)) ≤ x1 ∧ ¬ x2 < 0 ∧ x2 ≤ 8 ∧ 3 ≤ x2 ∧ 6 ≤ x2 ∧ ¬ x2 = 6 ∧ x2 = 7)) → Wm G mX11_mix E (bm G mX11_mix E (pI Q)) μ 118 [] [.int (μ 30 x1.toNatClampNeg)]) (rr6 : ¬ x1 < 0 → (((μ 15 0) ≤ 0 ∧ ¬ 0 ≤ x1 ∧ ¬ x2 < 0 ∧ x2 ≤ 8 ∧ 3 ≤ x2 ∧ 6 ≤ x2 ∧ x2 = 6 ∧ (μ 29 x1.toNatClampNeg) = 0) ∨ (¬ (μ 15 0) ≤ 0 ∧ ¬ (if 1200 < (μ 25 (μ 23 0).toNatClampNeg) then 1200 else (μ 25 (μ 23 0).toNatClampNeg)) ≤ x1 ∧ ¬ x2 < 0 ∧ x2 ≤ 8 ∧ 3 ≤ x2 ∧ 6 ≤ x2 ∧ x2 = 6 ∧ (μ 29 x1.toNatClampNeg) = 0)) → Q 0 μ) (rr7 : ¬ x1 < 0 → (((μ 15 0) ≤ 0 ∧ ¬ 0 ≤ x1 ∧ ¬ x2 < 0 ∧ x2 ≤ 8 ∧ 3 ≤ x2 ∧ 6 ≤ x2 ∧ x2 = 6 ∧ ¬ (μ 29 x1.toNatClampNeg) = 0) ∨ (¬ (μ 15 0) ≤ 0 ∧ ¬ (if 1200 < (μ 25 (μ 23 0).toNatClampNeg) then 1200 else (μ 25 (μ 23 0).toNatClampNeg)) ≤ x1 ∧ ¬ x2 < 0 ∧ x2 ≤ 8 ∧ 3 ≤ x2 ∧ 6 ≤ x2 ∧ x2 = 6 ∧ ¬ (μ 29 x1.toNatClampNeg) = 0)) → Q 1 μ) (cc8 : ¬ x1 < 0 → (((μ 15 0) ≤ 0 ∧ ¬ 0 ≤ x1 ∧ ¬ x2 < 0 ∧ x2 ≤ 8 ∧ 3 ≤ x2 ∧ ¬ 6 ≤ x2) ∨ (¬ (μ 15 0) ≤ 0 ∧ ¬ (if 1200 < (μ 25 (μ 23 0).toNatClampNeg) then 1200 else (μ 25 (μ 23 0).toNatClampNeg)) ≤ x1 ∧ ¬ x2 < 0 ∧ x2 ≤ 8 ∧ 3 ≤ x2 ∧ ¬ 6 ≤ x2)) → CtI G mX2_levelOf [.ref (gb G + 22), .int x1, .int (x2 - (3 : Int32))] μ (fun r μ' => Wm G mX11_mix E (bm G mX11_mix E (pI Q)) μ' 56 [] [.int r])) (cc9 : ¬ x1 < 0 → (((μ 15 0) ≤ 0 ∧ ¬ 0 ≤ x1 ∧ ¬ x2 < 0 ∧ x2 ≤ 8 ∧ ¬ 3 ≤ x2) ∨ (¬ (μ 15 0) ≤ 0 ∧ ¬ (if 1200 < (μ 25 (μ 23 0).toNatClampNeg) then 1200 else (μ 25 (μ 23 0).toNatClampNeg)) ≤ x1 ∧ ¬ x2 < 0 ∧ x2 ≤ 8 ∧ ¬ 3 ≤ x2)) → CtI G mX2_columnOf [.ref (gb G + 22), .int x1, .int x2] μ (fun r μ' => Wm G mX11_mix E (bm G mX11_mix E (pI Q)) μ' 38 [] [.int r])) : Wm G mX11_mix E (bm G mX11_mix E (pI Q)) μ 0 [(0, .ref (gb G + 0)), (1, .int x1), (2, .int x2)] [] := by
  refine L_iload_n C (i := 1) dX11_mix_0 rfl rfl ?_
  refine L_if_lt C (tgt := 22) dX11_mix_1 rfl (fun p1 => ?_) (fun p1 => ?_)
  · refine L_iconst C (v := (-1)) dX11_mix_22 rfl ?_
    exact L_irI C dX11_mix_23 rfl (rr1 (Or.inl p1))
  · refine L_iload_n C (i := 1) dX11_mix_4 rfl rfl ?_
    refine L_aload_n C (i := 0) dX11_mix_5 rfl rfl ?_
    refine L_invV0i C dX11_mix_6 sh_0 cal_X11_mixCount lk_X11_114 ⟨Nat.le_of_ble_eq_true rfl, Nat.le_of_ble_eq_true rfl⟩ ⟨Nat.le_of_ble_eq_true rfl, Nat.le_of_ble_eq_true rfl⟩ (Nat.le_of_ble_eq_true rfl) (a_X11_mixCount (fun p2 => ?_) (fun p3 => ss2 p1 p3) (fun p4 => ?_))
    · refine L_icmp_ge C (tgt := 22) dX11_mix_9 rfl (fun p5 => ?_) (fun p5 => ?_)
      · refine L_iconst C (v := (-1)) dX11_mix_22 rfl ?_
        exact L_irI C dX11_mix_23 rfl (rr1 (Or.inr ⟨p1, (Or.inl ⟨p2, (Or.inl p5)⟩)⟩))
      · refine L_iload_n C (i := 2) dX11_mix_12 rfl rfl ?_
        refine L_if_lt C (tgt := 22) dX11_mix_13 rfl (fun p6 => ?_) (fun p6 => ?_)
        · refine L_iconst C (v := (-1)) dX11_mix_22 rfl ?_
          exact L_irI C dX11_mix_23 rfl (rr1 (Or.inr ⟨p1, (Or.inl ⟨p2, (Or.inr ⟨p5, (Or.inl p6)⟩)⟩)⟩))
        · refine L_iload_n C (i := 2) dX11_mix_16 rfl rfl ?_
          refine L_bipush C (v := 8) dX11_mix_17 rfl ?_
          refine L_icmp_le C (tgt := 24) dX11_mix_19 rfl (fun p7 => ?_) (fun p7 => ?_)
          · refine L_iload_n C (i := 2) dX11_mix_24 rfl rfl ?_
            refine L_iconst C (v := 3) dX11_mix_25 rfl ?_
            refine L_icmp_ge C (tgt := 39) dX11_mix_26 rfl (fun p8 => ?_) (fun p8 => ?_)
            · refine L_iload_n C (i := 2) dX11_mix_39 rfl rfl ?_
              refine L_bipush C (v := 6) dX11_mix_40 rfl ?_
              refine L_icmp_ge C (tgt := 57) dX11_mix_42 rfl (fun p9 => ?_) (fun p9 => ?_)
              · refine L_iload_n C (i := 2) dX11_mix_57 rfl rfl ?_
                refine L_bipush C (v := 6) dX11_mix_58 rfl ?_
                refine L_icmp_ne C (tgt := 81) dX11_mix_60 rfl (fun p10 => ?_) (fun p10 => ?_)
                · refine L_iload_n C (i := 2) dX11_mix_81 rfl rfl ?_
                  refine L_bipush C (v := 7) dX11_mix_82 rfl ?_
                  refine L_icmp_ne C (tgt := 99) dX11_mix_84 rfl (fun p11 => ?_) (fun p11 => ?_)
                  · refine L_aload_n C (i := 0) dX11_mix_99 rfl rfl ?_
                    refine L_getC C (c' := 14) dX11_mix_100 sh_0 fl_X11_26 rfl rfl ?_
                    refine L_getC C (c' := 19) dX11_mix_103 sh_14 fl_X11_90 rfl rfl ?_
                    refine L_aload_n C (i := 0) dX11_mix_106 rfl rfl ?_
                    refine L_getC C (c' := 22) dX11_mix_107 sh_0 fl_X11_33 rfl rfl ?_
                    refine L_getC C (c' := 28) dX11_mix_110 sh_22 fl_X11_130 rfl rfl ?_
                    refine L_iload_n C (i := 1) dX11_mix_113 rfl rfl ?_
                    refine L_iald C dX11_mix_114 sh_28 (ss3 p1 (Or.inl ⟨p2, p5, p6, p7, p8, p9⟩)) ?_
                    refine L_sub [] rfl ?_
                    refine L_invV1i C dX11_mix_115 sh_19 cal_X7_firstThatHas lk_X11_133 ⟨Nat.le_of_ble_eq_true rfl, Nat.le_of_ble_eq_true rfl⟩ ⟨Nat.le_of_ble_eq_true rfl, Nat.le_of_ble_eq_true rfl⟩ (Nat.le_of_ble_eq_true rfl) ?_
                    exact cc4 p1 (Or.inl ⟨p2, p5, p6, p7, p8, p9, p10, p11⟩)
                  · refine L_aload_n C (i := 0) dX11_mix_87 rfl rfl ?_
                    refine L_getC C (c' := 22) dX11_mix_88 sh_0 fl_X11_33 rfl rfl ?_
                    refine L_getC C (c' := 30) dX11_mix_91 sh_22 fl_X11_127 rfl rfl ?_
                    refine L_iload_n C (i := 1) dX11_mix_94 rfl rfl ?_
                    refine L_iald C dX11_mix_95 sh_30 (ss3 p1 (Or.inl ⟨p2, p5, p6, p7, p8, p9⟩)) ?_
                    refine L_goto C (tgt := 118) dX11_mix_96 rfl ?_
                    refine L_sub [] rfl ?_
                    exact kk5 p1 (Or.inl ⟨p2, p5, p6, p7, p8, p9, p10, p11⟩)
                · refine L_aload_n C (i := 0) dX11_mix_63 rfl rfl ?_
                  refine L_getC C (c' := 22) dX11_mix_64 sh_0 fl_X11_33 rfl rfl ?_
                  refine L_getC C (c' := 29) dX11_mix_67 sh_22 fl_X11_124 rfl rfl ?_
                  refine L_iload_n C (i := 1) dX11_mix_70 rfl rfl ?_
                  refine L_iald C dX11_mix_71 sh_29 (ss3 p1 (Or.inl ⟨p2, p5, p6, p7, p8, p9⟩)) ?_
                  refine L_if_eq C (tgt := 79) dX11_mix_72 rfl (fun p12 => ?_) (fun p12 => ?_)
                  · refine L_iconst C (v := 0) dX11_mix_79 rfl ?_
                    exact L_irI C dX11_mix_80 rfl (rr6 p1 (Or.inl ⟨p2, p5, p6, p7, p8, p9, p10, p12⟩))
                  · refine L_iconst C (v := 1) dX11_mix_75 rfl ?_
                    refine L_goto C (tgt := 80) dX11_mix_76 rfl ?_
                    exact L_irI C dX11_mix_80 rfl (rr7 p1 (Or.inl ⟨p2, p5, p6, p7, p8, p9, p10, p12⟩))
              · refine L_aload_n C (i := 0) dX11_mix_45 rfl rfl ?_
                refine L_getC C (c' := 22) dX11_mix_46 sh_0 fl_X11_33 rfl rfl ?_
                refine L_iload_n C (i := 1) dX11_mix_49 rfl rfl ?_
                refine L_iload_n C (i := 2) dX11_mix_50 rfl rfl ?_
                refine L_iconst C (v := 3) dX11_mix_51 rfl ?_
                refine L_isub C dX11_mix_52 ?_
                refine L_sub [] rfl ?_
                refine L_invV2i C dX11_mix_53 sh_22 cal_X2_levelOf lk_X11_121 ⟨Nat.le_of_ble_eq_true rfl, Nat.le_of_ble_eq_true rfl⟩ ⟨Nat.le_of_ble_eq_true rfl, Nat.le_of_ble_eq_true rfl⟩ (Nat.le_of_ble_eq_true rfl) ?_
                exact cc8 p1 (Or.inl ⟨p2, p5, p6, p7, p8, p9⟩)
            · refine L_aload_n C (i := 0) dX11_mix_29 rfl rfl ?_
              refine L_getC C (c' := 22) dX11_mix_30 sh_0 fl_X11_33 rfl rfl ?_
              refine L_iload_n C (i := 1) dX11_mix_33 rfl rfl ?_
              refine L_iload_n C (i := 2) dX11_mix_34 rfl rfl ?_
              refine L_sub [] rfl ?_
              refine L_invV2i C dX11_mix_35 sh_22 cal_X2_columnOf lk_X11_117 ⟨Nat.le_of_ble_eq_true rfl, Nat.le_of_ble_eq_true rfl⟩ ⟨Nat.le_of_ble_eq_true rfl, Nat.le_of_ble_eq_true rfl⟩ (Nat.le_of_ble_eq_true rfl) ?_
              exact cc9 p1 (Or.inl ⟨p2, p5, p6, p7, p8⟩)
          · refine L_iconst C (v := (-1)) dX11_mix_22 rfl ?_
            exact L_irI C dX11_mix_23 rfl (rr1 (Or.inr ⟨p1, (Or.inl ⟨p2, (Or.inr ⟨p5, (Or.inr ⟨p6, p7⟩)⟩)⟩)⟩))
    · refine L_icmp_ge C (tgt := 22) dX11_mix_9 rfl (fun p13 => ?_) (fun p13 => ?_)
      · refine L_iconst C (v := (-1)) dX11_mix_22 rfl ?_
        exact L_irI C dX11_mix_23 rfl (rr1 (Or.inr ⟨p1, (Or.inr ⟨p4, (Or.inl p13)⟩)⟩))
      · refine L_iload_n C (i := 2) dX11_mix_12 rfl rfl ?_
        refine L_if_lt C (tgt := 22) dX11_mix_13 rfl (fun p14 => ?_) (fun p14 => ?_)
        · refine L_iconst C (v := (-1)) dX11_mix_22 rfl ?_
          exact L_irI C dX11_mix_23 rfl (rr1 (Or.inr ⟨p1, (Or.inr ⟨p4, (Or.inr ⟨p13, (Or.inl p14)⟩)⟩)⟩))
        · refine L_iload_n C (i := 2) dX11_mix_16 rfl rfl ?_
          refine L_bipush C (v := 8) dX11_mix_17 rfl ?_
          refine L_icmp_le C (tgt := 24) dX11_mix_19 rfl (fun p15 => ?_) (fun p15 => ?_)
          · refine L_iload_n C (i := 2) dX11_mix_24 rfl rfl ?_
            refine L_iconst C (v := 3) dX11_mix_25 rfl ?_
            refine L_icmp_ge C (tgt := 39) dX11_mix_26 rfl (fun p16 => ?_) (fun p16 => ?_)
            · refine L_iload_n C (i := 2) dX11_mix_39 rfl rfl ?_
              refine L_bipush C (v := 6) dX11_mix_40 rfl ?_
              refine L_icmp_ge C (tgt := 57) dX11_mix_42 rfl (fun p17 => ?_) (fun p17 => ?_)
              · refine L_iload_n C (i := 2) dX11_mix_57 rfl rfl ?_
                refine L_bipush C (v := 6) dX11_mix_58 rfl ?_
                refine L_icmp_ne C (tgt := 81) dX11_mix_60 rfl (fun p18 => ?_) (fun p18 => ?_)
                · refine L_iload_n C (i := 2) dX11_mix_81 rfl rfl ?_
                  refine L_bipush C (v := 7) dX11_mix_82 rfl ?_
                  refine L_icmp_ne C (tgt := 99) dX11_mix_84 rfl (fun p19 => ?_) (fun p19 => ?_)
                  · refine L_aload_n C (i := 0) dX11_mix_99 rfl rfl ?_
                    refine L_getC C (c' := 14) dX11_mix_100 sh_0 fl_X11_26 rfl rfl ?_
                    refine L_getC C (c' := 19) dX11_mix_103 sh_14 fl_X11_90 rfl rfl ?_
                    refine L_aload_n C (i := 0) dX11_mix_106 rfl rfl ?_
                    refine L_getC C (c' := 22) dX11_mix_107 sh_0 fl_X11_33 rfl rfl ?_
                    refine L_getC C (c' := 28) dX11_mix_110 sh_22 fl_X11_130 rfl rfl ?_
                    refine L_iload_n C (i := 1) dX11_mix_113 rfl rfl ?_
                    refine L_iald C dX11_mix_114 sh_28 (ss3 p1 (Or.inr ⟨p4, p13, p14, p15, p16, p17⟩)) ?_
                    refine L_sub [] rfl ?_
                    refine L_invV1i C dX11_mix_115 sh_19 cal_X7_firstThatHas lk_X11_133 ⟨Nat.le_of_ble_eq_true rfl, Nat.le_of_ble_eq_true rfl⟩ ⟨Nat.le_of_ble_eq_true rfl, Nat.le_of_ble_eq_true rfl⟩ (Nat.le_of_ble_eq_true rfl) ?_
                    exact cc4 p1 (Or.inr ⟨p4, p13, p14, p15, p16, p17, p18, p19⟩)
                  · refine L_aload_n C (i := 0) dX11_mix_87 rfl rfl ?_
                    refine L_getC C (c' := 22) dX11_mix_88 sh_0 fl_X11_33 rfl rfl ?_
                    refine L_getC C (c' := 30) dX11_mix_91 sh_22 fl_X11_127 rfl rfl ?_
                    refine L_iload_n C (i := 1) dX11_mix_94 rfl rfl ?_
                    refine L_iald C dX11_mix_95 sh_30 (ss3 p1 (Or.inr ⟨p4, p13, p14, p15, p16, p17⟩)) ?_
                    refine L_goto C (tgt := 118) dX11_mix_96 rfl ?_
                    refine L_sub [] rfl ?_
                    exact kk5 p1 (Or.inr ⟨p4, p13, p14, p15, p16, p17, p18, p19⟩)
                · refine L_aload_n C (i := 0) dX11_mix_63 rfl rfl ?_
                  refine L_getC C (c' := 22) dX11_mix_64 sh_0 fl_X11_33 rfl rfl ?_
                  refine L_getC C (c' := 29) dX11_mix_67 sh_22 fl_X11_124 rfl rfl ?_
                  refine L_iload_n C (i := 1) dX11_mix_70 rfl rfl ?_
                  refine L_iald C dX11_mix_71 sh_29 (ss3 p1 (Or.inr ⟨p4, p13, p14, p15, p16, p17⟩)) ?_
                  refine L_if_eq C (tgt := 79) dX11_mix_72 rfl (fun p20 => ?_) (fun p20 => ?_)
                  · refine L_iconst C (v := 0) dX11_mix_79 rfl ?_
                    exact L_irI C dX11_mix_80 rfl (rr6 p1 (Or.inr ⟨p4, p13, p14, p15, p16, p17, p18, p20⟩))
                  · refine L_iconst C (v := 1) dX11_mix_75 rfl ?_
                    refine L_goto C (tgt := 80) dX11_mix_76 rfl ?_
                    exact L_irI C dX11_mix_80 rfl (rr7 p1 (Or.inr ⟨p4, p13, p14, p15, p16, p17, p18, p20⟩))
              · refine L_aload_n C (i := 0) dX11_mix_45 rfl rfl ?_
                refine L_getC C (c' := 22) dX11_mix_46 sh_0 fl_X11_33 rfl rfl ?_
                refine L_iload_n C (i := 1) dX11_mix_49 rfl rfl ?_
                refine L_iload_n C (i := 2) dX11_mix_50 rfl rfl ?_
                refine L_iconst C (v := 3) dX11_mix_51 rfl ?_
                refine L_isub C dX11_mix_52 ?_
                refine L_sub [] rfl ?_
                refine L_invV2i C dX11_mix_53 sh_22 cal_X2_levelOf lk_X11_121 ⟨Nat.le_of_ble_eq_true rfl, Nat.le_of_ble_eq_true rfl⟩ ⟨Nat.le_of_ble_eq_true rfl, Nat.le_of_ble_eq_true rfl⟩ (Nat.le_of_ble_eq_true rfl) ?_
                exact cc8 p1 (Or.inr ⟨p4, p13, p14, p15, p16, p17⟩)
            · refine L_aload_n C (i := 0) dX11_mix_29 rfl rfl ?_
              refine L_getC C (c' := 22) dX11_mix_30 sh_0 fl_X11_33 rfl rfl ?_
              refine L_iload_n C (i := 1) dX11_mix_33 rfl rfl ?_
              refine L_iload_n C (i := 2) dX11_mix_34 rfl rfl ?_
              refine L_sub [] rfl ?_
              refine L_invV2i C dX11_mix_35 sh_22 cal_X2_columnOf lk_X11_117 ⟨Nat.le_of_ble_eq_true rfl, Nat.le_of_ble_eq_true rfl⟩ ⟨Nat.le_of_ble_eq_true rfl, Nat.le_of_ble_eq_true rfl⟩ (Nat.le_of_ble_eq_true rfl) ?_
              exact cc9 p1 (Or.inr ⟨p4, p13, p14, p15, p16⟩)
          · refine L_iconst C (v := (-1)) dX11_mix_22 rfl ?_
            exact L_irI C dX11_mix_23 rfl (rr1 (Or.inr ⟨p1, (Or.inr ⟨p4, (Or.inr ⟨p13, (Or.inr ⟨p14, p15⟩)⟩)⟩)⟩))
theorem e_X11_mix {G : mG} {Q : Int32 → mM → Prop} {μ : mM} {x1 : Int32} {x2 : Int32} (k : ∀ E, Cx G mX11_mix E → Wm G mX11_mix E (bm G mX11_mix E (pI Q)) μ 0 [(0, .ref (gb G + 0)), (1, .int x1), (2, .int x2)] []) : CtI G mX11_mix [.ref (gb G + 0), .int x1, .int x2] μ Q := CtI.of pn_X11 (Nat.le_of_ble_eq_true rfl) k
set_option maxRecDepth 4000 in
theorem k_X11_mix_38 {G : mG} {E : mE} {Q : Int32 → mM → Prop} {μ : mM} (C : Cx G mX11_mix E) {sx0 : Int32} (rr1 : Q sx0 μ) : Wm G mX11_mix E (bm G mX11_mix E (pI Q)) μ 38 [] [.int sx0] := by
  exact L_irI C dX11_mix_38 rfl (rr1)
set_option maxRecDepth 4000 in
theorem k_X11_mix_56 {G : mG} {E : mE} {Q : Int32 → mM → Prop} {μ : mM} (C : Cx G mX11_mix E) {sx0 : Int32} (rr1 : Q sx0 μ) : Wm G mX11_mix E (bm G mX11_mix E (pI Q)) μ 56 [] [.int sx0] := by
  exact L_irI C dX11_mix_56 rfl (rr1)
set_option maxRecDepth 4000 in
theorem k_X11_mix_118 {G : mG} {E : mE} {Q : Int32 → mM → Prop} {μ : mM} (C : Cx G mX11_mix E) {sx0 : Int32} (rr1 : Q sx0 μ) : Wm G mX11_mix E (bm G mX11_mix E (pI Q)) μ 118 [] [.int sx0] := by
  exact L_irI C dX11_mix_118 rfl (rr1)
set_option maxRecDepth 4000 in
theorem k_X4_rowOfDigits_0 {G : mG} {E : mE} {Q : Int32 → mM → Prop} {μ : mM} (C : Cx G mX4_rowOfDigits E) {c0 : Nat} (h0 : sh c0 = (0, 3)) {x1 : Int32} (kk1 : 0 ≤ x1 → Wm G mX4_rowOfDigits E (bm G mX4_rowOfDigits E (pI Q)) μ 18 [(0, .ref (gb G + c0)), (2, .int x1), (3, .int 0), (4, .int ((μ c0 0) - (1 : Int32)))] []) (rr2 : ¬ 0 ≤ x1 → Q (-1) μ) : Wm G mX4_rowOfDigits E (bm G mX4_rowOfDigits E (pI Q)) μ 0 [(0, .ref (gb G + c0)), (1, .int x1)] [] := by
  refine L_iload_n C (i := 1) dX4_rowOfDigits_0 rfl rfl ?_
  refine L_if_ge C (tgt := 6) dX4_rowOfDigits_1 rfl (fun p1 => ?_) (fun p1 => ?_)
  · refine L_iload_n C (i := 1) dX4_rowOfDigits_6 rfl rfl ?_
    refine L_istore_n C (i := 2) dX4_rowOfDigits_7 rfl (Nat.le_of_ble_eq_true rfl) ?_
    refine L_iconst C (v := 0) dX4_rowOfDigits_8 rfl ?_
    refine L_istore_n C (i := 3) dX4_rowOfDigits_9 rfl (Nat.le_of_ble_eq_true rfl) ?_
    refine L_aload_n C (i := 0) dX4_rowOfDigits_10 rfl rfl ?_
    refine L_getI C dX4_rowOfDigits_11 h0 fl_X4_21 rfl ?_
    refine L_iconst C (v := 1) dX4_rowOfDigits_14 rfl ?_
    refine L_isub C dX4_rowOfDigits_15 ?_
    refine L_istore C dX4_rowOfDigits_16 (Nat.le_of_ble_eq_true rfl) ?_
    refine L_sub [0, 2, 3, 4] rfl ?_
    exact kk1 p1
  · refine L_iconst C (v := (-1)) dX4_rowOfDigits_4 rfl ?_
    exact L_irI C dX4_rowOfDigits_5 rfl (rr2 p1)
theorem e_X4_rowOfDigits {G : mG} {Q : Int32 → mM → Prop} {μ : mM} {c0 : Nat} (h0 : sh c0 = (0, 3)) {x1 : Int32} (k : ∀ E, Cx G mX4_rowOfDigits E → Wm G mX4_rowOfDigits E (bm G mX4_rowOfDigits E (pI Q)) μ 0 [(0, .ref (gb G + c0)), (1, .int x1)] []) : CtI G mX4_rowOfDigits [.ref (gb G + c0), .int x1] μ Q := CtI.of pn_X4 (Nat.le_of_ble_eq_true rfl) k
set_option maxRecDepth 4000 in
theorem k_X4_rowOfDigits_18 {G : mG} {E : mE} {Q : Int32 → mM → Prop} {μ : mM} (C : Cx G mX4_rowOfDigits E) {c0 : Nat} (h0 : sh c0 = (0, 3)) {x2 : Int32} {x3 : Int32} {x4 : Int32} (rr1 : ((x4 < 0 ∧ ¬ x2 = 0) ∨ (¬ x4 < 0 ∧ (μ (c0 + 1) x4.toNatClampNeg) ≤ (x2 - x2 / 10 * 10) ∧ ¬ (x2 - x2 / 10 * 10) = 9)) → Q (-1) μ) (rr2 : x4 < 0 → x2 = 0 → Q x3 μ) (ss3 : ¬ x4 < 0 → vp_in x4 8) (kk4 : ¬ x4 < 0 → (μ (c0 + 1) x4.toNatClampNeg) ≤ (x2 - x2 / 10 * 10) → (x2 - x2 / 10 * 10) = 9 → Wm G mX4_rowOfDigits E (bm G mX4_rowOfDigits E (pI Q)) μ 18 [(0, .ref (gb G + c0)), (2, .int (x2 / 10)), (3, .int x3), (4, .int (x4 + ((-1) : Int32)))] []) (kk5 : ¬ x4 < 0 → ¬ (μ (c0 + 1) x4.toNatClampNeg) ≤ (x2 - x2 / 10 * 10) → Wm G mX4_rowOfDigits E (bm G mX4_rowOfDigits E (pI Q)) μ 18 [(0, .ref (gb G + c0)), (2, .int (x2 / 10)), (3, .int (x3 ||| ((1 : Int32) <<< ((((4 : Int32) * x4) + (x2 - x2 / 10 * 10)) &&& 31)))), (4, .int (x4 + ((-1) : Int32)))] []) : Wm G mX4_rowOfDigits E (bm G mX4_rowOfDigits E (pI Q)) μ 18 [(0, .ref (gb G + c0)), (2, .int x2), (3, .int x3), (4, .int x4)] [] := by
  refine L_iload C dX4_rowOfDigits_18 rfl ?_
  refine L_if_lt C (tgt := 76) dX4_rowOfDigits_20 rfl (fun p1 => ?_) (fun p1 => ?_)
  · refine L_iload_n C (i := 2) dX4_rowOfDigits_76 rfl rfl ?_
    refine L_if_ne C (tgt := 84) dX4_rowOfDigits_77 rfl (fun p2 => ?_) (fun p2 => ?_)
    · refine L_iconst C (v := (-1)) dX4_rowOfDigits_84 rfl ?_
      exact L_irI C dX4_rowOfDigits_85 rfl (rr1 (Or.inl ⟨p1, p2⟩))
    · refine L_iload_n C (i := 3) dX4_rowOfDigits_80 rfl rfl ?_
      refine L_goto C (tgt := 85) dX4_rowOfDigits_81 rfl ?_
      exact L_irI C dX4_rowOfDigits_85 rfl (rr2 p1 p2)
  · refine L_iload_n C (i := 2) dX4_rowOfDigits_23 rfl rfl ?_
    refine L_bipush C (v := 10) dX4_rowOfDigits_24 rfl ?_
    refine L_irem C dX4_rowOfDigits_26 (by decide) ?_
    refine L_istore C dX4_rowOfDigits_27 (Nat.le_of_ble_eq_true rfl) ?_
    refine L_iload_n C (i := 2) dX4_rowOfDigits_29 rfl rfl ?_
    refine L_bipush C (v := 10) dX4_rowOfDigits_30 rfl ?_
    refine L_idiv C dX4_rowOfDigits_32 (by decide) ?_
    refine L_istore_n C (i := 2) dX4_rowOfDigits_33 rfl (Nat.le_of_ble_eq_true rfl) ?_
    refine L_iload C dX4_rowOfDigits_34 rfl ?_
    refine L_aload_n C (i := 0) dX4_rowOfDigits_36 rfl rfl ?_
    refine L_getC C (c' := (c0 + 1)) dX4_rowOfDigits_37 h0 fl_X4_9 rfl rfl ?_
    refine L_iload C dX4_rowOfDigits_40 rfl ?_
    refine L_iald C dX4_rowOfDigits_42 (shd_3_1 h0) (ss3 p1) ?_
    refine L_icmp_ge C (tgt := 61) dX4_rowOfDigits_43 rfl (fun p3 => ?_) (fun p3 => ?_)
    · refine L_iload C dX4_rowOfDigits_61 rfl ?_
      refine L_bipush C (v := 9) dX4_rowOfDigits_63 rfl ?_
      refine L_icmp_eq C (tgt := 70) dX4_rowOfDigits_65 rfl (fun p4 => ?_) (fun p4 => ?_)
      · refine L_iinc C (v := (-1)) dX4_rowOfDigits_70 rfl rfl (Nat.le_of_ble_eq_true rfl) ?_
        refine L_goto C (tgt := 18) dX4_rowOfDigits_73 rfl ?_
        refine L_sub [0, 1, 2, 3] rfl ?_
        exact kk4 p1 p3 p4
      · refine L_iconst C (v := (-1)) dX4_rowOfDigits_68 rfl ?_
        exact L_irI C dX4_rowOfDigits_69 rfl (rr1 (Or.inr ⟨p1, p3, p4⟩))
    · refine L_iload_n C (i := 3) dX4_rowOfDigits_46 rfl rfl ?_
      refine L_iconst C (v := 1) dX4_rowOfDigits_47 rfl ?_
      refine L_iconst C (v := 4) dX4_rowOfDigits_48 rfl ?_
      refine L_iload C dX4_rowOfDigits_49 rfl ?_
      refine L_imul C dX4_rowOfDigits_51 ?_
      refine L_iload C dX4_rowOfDigits_52 rfl ?_
      refine L_iadd C dX4_rowOfDigits_54 ?_
      refine L_ishl C dX4_rowOfDigits_55 ?_
      refine L_ior C dX4_rowOfDigits_56 ?_
      refine L_istore_n C (i := 3) dX4_rowOfDigits_57 rfl (Nat.le_of_ble_eq_true rfl) ?_
      refine L_goto C (tgt := 70) dX4_rowOfDigits_58 rfl ?_
      refine L_iinc C (v := (-1)) dX4_rowOfDigits_70 rfl rfl (Nat.le_of_ble_eq_true rfl) ?_
      refine L_goto C (tgt := 18) dX4_rowOfDigits_73 rfl ?_
      refine L_sub [0, 1, 2, 3] rfl ?_
      exact kk5 p1 p3
set_option maxRecDepth 4000 in
theorem k_X11_rowBy_0 {G : mG} {E : mE} {Q : Int32 → mM → Prop} {μ : mM} (C : Cx G mX11_rowBy E) {x1 : Int32} (rr1 : (μ 15 0) ≤ 0 → Q (-1) μ) (cc2 : ¬ (μ 15 0) ≤ 0 → CtI G mX4_rowOfDigits [.ref (gb G + 15), .int x1] μ (fun r μ' => Wm G mX11_rowBy E (bm G mX11_rowBy E (pI Q)) μ' 18 [] [.int r])) : Wm G mX11_rowBy E (bm G mX11_rowBy E (pI Q)) μ 0 [(0, .ref (gb G + 0)), (1, .int x1)] [] := by
  refine L_aload_n C (i := 0) dX11_rowBy_0 rfl rfl ?_
  refine L_invV0i C dX11_rowBy_1 sh_0 cal_X11_hasPlan lk_X11_165 ⟨Nat.le_of_ble_eq_true rfl, Nat.le_of_ble_eq_true rfl⟩ ⟨Nat.le_of_ble_eq_true rfl, Nat.le_of_ble_eq_true rfl⟩ (Nat.le_of_ble_eq_true rfl) (a_X11_hasPlan (fun p1 => ?_) (fun p2 => ?_))
  · refine L_if_eq C (tgt := 21) dX11_rowBy_4 rfl (fun p3 => ?_) (fun p3 => absurd p3 (by decide))
    refine L_iconst C (v := (-1)) dX11_rowBy_21 rfl ?_
    exact L_irI C dX11_rowBy_22 rfl (rr1 p1)
  · refine L_if_eq C (tgt := 21) dX11_rowBy_4 rfl (fun p4 => absurd p4 (by decide)) (fun p4 => ?_)
    refine L_aload_n C (i := 0) dX11_rowBy_7 rfl rfl ?_
    refine L_getC C (c' := 14) dX11_rowBy_8 sh_0 fl_X11_26 rfl rfl ?_
    refine L_getC C (c' := 15) dX11_rowBy_11 sh_14 fl_X11_77 rfl rfl ?_
    refine L_iload_n C (i := 1) dX11_rowBy_14 rfl rfl ?_
    refine L_sub [] rfl ?_
    refine L_invV1i C dX11_rowBy_15 sh_15 cal_X4_rowOfDigits lk_X11_297 ⟨Nat.le_of_ble_eq_true rfl, Nat.le_of_ble_eq_true rfl⟩ ⟨Nat.le_of_ble_eq_true rfl, Nat.le_of_ble_eq_true rfl⟩ (Nat.le_of_ble_eq_true rfl) ?_
    exact cc2 p2
theorem e_X11_rowBy {G : mG} {Q : Int32 → mM → Prop} {μ : mM} {x1 : Int32} (k : ∀ E, Cx G mX11_rowBy E → Wm G mX11_rowBy E (bm G mX11_rowBy E (pI Q)) μ 0 [(0, .ref (gb G + 0)), (1, .int x1)] []) : CtI G mX11_rowBy [.ref (gb G + 0), .int x1] μ Q := CtI.of pn_X11 (Nat.le_of_ble_eq_true rfl) k
set_option maxRecDepth 4000 in
theorem k_X11_rowBy_18 {G : mG} {E : mE} {Q : Int32 → mM → Prop} {μ : mM} (C : Cx G mX11_rowBy E) {sx0 : Int32} (rr1 : Q sx0 μ) : Wm G mX11_rowBy E (bm G mX11_rowBy E (pI Q)) μ 18 [] [.int sx0] := by
  refine L_goto C (tgt := 22) dX11_rowBy_18 rfl ?_
  exact L_irI C dX11_rowBy_22 rfl (rr1)
set_option maxRecDepth 4000 in
theorem k_X7_copyFrom_0 {G : mG} {E : mE} {Q : mM → Prop} {μ : mM} (C : Cx G mX7_copyFrom E) {c0 : Nat} (h0 : sh c0 = (0, 6)) {c1 : Nat} (h1 : sh c1 = (0, 6)) (ss1 : cpyOk 0 0 ((ms μ c0 0 (μ c1 0)) c0 0) 64 64) (ss2 : cpyOk 0 0 ((cpy (ms μ c0 0 (μ c1 0)) (c1 + 1) (c0 + 1) 0 0 ((ms μ c0 0 (μ c1 0)) c0 0)) c0 0) 64 64) (rr3 : Q (cpy (cpy (ms μ c0 0 (μ c1 0)) (c1 + 1) (c0 + 1) 0 0 ((ms μ c0 0 (μ c1 0)) c0 0)) (c1 + 2) (c0 + 2) 0 0 ((cpy (ms μ c0 0 (μ c1 0)) (c1 + 1) (c0 + 1) 0 0 ((ms μ c0 0 (μ c1 0)) c0 0)) c0 0))) : Wm G mX7_copyFrom E (bm G mX7_copyFrom E (pV Q)) μ 0 [(0, .ref (gb G + c0)), (1, .ref (gb G + c1))] [] := by
  refine L_aload_n C (i := 0) dX7_copyFrom_0 rfl rfl ?_
  refine L_aload_n C (i := 1) dX7_copyFrom_1 rfl rfl ?_
  refine L_getI C dX7_copyFrom_2 h1 fl_X7_18 rfl ?_
  refine L_putI C dX7_copyFrom_5 h0 fl_X7_18 rfl rfl rfl ?_
  refine L_aload_n C (i := 1) dX7_copyFrom_8 rfl rfl ?_
  refine L_getC C (c' := (c1 + 1)) dX7_copyFrom_9 h1 fl_X7_9 rfl rfl ?_
  refine L_iconst C (v := 0) dX7_copyFrom_12 rfl ?_
  refine L_aload_n C (i := 0) dX7_copyFrom_13 rfl rfl ?_
  refine L_getC C (c' := (c0 + 1)) dX7_copyFrom_14 h0 fl_X7_9 rfl rfl ?_
  refine L_iconst C (v := 0) dX7_copyFrom_17 rfl ?_
  refine L_aload_n C (i := 0) dX7_copyFrom_18 rfl rfl ?_
  refine L_getI C dX7_copyFrom_19 h0 fl_X7_18 rfl ?_
  refine L_cpy C dX7_copyFrom_22 (shd_6_1 h1) (shd_6_1 h0) lk_X7_22 ac_nat ac_stat ac_ini (Nat.le_of_ble_eq_true rfl) (Nat.le_of_ble_eq_true rfl) (Nat.le_of_ble_eq_true rfl) (ss1) ?_
  refine L_aload_n C (i := 1) dX7_copyFrom_25 rfl rfl ?_
  refine L_getC C (c' := (c1 + 2)) dX7_copyFrom_26 h1 fl_X7_15 rfl rfl ?_
  refine L_iconst C (v := 0) dX7_copyFrom_29 rfl ?_
  refine L_aload_n C (i := 0) dX7_copyFrom_30 rfl rfl ?_
  refine L_getC C (c' := (c0 + 2)) dX7_copyFrom_31 h0 fl_X7_15 rfl rfl ?_
  refine L_iconst C (v := 0) dX7_copyFrom_34 rfl ?_
  refine L_aload_n C (i := 0) dX7_copyFrom_35 rfl rfl ?_
  refine L_getI C dX7_copyFrom_36 h0 fl_X7_18 rfl ?_
  refine L_cpy C dX7_copyFrom_39 (shd_6_2 h1) (shd_6_2 h0) lk_X7_22 ac_nat ac_stat ac_ini (Nat.le_of_ble_eq_true rfl) (Nat.le_of_ble_eq_true rfl) (Nat.le_of_ble_eq_true rfl) (ss2) ?_
  exact L_irV C dX7_copyFrom_42 rfl (rr3)
theorem a_X7_copyFrom {G : mG} {Q : mM → Prop} {μ : mM} {c0 : Nat} (h0 : sh c0 = (0, 6)) {c1 : Nat} (h1 : sh c1 = (0, 6)) (ss1 : cpyOk 0 0 ((ms μ c0 0 (μ c1 0)) c0 0) 64 64) (ss2 : cpyOk 0 0 ((cpy (ms μ c0 0 (μ c1 0)) (c1 + 1) (c0 + 1) 0 0 ((ms μ c0 0 (μ c1 0)) c0 0)) c0 0) 64 64) (rr3 : Q (cpy (cpy (ms μ c0 0 (μ c1 0)) (c1 + 1) (c0 + 1) 0 0 ((ms μ c0 0 (μ c1 0)) c0 0)) (c1 + 2) (c0 + 2) 0 0 ((cpy (ms μ c0 0 (μ c1 0)) (c1 + 1) (c0 + 1) 0 0 ((ms μ c0 0 (μ c1 0)) c0 0)) c0 0))) : CtV G mX7_copyFrom [.ref (gb G + c0), .ref (gb G + c1)] μ Q :=
  CtV.of pn_X7 (Nat.le_of_ble_eq_true rfl) (fun E C => k_X7_copyFrom_0 C h0 h1 ss1 ss2 rr3)
set_option maxRecDepth 4000 in
theorem k_X8_copyFrom_0 {G : mG} {E : mE} {Q : mM → Prop} {μ : mM} (C : Cx G mX8_copyFrom E) {c0 : Nat} (h0 : sh c0 = (0, 7)) {c1 : Nat} (h1 : sh c1 = (0, 7)) (cc1 : CtV G mX4_copyFrom [.ref (gb G + (c0 + 1)), .ref (gb G + (c1 + 1))] μ (fun μ' => Wm G mX8_copyFrom E (bm G mX8_copyFrom E (pV Q)) μ' 11 [(0, .ref (gb G + c0)), (1, .ref (gb G + c1))] [])) : Wm G mX8_copyFrom E (bm G mX8_copyFrom E (pV Q)) μ 0 [(0, .ref (gb G + c0)), (1, .ref (gb G + c1))] [] := by
  refine L_aload_n C (i := 0) dX8_copyFrom_0 rfl rfl ?_
  refine L_getC C (c' := (c0 + 1)) dX8_copyFrom_1 h0 fl_X8_10 rfl rfl ?_
  refine L_aload_n C (i := 1) dX8_copyFrom_4 rfl rfl ?_
  refine L_getC C (c' := (c1 + 1)) dX8_copyFrom_5 h1 fl_X8_10 rfl rfl ?_
  refine L_invV1v C dX8_copyFrom_8 (shd_7_1 h0) cal_X4_copyFrom lk_X8_23 ⟨Nat.le_of_ble_eq_true rfl, Nat.le_of_ble_eq_true rfl⟩ ⟨Nat.le_of_ble_eq_true rfl, Nat.le_of_ble_eq_true rfl⟩ (Nat.le_of_ble_eq_true rfl) ?_
  exact cc1
theorem e_X8_copyFrom {G : mG} {Q : mM → Prop} {μ : mM} {c0 : Nat} (h0 : sh c0 = (0, 7)) {c1 : Nat} (h1 : sh c1 = (0, 7)) (k : ∀ E, Cx G mX8_copyFrom E → Wm G mX8_copyFrom E (bm G mX8_copyFrom E (pV Q)) μ 0 [(0, .ref (gb G + c0)), (1, .ref (gb G + c1))] []) : CtV G mX8_copyFrom [.ref (gb G + c0), .ref (gb G + c1)] μ Q := CtV.of pn_X8 (Nat.le_of_ble_eq_true rfl) k
set_option maxRecDepth 4000 in
theorem k_X8_copyFrom_11 {G : mG} {E : mE} {Q : mM → Prop} {μ : mM} (C : Cx G mX8_copyFrom E) {c0 : Nat} (h0 : sh c0 = (0, 7)) {c1 : Nat} (h1 : sh c1 = (0, 7)) (cc1 : CtV G mX7_copyFrom [.ref (gb G + (c0 + 5)), .ref (gb G + (c1 + 5))] μ (fun μ' => Wm G mX8_copyFrom E (bm G mX8_copyFrom E (pV Q)) μ' 22 [(0, .ref (gb G + c0)), (1, .ref (gb G + c1))] [])) : Wm G mX8_copyFrom E (bm G mX8_copyFrom E (pV Q)) μ 11 [(0, .ref (gb G + c0)), (1, .ref (gb G + c1))] [] := by
  refine L_aload_n C (i := 0) dX8_copyFrom_11 rfl rfl ?_
  refine L_getC C (c' := (c0 + 5)) dX8_copyFrom_12 h0 fl_X8_19 rfl rfl ?_
  refine L_aload_n C (i := 1) dX8_copyFrom_15 rfl rfl ?_
  refine L_getC C (c' := (c1 + 5)) dX8_copyFrom_16 h1 fl_X8_19 rfl rfl ?_
  refine L_invV1v C dX8_copyFrom_19 (shd_7_5 h0) cal_X7_copyFrom lk_X8_27 ⟨Nat.le_of_ble_eq_true rfl, Nat.le_of_ble_eq_true rfl⟩ ⟨Nat.le_of_ble_eq_true rfl, Nat.le_of_ble_eq_true rfl⟩ (Nat.le_of_ble_eq_true rfl) ?_
  exact cc1
set_option maxRecDepth 4000 in
theorem k_X8_copyFrom_22 {G : mG} {E : mE} {Q : mM → Prop} {μ : mM} (C : Cx G mX8_copyFrom E) {c0 : Nat} (h0 : sh c0 = (0, 7)) {c1 : Nat} (h1 : sh c1 = (0, 7)) (rr1 : Q (ms μ c0 2 (μ c1 2))) : Wm G mX8_copyFrom E (bm G mX8_copyFrom E (pV Q)) μ 22 [(0, .ref (gb G + c0)), (1, .ref (gb G + c1))] [] := by
  refine L_aload_n C (i := 0) dX8_copyFrom_22 rfl rfl ?_
  refine L_aload_n C (i := 1) dX8_copyFrom_23 rfl rfl ?_
  refine L_getI C dX8_copyFrom_24 h1 fl_X8_30 rfl ?_
  refine L_putI C dX8_copyFrom_27 h0 fl_X8_30 rfl rfl rfl ?_
  exact L_irV C dX8_copyFrom_30 rfl (rr1)
set_option maxRecDepth 4000 in
theorem k_X11_remember_0 {G : mG} {E : mE} {Q : mM → Prop} {μ : mM} (C : Cx G mX11_remember E)  (ss1 : vp_in (μ 0 8) 8) (cc2 : CtV G mX8_copyFrom [.ref (gb G + (stO 50 + 8 * (μ 0 8).toNatClampNeg)), .ref (gb G + 14)] μ (fun μ' => Wm G mX11_remember E (bm G mX11_remember E (pV Q)) μ' 16 [(0, .ref (gb G + 0))] [])) : Wm G mX11_remember E (bm G mX11_remember E (pV Q)) μ 0 [(0, .ref (gb G + 0))] [] := by
  refine L_aload_n C (i := 0) dX11_remember_0 rfl rfl ?_
  refine L_getC C (c' := 50) dX11_remember_1 sh_0 fl_X11_58 rfl rfl ?_
  refine L_aload_n C (i := 0) dX11_remember_4 rfl rfl ?_
  refine L_getI C dX11_remember_5 sh_0 fl_X11_273 rfl ?_
  refine L_aald C dX11_remember_8 sh_50 (ss1) ?_
  refine L_aload_n C (i := 0) dX11_remember_9 rfl rfl ?_
  refine L_getC C (c' := 14) dX11_remember_10 sh_0 fl_X11_26 rfl rfl ?_
  refine L_invV1v C dX11_remember_13 (sh_past (vp_lt (ss1))) cal_X8_copyFrom lk_X11_280 ⟨Nat.le_of_ble_eq_true rfl, Nat.le_of_ble_eq_true rfl⟩ ⟨Nat.le_of_ble_eq_true rfl, Nat.le_of_ble_eq_true rfl⟩ (Nat.le_of_ble_eq_true rfl) ?_
  exact cc2
theorem e_X11_remember {G : mG} {Q : mM → Prop} {μ : mM}  (k : ∀ E, Cx G mX11_remember E → Wm G mX11_remember E (bm G mX11_remember E (pV Q)) μ 0 [(0, .ref (gb G + 0))] []) : CtV G mX11_remember [.ref (gb G + 0)] μ Q := CtV.of pn_X11 (Nat.le_of_ble_eq_true rfl) k
set_option maxRecDepth 4000 in
theorem k_X11_remember_16 {G : mG} {E : mE} {Q : mM → Prop} {μ : mM} (C : Cx G mX11_remember E)  (rr1 : Q (ms (ms μ 0 8 (((μ 0 8) + (1 : Int32)) - ((μ 0 8) + (1 : Int32)) / 8 * 8)) 0 9 (if 8 < ((μ 0 9) + (1 : Int32)) then 8 else ((μ 0 9) + (1 : Int32))))) : Wm G mX11_remember E (bm G mX11_remember E (pV Q)) μ 16 [(0, .ref (gb G + 0))] [] := by
  refine L_aload_n C (i := 0) dX11_remember_16 rfl rfl ?_
  refine L_aload_n C (i := 0) dX11_remember_17 rfl rfl ?_
  refine L_getI C dX11_remember_18 sh_0 fl_X11_273 rfl ?_
  refine L_iconst C (v := 1) dX11_remember_21 rfl ?_
  refine L_iadd C dX11_remember_22 ?_
  refine L_bipush C (v := 8) dX11_remember_23 rfl ?_
  refine L_irem C dX11_remember_25 (by decide) ?_
  refine L_putI C dX11_remember_26 sh_0 fl_X11_273 rfl rfl rfl ?_
  refine L_aload_n C (i := 0) dX11_remember_29 rfl rfl ?_
  refine L_aload_n C (i := 0) dX11_remember_30 rfl rfl ?_
  refine L_getI C dX11_remember_31 sh_0 fl_X11_97 rfl ?_
  refine L_iconst C (v := 1) dX11_remember_34 rfl ?_
  refine L_iadd C dX11_remember_35 ?_
  refine L_bipush C (v := 8) dX11_remember_36 rfl ?_
  refine L_min C dX11_remember_38 lk_X11_309 mmin_stat math_ini mmin_code (Nat.le_of_ble_eq_true rfl) (Nat.le_of_ble_eq_true rfl) (Nat.le_of_ble_eq_true rfl) ⟨Nat.le_of_ble_eq_true rfl, Nat.le_of_ble_eq_true rfl⟩ ?_
  refine L_putI C dX11_remember_41 sh_0 fl_X11_97 rfl rfl rfl ?_
  exact L_irV C dX11_remember_44 rfl (rr1)
set_option maxRecDepth 4000 in
theorem k_X7_append_0 {G : mG} {E : mE} {Q : mM → Prop} {μ : mM} (C : Cx G mX7_append E) {c0 : Nat} (h0 : sh c0 = (0, 6)) {x1 : Int32} (rr1 : 64 ≤ (μ c0 0) → Q μ) (ss2 : ¬ 64 ≤ (μ c0 0) → vp_in (μ c0 0) 64) (ss3 : ¬ 64 ≤ (μ c0 0) → vp_in ((ms μ (c0 + 1) (μ c0 0).toNatClampNeg x1) c0 0) 64) (rr4 : ¬ 64 ≤ (μ c0 0) → Q (ms (ms (ms μ (c0 + 1) (μ c0 0).toNatClampNeg x1) (c0 + 2) ((ms μ (c0 + 1) (μ c0 0).toNatClampNeg x1) c0 0).toNatClampNeg 0) c0 0 (((ms (ms μ (c0 + 1) (μ c0 0).toNatClampNeg x1) (c0 + 2) ((ms μ (c0 + 1) (μ c0 0).toNatClampNeg x1) c0 0).toNatClampNeg 0) c0 0) + (1 : Int32)))) : Wm G mX7_append E (bm G mX7_append E (pV Q)) μ 0 [(0, .ref (gb G + c0)), (1, .int x1)] [] := by
  refine L_aload_n C (i := 0) dX7_append_0 rfl rfl ?_
  refine L_getI C dX7_append_1 h0 fl_X7_18 rfl ?_
  refine L_bipush C (v := 64) dX7_append_4 rfl ?_
  refine L_icmp_ge C (tgt := 39) dX7_append_6 rfl (fun p1 => ?_) (fun p1 => ?_)
  · exact L_irV C dX7_append_39 rfl (rr1 p1)
  · refine L_aload_n C (i := 0) dX7_append_9 rfl rfl ?_
    refine L_getC C (c' := (c0 + 1)) dX7_append_10 h0 fl_X7_9 rfl rfl ?_
    refine L_aload_n C (i := 0) dX7_append_13 rfl rfl ?_
    refine L_getI C dX7_append_14 h0 fl_X7_18 rfl ?_
    refine L_iload_n C (i := 1) dX7_append_17 rfl rfl ?_
    refine L_iast C dX7_append_18 (shd_6_1 h0) (ss2 p1) ?_
    refine L_aload_n C (i := 0) dX7_append_19 rfl rfl ?_
    refine L_getC C (c' := (c0 + 2)) dX7_append_20 h0 fl_X7_15 rfl rfl ?_
    refine L_aload_n C (i := 0) dX7_append_23 rfl rfl ?_
    refine L_getI C dX7_append_24 h0 fl_X7_18 rfl ?_
    refine L_iconst C (v := 0) dX7_append_27 rfl ?_
    refine L_iast C dX7_append_28 (shd_6_2 h0) (ss3 p1) ?_
    refine L_aload_n C (i := 0) dX7_append_29 rfl rfl ?_
    refine L_dup C dX7_append_30 rfl ?_
    refine L_getI C dX7_append_31 h0 fl_X7_18 rfl ?_
    refine L_iconst C (v := 1) dX7_append_34 rfl ?_
    refine L_iadd C dX7_append_35 ?_
    refine L_putI C dX7_append_36 h0 fl_X7_18 rfl rfl rfl ?_
    exact L_irV C dX7_append_39 rfl (rr4 p1)
theorem a_X7_append {G : mG} {Q : mM → Prop} {μ : mM} {c0 : Nat} (h0 : sh c0 = (0, 6)) {x1 : Int32} (rr1 : 64 ≤ (μ c0 0) → Q μ) (ss2 : ¬ 64 ≤ (μ c0 0) → vp_in (μ c0 0) 64) (ss3 : ¬ 64 ≤ (μ c0 0) → vp_in ((ms μ (c0 + 1) (μ c0 0).toNatClampNeg x1) c0 0) 64) (rr4 : ¬ 64 ≤ (μ c0 0) → Q (ms (ms (ms μ (c0 + 1) (μ c0 0).toNatClampNeg x1) (c0 + 2) ((ms μ (c0 + 1) (μ c0 0).toNatClampNeg x1) c0 0).toNatClampNeg 0) c0 0 (((ms (ms μ (c0 + 1) (μ c0 0).toNatClampNeg x1) (c0 + 2) ((ms μ (c0 + 1) (μ c0 0).toNatClampNeg x1) c0 0).toNatClampNeg 0) c0 0) + (1 : Int32)))) : CtV G mX7_append [.ref (gb G + c0), .int x1] μ Q :=
  CtV.of pn_X7 (Nat.le_of_ble_eq_true rfl) (fun E C => k_X7_append_0 C h0 rr1 ss2 ss3 rr4)
set_option maxRecDepth 4000 in
theorem k_X11_append_0 {G : mG} {E : mE} {Q : mM → Prop} {μ : mM} (C : Cx G mX11_append E) {x1 : Int32} (cc1 : CtV G mX7_append [.ref (gb G + 19), .int x1] μ (fun μ' => Wm G mX11_append E (bm G mX11_append E (pV Q)) μ' 11 [(0, .ref (gb G + 0)), (1, .int x1)] [])) : Wm G mX11_append E (bm G mX11_append E (pV Q)) μ 0 [(0, .ref (gb G + 0)), (1, .int x1)] [] := by
  refine L_aload_n C (i := 0) dX11_append_0 rfl rfl ?_
  refine L_getC C (c' := 14) dX11_append_1 sh_0 fl_X11_26 rfl rfl ?_
  refine L_getC C (c' := 19) dX11_append_4 sh_14 fl_X11_90 rfl rfl ?_
  refine L_iload_n C (i := 1) dX11_append_7 rfl rfl ?_
  refine L_invV1v C dX11_append_8 sh_19 cal_X7_append lk_X11_203 ⟨Nat.le_of_ble_eq_true rfl, Nat.le_of_ble_eq_true rfl⟩ ⟨Nat.le_of_ble_eq_true rfl, Nat.le_of_ble_eq_true rfl⟩ (Nat.le_of_ble_eq_true rfl) ?_
  exact cc1
theorem e_X11_append {G : mG} {Q : mM → Prop} {μ : mM} {x1 : Int32} (k : ∀ E, Cx G mX11_append E → Wm G mX11_append E (bm G mX11_append E (pV Q)) μ 0 [(0, .ref (gb G + 0)), (1, .int x1)] []) : CtV G mX11_append [.ref (gb G + 0), .int x1] μ Q := CtV.of pn_X11 (Nat.le_of_ble_eq_true rfl) k
set_option maxRecDepth 4000 in
theorem k_X11_append_11 {G : mG} {E : mE} {Q : mM → Prop} {μ : mM} (C : Cx G mX11_append E) {x1 : Int32} (cc1 : CtV G mX2_change [.ref (gb G + 22), .int 0, .int x1] μ (fun μ' => Wm G mX11_append E (bm G mX11_append E (pV Q)) μ' 20 [] [])) : Wm G mX11_append E (bm G mX11_append E (pV Q)) μ 11 [(0, .ref (gb G + 0)), (1, .int x1)] [] := by
  refine L_aload_n C (i := 0) dX11_append_11 rfl rfl ?_
  refine L_getC C (c' := 22) dX11_append_12 sh_0 fl_X11_33 rfl rfl ?_
  refine L_iconst C (v := 0) dX11_append_15 rfl ?_
  refine L_iload_n C (i := 1) dX11_append_16 rfl rfl ?_
  refine L_sub [] rfl ?_
  refine L_invV2v C dX11_append_17 sh_22 cal_X2_change lk_X11_158 ⟨Nat.le_of_ble_eq_true rfl, Nat.le_of_ble_eq_true rfl⟩ ⟨Nat.le_of_ble_eq_true rfl, Nat.le_of_ble_eq_true rfl⟩ (Nat.le_of_ble_eq_true rfl) ?_
  exact cc1
set_option maxRecDepth 4000 in
theorem k_X11_append_20 {G : mG} {E : mE} {Q : mM → Prop} {μ : mM} (C : Cx G mX11_append E)  (rr1 : Q μ) : Wm G mX11_append E (bm G mX11_append E (pV Q)) μ 20 [] [] := by
  exact L_irV C dX11_append_20 rfl (rr1)
set_option maxRecDepth 4000 in
theorem k_X11_add_0 {G : mG} {E : mE} {Q : Int32 → mM → Prop} {μ : mM} (C : Cx G mX11_add E) {x1 : Int32} (cc1 : CtI G mX11_rowBy [.ref (gb G + 0), .int x1] μ (fun r μ' => Wm G mX11_add E (bm G mX11_add E (pI Q)) μ' 5 [(0, .ref (gb G + 0))] [.int r])) : Wm G mX11_add E (bm G mX11_add E (pI Q)) μ 0 [(0, .ref (gb G + 0)), (1, .int x1)] [] := by
  refine L_aload_n C (i := 0) dX11_add_0 rfl rfl ?_
  refine L_iload_n C (i := 1) dX11_add_1 rfl rfl ?_
  refine L_sub [0] rfl ?_
  refine L_invV1i C dX11_add_2 sh_0 cal_X11_rowBy lk_X11_137 ⟨Nat.le_of_ble_eq_true rfl, Nat.le_of_ble_eq_true rfl⟩ ⟨Nat.le_of_ble_eq_true rfl, Nat.le_of_ble_eq_true rfl⟩ (Nat.le_of_ble_eq_true rfl) ?_
  exact cc1
theorem e_X11_add {G : mG} {Q : Int32 → mM → Prop} {μ : mM} {x1 : Int32} (k : ∀ E, Cx G mX11_add E → Wm G mX11_add E (bm G mX11_add E (pI Q)) μ 0 [(0, .ref (gb G + 0)), (1, .int x1)] []) : CtI G mX11_add [.ref (gb G + 0), .int x1] μ Q := CtI.of pn_X11 (Nat.le_of_ble_eq_true rfl) k
set_option maxRecDepth 4000 in
theorem k_X11_add_5 {G : mG} {E : mE} {Q : Int32 → mM → Prop} {μ : mM} (C : Cx G mX11_add E) {sx0 : Int32} (rr1 : (sx0 = (-1) ∨ (¬ sx0 = (-1) ∧ ¬ (μ 19 0) < 64)) → Q (-1) μ) (cc2 : ¬ sx0 = (-1) → (μ 19 0) < 64 → CtI G mX4_allows [.ref (gb G + 15), .int sx0] μ (fun r μ' => Wm G mX11_add E (bm G mX11_add E (pI Q)) μ' 39 [(0, .ref (gb G + 0)), (2, .int sx0)] [.int r])) : Wm G mX11_add E (bm G mX11_add E (pI Q)) μ 5 [(0, .ref (gb G + 0))] [.int sx0] := by
  refine L_istore_n C (i := 2) dX11_add_5 rfl (Nat.le_of_ble_eq_true rfl) ?_
  refine L_iload_n C (i := 2) dX11_add_6 rfl rfl ?_
  refine L_iconst C (v := (-1)) dX11_add_7 rfl ?_
  refine L_icmp_eq C (tgt := 26) dX11_add_8 rfl (fun p1 => ?_) (fun p1 => ?_)
  · refine L_iconst C (v := (-1)) dX11_add_26 rfl ?_
    exact L_irI C dX11_add_27 rfl (rr1 (Or.inl p1))
  · refine L_aload_n C (i := 0) dX11_add_11 rfl rfl ?_
    refine L_getC C (c' := 14) dX11_add_12 sh_0 fl_X11_26 rfl rfl ?_
    refine L_getC C (c' := 19) dX11_add_15 sh_14 fl_X11_90 rfl rfl ?_
    refine L_getI C dX11_add_18 sh_19 fl_X11_94 rfl ?_
    refine L_bipush C (v := 64) dX11_add_21 rfl ?_
    refine L_icmp_lt C (tgt := 28) dX11_add_23 rfl (fun p2 => ?_) (fun p2 => ?_)
    · refine L_aload_n C (i := 0) dX11_add_28 rfl rfl ?_
      refine L_getC C (c' := 14) dX11_add_29 sh_0 fl_X11_26 rfl rfl ?_
      refine L_getC C (c' := 15) dX11_add_32 sh_14 fl_X11_77 rfl rfl ?_
      refine L_iload_n C (i := 2) dX11_add_35 rfl rfl ?_
      refine L_invV1i C dX11_add_36 sh_15 cal_X4_allows lk_X11_140 ⟨Nat.le_of_ble_eq_true rfl, Nat.le_of_ble_eq_true rfl⟩ ⟨Nat.le_of_ble_eq_true rfl, Nat.le_of_ble_eq_true rfl⟩ (Nat.le_of_ble_eq_true rfl) ?_
      exact cc2 p1 p2
    · refine L_iconst C (v := (-1)) dX11_add_26 rfl ?_
      exact L_irI C dX11_add_27 rfl (rr1 (Or.inr ⟨p1, p2⟩))
set_option maxRecDepth 4000 in
theorem k_X11_add_39 {G : mG} {E : mE} {Q : Int32 → mM → Prop} {μ : mM} (C : Cx G mX11_add E) {x2 : Int32} {sx0 : Int32} (cc1 : ¬ sx0 = 0 → CtV G mX11_remember [.ref (gb G + 0)] μ (fun μ' => Wm G mX11_add E (bm G mX11_add E (pI Q)) μ' 49 [(0, .ref (gb G + 0)), (2, .int x2)] [])) (rr2 : sx0 = 0 → Q (-2) μ) : Wm G mX11_add E (bm G mX11_add E (pI Q)) μ 39 [(0, .ref (gb G + 0)), (2, .int x2)] [.int sx0] := by
  refine L_if_ne C (tgt := 45) dX11_add_39 rfl (fun p1 => ?_) (fun p1 => ?_)
  · refine L_aload_n C (i := 0) dX11_add_45 rfl rfl ?_
    refine L_invV0v C dX11_add_46 sh_0 cal_X11_remember lk_X11_143 ⟨Nat.le_of_ble_eq_true rfl, Nat.le_of_ble_eq_true rfl⟩ ⟨Nat.le_of_ble_eq_true rfl, Nat.le_of_ble_eq_true rfl⟩ (Nat.le_of_ble_eq_true rfl) ?_
    exact cc1 p1
  · refine L_bipush C (v := (-2)) dX11_add_42 rfl ?_
    exact L_irI C dX11_add_44 rfl (rr2 p1)
set_option maxRecDepth 4000 in
theorem k_X11_add_49 {G : mG} {E : mE} {Q : Int32 → mM → Prop} {μ : mM} (C : Cx G mX11_add E) {x2 : Int32} (cc1 : CtV G mX11_append [.ref (gb G + 0), .int x2] μ (fun μ' => Wm G mX11_add E (bm G mX11_add E (pI Q)) μ' 54 [(0, .ref (gb G + 0))] [])) : Wm G mX11_add E (bm G mX11_add E (pI Q)) μ 49 [(0, .ref (gb G + 0)), (2, .int x2)] [] := by
  refine L_aload_n C (i := 0) dX11_add_49 rfl rfl ?_
  refine L_iload_n C (i := 2) dX11_add_50 rfl rfl ?_
  refine L_sub [0] rfl ?_
  refine L_invV1v C dX11_add_51 sh_0 cal_X11_append lk_X11_146 ⟨Nat.le_of_ble_eq_true rfl, Nat.le_of_ble_eq_true rfl⟩ ⟨Nat.le_of_ble_eq_true rfl, Nat.le_of_ble_eq_true rfl⟩ (Nat.le_of_ble_eq_true rfl) ?_
  exact cc1
set_option maxRecDepth 4000 in
theorem k_X11_add_54 {G : mG} {E : mE} {Q : Int32 → mM → Prop} {μ : mM} (C : Cx G mX11_add E)  (rr1 : Q (μ 19 0) μ) : Wm G mX11_add E (bm G mX11_add E (pI Q)) μ 54 [(0, .ref (gb G + 0))] [] := by
  refine L_aload_n C (i := 0) dX11_add_54 rfl rfl ?_
  refine L_getC C (c' := 14) dX11_add_55 sh_0 fl_X11_26 rfl rfl ?_
  refine L_getC C (c' := 19) dX11_add_58 sh_14 fl_X11_90 rfl rfl ?_
  refine L_getI C dX11_add_61 sh_19 fl_X11_94 rfl ?_
  exact L_irI C dX11_add_64 rfl (rr1)
set_option maxRecDepth 4000 in
theorem k_X11_isRow_0 {G : mG} {E : mE} {Q : Int32 → mM → Prop} {μ : mM} (C : Cx G mX11_isRow E) {x1 : Int32} (rr1 : (x1 < 0 ∨ (¬ x1 < 0 ∧ (μ 19 0) ≤ x1)) → Q 0 μ) (rr2 : ¬ x1 < 0 → ¬ (μ 19 0) ≤ x1 → Q 1 μ) : Wm G mX11_isRow E (bm G mX11_isRow E (pI Q)) μ 0 [(0, .ref (gb G + 0)), (1, .int x1)] [] := by
  refine L_iload_n C (i := 1) dX11_isRow_0 rfl rfl ?_
  refine L_if_lt C (tgt := 22) dX11_isRow_1 rfl (fun p1 => ?_) (fun p1 => ?_)
  · refine L_iconst C (v := 0) dX11_isRow_22 rfl ?_
    exact L_irZ C dX11_isRow_23 rfl (by decide) (rr1 (Or.inl p1))
  · refine L_iload_n C (i := 1) dX11_isRow_4 rfl rfl ?_
    refine L_aload_n C (i := 0) dX11_isRow_5 rfl rfl ?_
    refine L_getC C (c' := 14) dX11_isRow_6 sh_0 fl_X11_26 rfl rfl ?_
    refine L_getC C (c' := 19) dX11_isRow_9 sh_14 fl_X11_90 rfl rfl ?_
    refine L_getI C dX11_isRow_12 sh_19 fl_X11_94 rfl ?_
    refine L_icmp_ge C (tgt := 22) dX11_isRow_15 rfl (fun p2 => ?_) (fun p2 => ?_)
    · refine L_iconst C (v := 0) dX11_isRow_22 rfl ?_
      exact L_irZ C dX11_isRow_23 rfl (by decide) (rr1 (Or.inr ⟨p1, p2⟩))
    · refine L_iconst C (v := 1) dX11_isRow_18 rfl ?_
      refine L_goto C (tgt := 23) dX11_isRow_19 rfl ?_
      exact L_irZ C dX11_isRow_23 rfl (by decide) (rr2 p1 p2)
theorem a_X11_isRow {G : mG} {Q : Int32 → mM → Prop} {μ : mM} {x1 : Int32} (rr1 : (x1 < 0 ∨ (¬ x1 < 0 ∧ (μ 19 0) ≤ x1)) → Q 0 μ) (rr2 : ¬ x1 < 0 → ¬ (μ 19 0) ≤ x1 → Q 1 μ) : CtI G mX11_isRow [.ref (gb G + 0), .int x1] μ Q :=
  CtI.of pn_X11 (Nat.le_of_ble_eq_true rfl) (fun E C => k_X11_isRow_0 C rr1 rr2)
set_option maxRecDepth 4000 in
theorem k_X11_tell_0 {G : mG} {E : mE} {Q : Int32 → mM → Prop} {μ : mM} (C : Cx G mX11_tell E) {x1 : Int32} {x2 : Int32} {x3 : Int32} (rr1 : ((x1 < 0 ∨ (¬ x1 < 0 ∧ (μ 19 0) ≤ x1)) ∨ (¬ x1 < 0 ∧ ¬ (μ 19 0) ≤ x1 ∧ ((x2 < 0 ∨ (¬ x2 < 0 ∧ (μ 15 0) ≤ x2)) ∨ (¬ x2 < 0 ∧ ¬ (μ 15 0) ≤ x2 ∧ (x3 < (-1) ∨ (¬ x3 < (-1) ∧ ¬ x3 < (μ 16 x2.toNatClampNeg))))))) → Q (-4) μ) (ss2 : ¬ x1 < 0 → ¬ (μ 19 0) ≤ x1 → ¬ x2 < 0 → ¬ (μ 15 0) ≤ x2 → ¬ x3 < (-1) → vp_in x2 8) (ss3 : ¬ x1 < 0 → ¬ (μ 19 0) ≤ x1 → ¬ x2 < 0 → ¬ (μ 15 0) ≤ x2 → ¬ x3 < (-1) → x3 < (μ 16 x2.toNatClampNeg) → vp_in x1 64) (kk4 : ¬ x1 < 0 → ¬ (μ 19 0) ≤ x1 → ¬ x2 < 0 → ¬ (μ 15 0) ≤ x2 → ¬ x3 < (-1) → x3 < (μ 16 x2.toNatClampNeg) → ¬ ((iush (μ 20 x1.toNatClampNeg) ((4 : Int32) * x2)) &&& (15 : Int32)) = 0 → ¬ ((((iush (μ 20 x1.toNatClampNeg) ((4 : Int32) * x2)) &&& (15 : Int32)) >>> ((1 : Int32) &&& 31)) - (((iush (μ 20 x1.toNatClampNeg) ((4 : Int32) * x2)) &&& (15 : Int32)) >>> ((3 : Int32) &&& 31))) = x3 → ∀ v1 : Int32, ((x3 = (-1) ∧ v1 = ((μ 20 x1.toNatClampNeg) &&& (((15 : Int32) <<< (((4 : Int32) * x2) &&& 31)) ^^^ ((-1) : Int32)))) ∨ (¬ x3 = (-1) ∧ v1 = (((μ 20 x1.toNatClampNeg) &&& (((15 : Int32) <<< (((4 : Int32) * x2) &&& 31)) ^^^ ((-1) : Int32))) ||| ((1 : Int32) <<< ((((4 : Int32) * x2) + x3) &&& 31))))) → Wm G mX11_tell E (bm G mX11_tell E (pI Q)) μ 101 [(0, .ref (gb G + 0)), (1, .int x1), (4, .int (μ 20 x1.toNatClampNeg)), (5, .int ((((iush (μ 20 x1.toNatClampNeg) ((4 : Int32) * x2)) &&& (15 : Int32)) >>> ((1 : Int32) &&& 31)) - (((iush (μ 20 x1.toNatClampNeg) ((4 : Int32) * x2)) &&& (15 : Int32)) >>> ((3 : Int32) &&& 31)))), (6, .int v1)] []) (rr5 : ¬ x1 < 0 → ¬ (μ 19 0) ≤ x1 → ¬ x2 < 0 → ¬ (μ 15 0) ≤ x2 → ¬ x3 < (-1) → x3 < (μ 16 x2.toNatClampNeg) → ((¬ ((iush (μ 20 x1.toNatClampNeg) ((4 : Int32) * x2)) &&& (15 : Int32)) = 0 ∧ ((((iush (μ 20 x1.toNatClampNeg) ((4 : Int32) * x2)) &&& (15 : Int32)) >>> ((1 : Int32) &&& 31)) - (((iush (μ 20 x1.toNatClampNeg) ((4 : Int32) * x2)) &&& (15 : Int32)) >>> ((3 : Int32) &&& 31))) = x3) ∨ (((iush (μ 20 x1.toNatClampNeg) ((4 : Int32) * x2)) &&& (15 : Int32)) = 0 ∧ (-1) = x3)) → Q (-3) μ) (kk6 : ¬ x1 < 0 → ¬ (μ 19 0) ≤ x1 → ¬ x2 < 0 → ¬ (μ 15 0) ≤ x2 → ¬ x3 < (-1) → x3 < (μ 16 x2.toNatClampNeg) → ((iush (μ 20 x1.toNatClampNeg) ((4 : Int32) * x2)) &&& (15 : Int32)) = 0 → ¬ (-1) = x3 → ∀ v2 : Int32, ((x3 = (-1) ∧ v2 = ((μ 20 x1.toNatClampNeg) &&& (((15 : Int32) <<< (((4 : Int32) * x2) &&& 31)) ^^^ ((-1) : Int32)))) ∨ (¬ x3 = (-1) ∧ v2 = (((μ 20 x1.toNatClampNeg) &&& (((15 : Int32) <<< (((4 : Int32) * x2) &&& 31)) ^^^ ((-1) : Int32))) ||| ((1 : Int32) <<< ((((4 : Int32) * x2) + x3) &&& 31))))) → Wm G mX11_tell E (bm G mX11_tell E (pI Q)) μ 101 [(0, .ref (gb G + 0)), (1, .int x1), (4, .int (μ 20 x1.toNatClampNeg)), (5, .int (-1)), (6, .int v2)] []) : Wm G mX11_tell E (bm G mX11_tell E (pI Q)) μ 0 [(0, .ref (gb G + 0)), (1, .int x1), (2, .int x2), (3, .int x3)] [] := by
  refine L_aload_n C (i := 0) dX11_tell_0 rfl rfl ?_
  refine L_iload_n C (i := 1) dX11_tell_1 rfl rfl ?_
  refine L_invV1i C dX11_tell_2 sh_0 cal_X11_isRow lk_X11_149 ⟨Nat.le_of_ble_eq_true rfl, Nat.le_of_ble_eq_true rfl⟩ ⟨Nat.le_of_ble_eq_true rfl, Nat.le_of_ble_eq_true rfl⟩ (Nat.le_of_ble_eq_true rfl) (a_X11_isRow (fun p1 => ?_) (fun p2 p3 => ?_))
  · refine L_if_eq C (tgt := 37) dX11_tell_5 rfl (fun p4 => ?_) (fun p4 => absurd p4 (by decide))
    refine L_bipush C (v := (-4)) dX11_tell_37 rfl ?_
    exact L_irI C dX11_tell_39 rfl (rr1 (Or.inl p1))
  · refine L_if_eq C (tgt := 37) dX11_tell_5 rfl (fun p5 => absurd p5 (by decide)) (fun p5 => ?_)
    refine L_aload_n C (i := 0) dX11_tell_8 rfl rfl ?_
    refine L_iload_n C (i := 2) dX11_tell_9 rfl rfl ?_
    refine L_invV1i C dX11_tell_10 sh_0 cal_X11_isColumn lk_X11_106 ⟨Nat.le_of_ble_eq_true rfl, Nat.le_of_ble_eq_true rfl⟩ ⟨Nat.le_of_ble_eq_true rfl, Nat.le_of_ble_eq_true rfl⟩ (Nat.le_of_ble_eq_true rfl) (a_X11_isColumn (fun p6 => ?_) (fun p7 p8 => ?_))
    · refine L_if_eq C (tgt := 37) dX11_tell_13 rfl (fun p9 => ?_) (fun p9 => absurd p9 (by decide))
      refine L_bipush C (v := (-4)) dX11_tell_37 rfl ?_
      exact L_irI C dX11_tell_39 rfl (rr1 (Or.inr ⟨p2, p3, (Or.inl p6)⟩))
    · refine L_if_eq C (tgt := 37) dX11_tell_13 rfl (fun p10 => absurd p10 (by decide)) (fun p10 => ?_)
      refine L_iload_n C (i := 3) dX11_tell_16 rfl rfl ?_
      refine L_iconst C (v := (-1)) dX11_tell_17 rfl ?_
      refine L_icmp_lt C (tgt := 37) dX11_tell_18 rfl (fun p11 => ?_) (fun p11 => ?_)
      · refine L_bipush C (v := (-4)) dX11_tell_37 rfl ?_
        exact L_irI C dX11_tell_39 rfl (rr1 (Or.inr ⟨p2, p3, (Or.inr ⟨p7, p8, (Or.inl p11)⟩)⟩))
      · refine L_iload_n C (i := 3) dX11_tell_21 rfl rfl ?_
        refine L_aload_n C (i := 0) dX11_tell_22 rfl rfl ?_
        refine L_getC C (c' := 14) dX11_tell_23 sh_0 fl_X11_26 rfl rfl ?_
        refine L_getC C (c' := 15) dX11_tell_26 sh_14 fl_X11_77 rfl rfl ?_
        refine L_getC C (c' := 16) dX11_tell_29 sh_15 fl_X11_110 rfl rfl ?_
        refine L_iload_n C (i := 2) dX11_tell_32 rfl rfl ?_
        refine L_iald C dX11_tell_33 sh_16 (ss2 p2 p3 p7 p8 p11) ?_
        refine L_icmp_lt C (tgt := 40) dX11_tell_34 rfl (fun p12 => ?_) (fun p12 => ?_)
        · refine L_aload_n C (i := 0) dX11_tell_40 rfl rfl ?_
          refine L_getC C (c' := 14) dX11_tell_41 sh_0 fl_X11_26 rfl rfl ?_
          refine L_getC C (c' := 19) dX11_tell_44 sh_14 fl_X11_90 rfl rfl ?_
          refine L_getC C (c' := 20) dX11_tell_47 sh_19 fl_X11_152 rfl rfl ?_
          refine L_iload_n C (i := 1) dX11_tell_50 rfl rfl ?_
          refine L_iald C dX11_tell_51 sh_20 (ss3 p2 p3 p7 p8 p11 p12) ?_
          refine L_istore C dX11_tell_52 (Nat.le_of_ble_eq_true rfl) ?_
          refine L_iload C dX11_tell_54 rfl ?_
          refine L_iload_n C (i := 2) dX11_tell_56 rfl rfl ?_
          refine L_invS2i C dX11_tell_57 cal_X11_levelIn stc_X11_levelIn lk_X11_155 ⟨Nat.le_of_ble_eq_true rfl, Nat.le_of_ble_eq_true rfl⟩ ⟨Nat.le_of_ble_eq_true rfl, Nat.le_of_ble_eq_true rfl⟩ (Nat.le_of_ble_eq_true rfl) (a_X11_levelIn (fun p13 => ?_) (fun p14 => ?_))
          · refine L_istore C dX11_tell_60 (Nat.le_of_ble_eq_true rfl) ?_
            refine L_iload C dX11_tell_62 rfl ?_
            refine L_iload_n C (i := 3) dX11_tell_64 rfl rfl ?_
            refine L_icmp_ne C (tgt := 71) dX11_tell_65 rfl (fun p15 => ?_) (fun p15 => ?_)
            · refine L_iload C dX11_tell_71 rfl ?_
              refine L_bipush C (v := 15) dX11_tell_73 rfl ?_
              refine L_iconst C (v := 4) dX11_tell_75 rfl ?_
              refine L_iload_n C (i := 2) dX11_tell_76 rfl rfl ?_
              refine L_imul C dX11_tell_77 ?_
              refine L_ishl C dX11_tell_78 ?_
              refine L_iconst C (v := (-1)) dX11_tell_79 rfl ?_
              refine L_ixor C dX11_tell_80 ?_
              refine L_iand C dX11_tell_81 ?_
              refine L_istore C dX11_tell_82 (Nat.le_of_ble_eq_true rfl) ?_
              refine L_iload_n C (i := 3) dX11_tell_84 rfl rfl ?_
              refine L_iconst C (v := (-1)) dX11_tell_85 rfl ?_
              refine phi (fun v1 : Int32 => Wm G mX11_tell E (bm G mX11_tell E (pI Q)) μ 101 [(0, .ref (gb G + 0)), (1, .int x1), (4, .int (μ 20 x1.toNatClampNeg)), (5, .int ((((iush (μ 20 x1.toNatClampNeg) ((4 : Int32) * x2)) &&& (15 : Int32)) >>> ((1 : Int32) &&& 31)) - (((iush (μ 20 x1.toNatClampNeg) ((4 : Int32) * x2)) &&& (15 : Int32)) >>> ((3 : Int32) &&& 31)))), (6, .int v1)] []) (fun v1 : Int32 => (x3 = (-1) ∧ v1 = ((μ 20 x1.toNatClampNeg) &&& (((15 : Int32) <<< (((4 : Int32) * x2) &&& 31)) ^^^ ((-1) : Int32)))) ∨ (¬ x3 = (-1) ∧ v1 = (((μ 20 x1.toNatClampNeg) &&& (((15 : Int32) <<< (((4 : Int32) * x2) &&& 31)) ^^^ ((-1) : Int32))) ||| ((1 : Int32) <<< ((((4 : Int32) * x2) + x3) &&& 31))))) (fun H => ?_) (fun v1 hv1 => ?_)
              · refine L_icmp_eq C (tgt := 101) dX11_tell_86 rfl (fun p16 => ?_) (fun p16 => ?_)
                · refine L_sub [0, 1, 4, 5, 6] rfl ?_
                  exact H _ (Or.inl ⟨p16, rfl⟩)
                · refine L_iload C dX11_tell_89 rfl ?_
                  refine L_iconst C (v := 1) dX11_tell_91 rfl ?_
                  refine L_iconst C (v := 4) dX11_tell_92 rfl ?_
                  refine L_iload_n C (i := 2) dX11_tell_93 rfl rfl ?_
                  refine L_imul C dX11_tell_94 ?_
                  refine L_iload_n C (i := 3) dX11_tell_95 rfl rfl ?_
                  refine L_iadd C dX11_tell_96 ?_
                  refine L_ishl C dX11_tell_97 ?_
                  refine L_ior C dX11_tell_98 ?_
                  refine L_istore C dX11_tell_99 (Nat.le_of_ble_eq_true rfl) ?_
                  refine L_sub [0, 1, 4, 5, 6] rfl ?_
                  exact H _ (Or.inr ⟨p16, rfl⟩)
              exact kk4 p2 p3 p7 p8 p11 p12 p13 p15 v1 hv1
            · refine L_bipush C (v := (-3)) dX11_tell_68 rfl ?_
              exact L_irI C dX11_tell_70 rfl (rr5 p2 p3 p7 p8 p11 p12 (Or.inl ⟨p13, p15⟩))
          · refine L_istore C dX11_tell_60 (Nat.le_of_ble_eq_true rfl) ?_
            refine L_iload C dX11_tell_62 rfl ?_
            refine L_iload_n C (i := 3) dX11_tell_64 rfl rfl ?_
            refine L_icmp_ne C (tgt := 71) dX11_tell_65 rfl (fun p17 => ?_) (fun p17 => ?_)
            · refine L_iload C dX11_tell_71 rfl ?_
              refine L_bipush C (v := 15) dX11_tell_73 rfl ?_
              refine L_iconst C (v := 4) dX11_tell_75 rfl ?_
              refine L_iload_n C (i := 2) dX11_tell_76 rfl rfl ?_
              refine L_imul C dX11_tell_77 ?_
              refine L_ishl C dX11_tell_78 ?_
              refine L_iconst C (v := (-1)) dX11_tell_79 rfl ?_
              refine L_ixor C dX11_tell_80 ?_
              refine L_iand C dX11_tell_81 ?_
              refine L_istore C dX11_tell_82 (Nat.le_of_ble_eq_true rfl) ?_
              refine L_iload_n C (i := 3) dX11_tell_84 rfl rfl ?_
              refine L_iconst C (v := (-1)) dX11_tell_85 rfl ?_
              refine phi (fun v2 : Int32 => Wm G mX11_tell E (bm G mX11_tell E (pI Q)) μ 101 [(0, .ref (gb G + 0)), (1, .int x1), (4, .int (μ 20 x1.toNatClampNeg)), (5, .int (-1)), (6, .int v2)] []) (fun v2 : Int32 => (x3 = (-1) ∧ v2 = ((μ 20 x1.toNatClampNeg) &&& (((15 : Int32) <<< (((4 : Int32) * x2) &&& 31)) ^^^ ((-1) : Int32)))) ∨ (¬ x3 = (-1) ∧ v2 = (((μ 20 x1.toNatClampNeg) &&& (((15 : Int32) <<< (((4 : Int32) * x2) &&& 31)) ^^^ ((-1) : Int32))) ||| ((1 : Int32) <<< ((((4 : Int32) * x2) + x3) &&& 31))))) (fun H => ?_) (fun v2 hv2 => ?_)
              · refine L_icmp_eq C (tgt := 101) dX11_tell_86 rfl (fun p18 => ?_) (fun p18 => ?_)
                · refine L_sub [0, 1, 4, 5, 6] rfl ?_
                  exact H _ (Or.inl ⟨p18, rfl⟩)
                · refine L_iload C dX11_tell_89 rfl ?_
                  refine L_iconst C (v := 1) dX11_tell_91 rfl ?_
                  refine L_iconst C (v := 4) dX11_tell_92 rfl ?_
                  refine L_iload_n C (i := 2) dX11_tell_93 rfl rfl ?_
                  refine L_imul C dX11_tell_94 ?_
                  refine L_iload_n C (i := 3) dX11_tell_95 rfl rfl ?_
                  refine L_iadd C dX11_tell_96 ?_
                  refine L_ishl C dX11_tell_97 ?_
                  refine L_ior C dX11_tell_98 ?_
                  refine L_istore C dX11_tell_99 (Nat.le_of_ble_eq_true rfl) ?_
                  refine L_sub [0, 1, 4, 5, 6] rfl ?_
                  exact H _ (Or.inr ⟨p18, rfl⟩)
              exact kk6 p2 p3 p7 p8 p11 p12 p14 p17 v2 hv2
            · refine L_bipush C (v := (-3)) dX11_tell_68 rfl ?_
              exact L_irI C dX11_tell_70 rfl (rr5 p2 p3 p7 p8 p11 p12 (Or.inr ⟨p14, p17⟩))
        · refine L_bipush C (v := (-4)) dX11_tell_37 rfl ?_
          exact L_irI C dX11_tell_39 rfl (rr1 (Or.inr ⟨p2, p3, (Or.inr ⟨p7, p8, (Or.inr ⟨p11, p12⟩)⟩)⟩))
theorem e_X11_tell {G : mG} {Q : Int32 → mM → Prop} {μ : mM} {x1 : Int32} {x2 : Int32} {x3 : Int32} (k : ∀ E, Cx G mX11_tell E → Wm G mX11_tell E (bm G mX11_tell E (pI Q)) μ 0 [(0, .ref (gb G + 0)), (1, .int x1), (2, .int x2), (3, .int x3)] []) : CtI G mX11_tell [.ref (gb G + 0), .int x1, .int x2, .int x3] μ Q := CtI.of pn_X11 (Nat.le_of_ble_eq_true rfl) k
set_option maxRecDepth 4000 in
theorem k_X11_tell_101 {G : mG} {E : mE} {Q : Int32 → mM → Prop} {μ : mM} (C : Cx G mX11_tell E) {x1 : Int32} {x4 : Int32} {x5 : Int32} {x6 : Int32} (cc1 : CtI G mX4_allows [.ref (gb G + 15), .int x6] μ (fun r μ' => Wm G mX11_tell E (bm G mX11_tell E (pI Q)) μ' 113 [(0, .ref (gb G + 0)), (1, .int x1), (4, .int x4), (5, .int x5), (6, .int x6)] [.int r])) : Wm G mX11_tell E (bm G mX11_tell E (pI Q)) μ 101 [(0, .ref (gb G + 0)), (1, .int x1), (4, .int x4), (5, .int x5), (6, .int x6)] [] := by
  refine L_aload_n C (i := 0) dX11_tell_101 rfl rfl ?_
  refine L_getC C (c' := 14) dX11_tell_102 sh_0 fl_X11_26 rfl rfl ?_
  refine L_getC C (c' := 15) dX11_tell_105 sh_14 fl_X11_77 rfl rfl ?_
  refine L_iload C dX11_tell_108 rfl ?_
  refine L_invV1i C dX11_tell_110 sh_15 cal_X4_allows lk_X11_140 ⟨Nat.le_of_ble_eq_true rfl, Nat.le_of_ble_eq_true rfl⟩ ⟨Nat.le_of_ble_eq_true rfl, Nat.le_of_ble_eq_true rfl⟩ (Nat.le_of_ble_eq_true rfl) ?_
  exact cc1
set_option maxRecDepth 4000 in
theorem k_X11_tell_113 {G : mG} {E : mE} {Q : Int32 → mM → Prop} {μ : mM} (C : Cx G mX11_tell E) {x1 : Int32} {x4 : Int32} {x5 : Int32} {x6 : Int32} {sx0 : Int32} (cc1 : ¬ sx0 = 0 → CtV G mX11_remember [.ref (gb G + 0)] μ (fun μ' => Wm G mX11_tell E (bm G mX11_tell E (pI Q)) μ' 123 [(0, .ref (gb G + 0)), (1, .int x1), (4, .int x4), (5, .int x5), (6, .int x6)] [])) (rr2 : sx0 = 0 → Q (-2) μ) : Wm G mX11_tell E (bm G mX11_tell E (pI Q)) μ 113 [(0, .ref (gb G + 0)), (1, .int x1), (4, .int x4), (5, .int x5), (6, .int x6)] [.int sx0] := by
  refine L_if_ne C (tgt := 119) dX11_tell_113 rfl (fun p1 => ?_) (fun p1 => ?_)
  · refine L_aload_n C (i := 0) dX11_tell_119 rfl rfl ?_
    refine L_invV0v C dX11_tell_120 sh_0 cal_X11_remember lk_X11_143 ⟨Nat.le_of_ble_eq_true rfl, Nat.le_of_ble_eq_true rfl⟩ ⟨Nat.le_of_ble_eq_true rfl, Nat.le_of_ble_eq_true rfl⟩ (Nat.le_of_ble_eq_true rfl) ?_
    exact cc1 p1
  · refine L_bipush C (v := (-2)) dX11_tell_116 rfl ?_
    exact L_irI C dX11_tell_118 rfl (rr2 p1)
set_option maxRecDepth 4000 in
theorem k_X11_tell_123 {G : mG} {E : mE} {Q : Int32 → mM → Prop} {μ : mM} (C : Cx G mX11_tell E) {x1 : Int32} {x4 : Int32} {x5 : Int32} {x6 : Int32} (cc1 : CtV G mX2_change [.ref (gb G + 22), .int x4, .int x6] μ (fun μ' => Wm G mX11_tell E (bm G mX11_tell E (pI Q)) μ' 134 [(0, .ref (gb G + 0)), (1, .int x1), (5, .int x5), (6, .int x6)] [])) : Wm G mX11_tell E (bm G mX11_tell E (pI Q)) μ 123 [(0, .ref (gb G + 0)), (1, .int x1), (4, .int x4), (5, .int x5), (6, .int x6)] [] := by
  refine L_aload_n C (i := 0) dX11_tell_123 rfl rfl ?_
  refine L_getC C (c' := 22) dX11_tell_124 sh_0 fl_X11_33 rfl rfl ?_
  refine L_iload C dX11_tell_127 rfl ?_
  refine L_iload C dX11_tell_129 rfl ?_
  refine L_sub [0, 1, 3, 4] rfl ?_
  refine L_invV2v C dX11_tell_131 sh_22 cal_X2_change lk_X11_158 ⟨Nat.le_of_ble_eq_true rfl, Nat.le_of_ble_eq_true rfl⟩ ⟨Nat.le_of_ble_eq_true rfl, Nat.le_of_ble_eq_true rfl⟩ (Nat.le_of_ble_eq_true rfl) ?_
  exact cc1
set_option maxRecDepth 4000 in
theorem k_X11_tell_134 {G : mG} {E : mE} {Q : Int32 → mM → Prop} {μ : mM} (C : Cx G mX11_tell E) {x1 : Int32} {x5 : Int32} {x6 : Int32} (ss1 : vp_in x1 64) (rr2 : Q x5 (ms μ 20 x1.toNatClampNeg x6)) : Wm G mX11_tell E (bm G mX11_tell E (pI Q)) μ 134 [(0, .ref (gb G + 0)), (1, .int x1), (5, .int x5), (6, .int x6)] [] := by
  refine L_aload_n C (i := 0) dX11_tell_134 rfl rfl ?_
  refine L_getC C (c' := 14) dX11_tell_135 sh_0 fl_X11_26 rfl rfl ?_
  refine L_getC C (c' := 19) dX11_tell_138 sh_14 fl_X11_90 rfl rfl ?_
  refine L_getC C (c' := 20) dX11_tell_141 sh_19 fl_X11_152 rfl rfl ?_
  refine L_iload_n C (i := 1) dX11_tell_144 rfl rfl ?_
  refine L_iload C dX11_tell_145 rfl ?_
  refine L_iast C dX11_tell_147 sh_20 (ss1) ?_
  refine L_iload C dX11_tell_148 rfl ?_
  exact L_irI C dX11_tell_150 rfl (rr2)
set_option maxRecDepth 4000 in
theorem k_X11_cell_0 {G : mG} {E : mE} {Q : Int32 → mM → Prop} {μ : mM} (C : Cx G mX11_cell E) {x1 : Int32} {x2 : Int32} (rr1 : ((x1 < 0 ∨ (¬ x1 < 0 ∧ (μ 19 0) ≤ x1)) ∨ (¬ x1 < 0 ∧ ¬ (μ 19 0) ≤ x1 ∧ (x2 < 0 ∨ (¬ x2 < 0 ∧ (μ 15 0) ≤ x2)))) → Q (-2) μ) (ss2 : ¬ x1 < 0 → ¬ (μ 19 0) ≤ x1 → ¬ x2 < 0 → ¬ (μ 15 0) ≤ x2 → vp_in x1 64) (rr3 : ¬ x1 < 0 → ¬ (μ 19 0) ≤ x1 → ¬ x2 < 0 → ¬ (μ 15 0) ≤ x2 → ¬ ((iush (μ 20 x1.toNatClampNeg) ((4 : Int32) * x2)) &&& (15 : Int32)) = 0 → Q ((((iush (μ 20 x1.toNatClampNeg) ((4 : Int32) * x2)) &&& (15 : Int32)) >>> ((1 : Int32) &&& 31)) - (((iush (μ 20 x1.toNatClampNeg) ((4 : Int32) * x2)) &&& (15 : Int32)) >>> ((3 : Int32) &&& 31))) μ) (rr4 : ¬ x1 < 0 → ¬ (μ 19 0) ≤ x1 → ¬ x2 < 0 → ¬ (μ 15 0) ≤ x2 → ((iush (μ 20 x1.toNatClampNeg) ((4 : Int32) * x2)) &&& (15 : Int32)) = 0 → Q (-1) μ) : Wm G mX11_cell E (bm G mX11_cell E (pI Q)) μ 0 [(0, .ref (gb G + 0)), (1, .int x1), (2, .int x2)] [] := by
  refine L_aload_n C (i := 0) dX11_cell_0 rfl rfl ?_
  refine L_iload_n C (i := 1) dX11_cell_1 rfl rfl ?_
  refine L_invV1i C dX11_cell_2 sh_0 cal_X11_isRow lk_X11_149 ⟨Nat.le_of_ble_eq_true rfl, Nat.le_of_ble_eq_true rfl⟩ ⟨Nat.le_of_ble_eq_true rfl, Nat.le_of_ble_eq_true rfl⟩ (Nat.le_of_ble_eq_true rfl) (a_X11_isRow (fun p1 => ?_) (fun p2 p3 => ?_))
  · refine L_if_eq C (tgt := 35) dX11_cell_5 rfl (fun p4 => ?_) (fun p4 => absurd p4 (by decide))
    refine L_bipush C (v := (-2)) dX11_cell_35 rfl ?_
    exact L_irI C dX11_cell_37 rfl (rr1 (Or.inl p1))
  · refine L_if_eq C (tgt := 35) dX11_cell_5 rfl (fun p5 => absurd p5 (by decide)) (fun p5 => ?_)
    refine L_aload_n C (i := 0) dX11_cell_8 rfl rfl ?_
    refine L_iload_n C (i := 2) dX11_cell_9 rfl rfl ?_
    refine L_invV1i C dX11_cell_10 sh_0 cal_X11_isColumn lk_X11_106 ⟨Nat.le_of_ble_eq_true rfl, Nat.le_of_ble_eq_true rfl⟩ ⟨Nat.le_of_ble_eq_true rfl, Nat.le_of_ble_eq_true rfl⟩ (Nat.le_of_ble_eq_true rfl) (a_X11_isColumn (fun p6 => ?_) (fun p7 p8 => ?_))
    · refine L_if_eq C (tgt := 35) dX11_cell_13 rfl (fun p9 => ?_) (fun p9 => absurd p9 (by decide))
      refine L_bipush C (v := (-2)) dX11_cell_35 rfl ?_
      exact L_irI C dX11_cell_37 rfl (rr1 (Or.inr ⟨p2, p3, p6⟩))
    · refine L_if_eq C (tgt := 35) dX11_cell_13 rfl (fun p10 => absurd p10 (by decide)) (fun p10 => ?_)
      refine L_aload_n C (i := 0) dX11_cell_16 rfl rfl ?_
      refine L_getC C (c' := 14) dX11_cell_17 sh_0 fl_X11_26 rfl rfl ?_
      refine L_getC C (c' := 19) dX11_cell_20 sh_14 fl_X11_90 rfl rfl ?_
      refine L_getC C (c' := 20) dX11_cell_23 sh_19 fl_X11_152 rfl rfl ?_
      refine L_iload_n C (i := 1) dX11_cell_26 rfl rfl ?_
      refine L_iald C dX11_cell_27 sh_20 (ss2 p2 p3 p7 p8) ?_
      refine L_iload_n C (i := 2) dX11_cell_28 rfl rfl ?_
      refine L_invS2i C dX11_cell_29 cal_X11_levelIn stc_X11_levelIn lk_X11_155 ⟨Nat.le_of_ble_eq_true rfl, Nat.le_of_ble_eq_true rfl⟩ ⟨Nat.le_of_ble_eq_true rfl, Nat.le_of_ble_eq_true rfl⟩ (Nat.le_of_ble_eq_true rfl) (a_X11_levelIn (fun p11 => ?_) (fun p12 => ?_))
      · refine L_goto C (tgt := 37) dX11_cell_32 rfl ?_
        exact L_irI C dX11_cell_37 rfl (rr3 p2 p3 p7 p8 p11)
      · refine L_goto C (tgt := 37) dX11_cell_32 rfl ?_
        exact L_irI C dX11_cell_37 rfl (rr4 p2 p3 p7 p8 p12)
theorem a_X11_cell {G : mG} {Q : Int32 → mM → Prop} {μ : mM} {x1 : Int32} {x2 : Int32} (rr1 : ((x1 < 0 ∨ (¬ x1 < 0 ∧ (μ 19 0) ≤ x1)) ∨ (¬ x1 < 0 ∧ ¬ (μ 19 0) ≤ x1 ∧ (x2 < 0 ∨ (¬ x2 < 0 ∧ (μ 15 0) ≤ x2)))) → Q (-2) μ) (ss2 : ¬ x1 < 0 → ¬ (μ 19 0) ≤ x1 → ¬ x2 < 0 → ¬ (μ 15 0) ≤ x2 → vp_in x1 64) (rr3 : ¬ x1 < 0 → ¬ (μ 19 0) ≤ x1 → ¬ x2 < 0 → ¬ (μ 15 0) ≤ x2 → ¬ ((iush (μ 20 x1.toNatClampNeg) ((4 : Int32) * x2)) &&& (15 : Int32)) = 0 → Q ((((iush (μ 20 x1.toNatClampNeg) ((4 : Int32) * x2)) &&& (15 : Int32)) >>> ((1 : Int32) &&& 31)) - (((iush (μ 20 x1.toNatClampNeg) ((4 : Int32) * x2)) &&& (15 : Int32)) >>> ((3 : Int32) &&& 31))) μ) (rr4 : ¬ x1 < 0 → ¬ (μ 19 0) ≤ x1 → ¬ x2 < 0 → ¬ (μ 15 0) ≤ x2 → ((iush (μ 20 x1.toNatClampNeg) ((4 : Int32) * x2)) &&& (15 : Int32)) = 0 → Q (-1) μ) : CtI G mX11_cell [.ref (gb G + 0), .int x1, .int x2] μ Q :=
  CtI.of pn_X11 (Nat.le_of_ble_eq_true rfl) (fun E C => k_X11_cell_0 C rr1 ss2 rr3 rr4)
set_option maxRecDepth 4000 in
theorem k_X7_remove_0 {G : mG} {E : mE} {Q : mM → Prop} {μ : mM} (C : Cx G mX7_remove E) {c0 : Nat} (h0 : sh c0 = (0, 6)) {x1 : Int32} (ss1 : cpyOk (x1 + (1 : Int32)) x1 (((ms μ c0 0 ((μ c0 0) - (1 : Int32))) c0 0) - x1) 64 64) (ss2 : cpyOk (x1 + (1 : Int32)) x1 (((cpy (ms μ c0 0 ((μ c0 0) - (1 : Int32))) (c0 + 1) (c0 + 1) (x1 + (1 : Int32)) x1 (((ms μ c0 0 ((μ c0 0) - (1 : Int32))) c0 0) - x1)) c0 0) - x1) 64 64) (rr3 : Q (cpy (cpy (ms μ c0 0 ((μ c0 0) - (1 : Int32))) (c0 + 1) (c0 + 1) (x1 + (1 : Int32)) x1 (((ms μ c0 0 ((μ c0 0) - (1 : Int32))) c0 0) - x1)) (c0 + 2) (c0 + 2) (x1 + (1 : Int32)) x1 (((cpy (ms μ c0 0 ((μ c0 0) - (1 : Int32))) (c0 + 1) (c0 + 1) (x1 + (1 : Int32)) x1 (((ms μ c0 0 ((μ c0 0) - (1 : Int32))) c0 0) - x1)) c0 0) - x1))) : Wm G mX7_remove E (bm G mX7_remove E (pV Q)) μ 0 [(0, .ref (gb G + c0)), (1, .int x1)] [] := by
  refine L_aload_n C (i := 0) dX7_remove_0 rfl rfl ?_
  refine L_dup C dX7_remove_1 rfl ?_
  refine L_getI C dX7_remove_2 h0 fl_X7_18 rfl ?_
  refine L_iconst C (v := 1) dX7_remove_5 rfl ?_
  refine L_isub C dX7_remove_6 ?_
  refine L_putI C dX7_remove_7 h0 fl_X7_18 rfl rfl rfl ?_
  refine L_aload_n C (i := 0) dX7_remove_10 rfl rfl ?_
  refine L_getC C (c' := (c0 + 1)) dX7_remove_11 h0 fl_X7_9 rfl rfl ?_
  refine L_iload_n C (i := 1) dX7_remove_14 rfl rfl ?_
  refine L_iconst C (v := 1) dX7_remove_15 rfl ?_
  refine L_iadd C dX7_remove_16 ?_
  refine L_aload_n C (i := 0) dX7_remove_17 rfl rfl ?_
  refine L_getC C (c' := (c0 + 1)) dX7_remove_18 h0 fl_X7_9 rfl rfl ?_
  refine L_iload_n C (i := 1) dX7_remove_21 rfl rfl ?_
  refine L_aload_n C (i := 0) dX7_remove_22 rfl rfl ?_
  refine L_getI C dX7_remove_23 h0 fl_X7_18 rfl ?_
  refine L_iload_n C (i := 1) dX7_remove_26 rfl rfl ?_
  refine L_isub C dX7_remove_27 ?_
  refine L_cpy C dX7_remove_28 (shd_6_1 h0) (shd_6_1 h0) lk_X7_22 ac_nat ac_stat ac_ini (Nat.le_of_ble_eq_true rfl) (Nat.le_of_ble_eq_true rfl) (Nat.le_of_ble_eq_true rfl) (ss1) ?_
  refine L_aload_n C (i := 0) dX7_remove_31 rfl rfl ?_
  refine L_getC C (c' := (c0 + 2)) dX7_remove_32 h0 fl_X7_15 rfl rfl ?_
  refine L_iload_n C (i := 1) dX7_remove_35 rfl rfl ?_
  refine L_iconst C (v := 1) dX7_remove_36 rfl ?_
  refine L_iadd C dX7_remove_37 ?_
  refine L_aload_n C (i := 0) dX7_remove_38 rfl rfl ?_
  refine L_getC C (c' := (c0 + 2)) dX7_remove_39 h0 fl_X7_15 rfl rfl ?_
  refine L_iload_n C (i := 1) dX7_remove_42 rfl rfl ?_
  refine L_aload_n C (i := 0) dX7_remove_43 rfl rfl ?_
  refine L_getI C dX7_remove_44 h0 fl_X7_18 rfl ?_
  refine L_iload_n C (i := 1) dX7_remove_47 rfl rfl ?_
  refine L_isub C dX7_remove_48 ?_
  refine L_cpy C dX7_remove_49 (shd_6_2 h0) (shd_6_2 h0) lk_X7_22 ac_nat ac_stat ac_ini (Nat.le_of_ble_eq_true rfl) (Nat.le_of_ble_eq_true rfl) (Nat.le_of_ble_eq_true rfl) (ss2) ?_
  exact L_irV C dX7_remove_52 rfl (rr3)
theorem a_X7_remove {G : mG} {Q : mM → Prop} {μ : mM} {c0 : Nat} (h0 : sh c0 = (0, 6)) {x1 : Int32} (ss1 : cpyOk (x1 + (1 : Int32)) x1 (((ms μ c0 0 ((μ c0 0) - (1 : Int32))) c0 0) - x1) 64 64) (ss2 : cpyOk (x1 + (1 : Int32)) x1 (((cpy (ms μ c0 0 ((μ c0 0) - (1 : Int32))) (c0 + 1) (c0 + 1) (x1 + (1 : Int32)) x1 (((ms μ c0 0 ((μ c0 0) - (1 : Int32))) c0 0) - x1)) c0 0) - x1) 64 64) (rr3 : Q (cpy (cpy (ms μ c0 0 ((μ c0 0) - (1 : Int32))) (c0 + 1) (c0 + 1) (x1 + (1 : Int32)) x1 (((ms μ c0 0 ((μ c0 0) - (1 : Int32))) c0 0) - x1)) (c0 + 2) (c0 + 2) (x1 + (1 : Int32)) x1 (((cpy (ms μ c0 0 ((μ c0 0) - (1 : Int32))) (c0 + 1) (c0 + 1) (x1 + (1 : Int32)) x1 (((ms μ c0 0 ((μ c0 0) - (1 : Int32))) c0 0) - x1)) c0 0) - x1))) : CtV G mX7_remove [.ref (gb G + c0), .int x1] μ Q :=
  CtV.of pn_X7 (Nat.le_of_ble_eq_true rfl) (fun E C => k_X7_remove_0 C h0 ss1 ss2 rr3)
set_option maxRecDepth 4000 in
theorem k_X11_takeAway_0 {G : mG} {E : mE} {Q : mM → Prop} {μ : mM} (C : Cx G mX11_takeAway E) {x1 : Int32} (ss1 : vp_in x1 64) (cc2 : CtV G mX2_change [.ref (gb G + 22), .int (μ 20 x1.toNatClampNeg), .int 0] μ (fun μ' => Wm G mX11_takeAway E (bm G mX11_takeAway E (pV Q)) μ' 20 [(0, .ref (gb G + 0)), (1, .int x1)] [])) : Wm G mX11_takeAway E (bm G mX11_takeAway E (pV Q)) μ 0 [(0, .ref (gb G + 0)), (1, .int x1)] [] := by
  refine L_aload_n C (i := 0) dX11_takeAway_0 rfl rfl ?_
  refine L_getC C (c' := 22) dX11_takeAway_1 sh_0 fl_X11_33 rfl rfl ?_
  refine L_aload_n C (i := 0) dX11_takeAway_4 rfl rfl ?_
  refine L_getC C (c' := 14) dX11_takeAway_5 sh_0 fl_X11_26 rfl rfl ?_
  refine L_getC C (c' := 19) dX11_takeAway_8 sh_14 fl_X11_90 rfl rfl ?_
  refine L_getC C (c' := 20) dX11_takeAway_11 sh_19 fl_X11_152 rfl rfl ?_
  refine L_iload_n C (i := 1) dX11_takeAway_14 rfl rfl ?_
  refine L_iald C dX11_takeAway_15 sh_20 (ss1) ?_
  refine L_iconst C (v := 0) dX11_takeAway_16 rfl ?_
  refine L_invV2v C dX11_takeAway_17 sh_22 cal_X2_change lk_X11_158 ⟨Nat.le_of_ble_eq_true rfl, Nat.le_of_ble_eq_true rfl⟩ ⟨Nat.le_of_ble_eq_true rfl, Nat.le_of_ble_eq_true rfl⟩ (Nat.le_of_ble_eq_true rfl) ?_
  exact cc2
theorem e_X11_takeAway {G : mG} {Q : mM → Prop} {μ : mM} {x1 : Int32} (k : ∀ E, Cx G mX11_takeAway E → Wm G mX11_takeAway E (bm G mX11_takeAway E (pV Q)) μ 0 [(0, .ref (gb G + 0)), (1, .int x1)] []) : CtV G mX11_takeAway [.ref (gb G + 0), .int x1] μ Q := CtV.of pn_X11 (Nat.le_of_ble_eq_true rfl) k
set_option maxRecDepth 4000 in
theorem k_X11_takeAway_20 {G : mG} {E : mE} {Q : mM → Prop} {μ : mM} (C : Cx G mX11_takeAway E) {x1 : Int32} (cc1 : CtV G mX7_remove [.ref (gb G + 19), .int x1] μ (fun μ' => Wm G mX11_takeAway E (bm G mX11_takeAway E (pV Q)) μ' 31 [] [])) : Wm G mX11_takeAway E (bm G mX11_takeAway E (pV Q)) μ 20 [(0, .ref (gb G + 0)), (1, .int x1)] [] := by
  refine L_aload_n C (i := 0) dX11_takeAway_20 rfl rfl ?_
  refine L_getC C (c' := 14) dX11_takeAway_21 sh_0 fl_X11_26 rfl rfl ?_
  refine L_getC C (c' := 19) dX11_takeAway_24 sh_14 fl_X11_90 rfl rfl ?_
  refine L_iload_n C (i := 1) dX11_takeAway_27 rfl rfl ?_
  refine L_sub [] rfl ?_
  refine L_invV1v C dX11_takeAway_28 sh_19 cal_X7_remove lk_X11_300 ⟨Nat.le_of_ble_eq_true rfl, Nat.le_of_ble_eq_true rfl⟩ ⟨Nat.le_of_ble_eq_true rfl, Nat.le_of_ble_eq_true rfl⟩ (Nat.le_of_ble_eq_true rfl) ?_
  exact cc1
set_option maxRecDepth 4000 in
theorem k_X11_takeAway_31 {G : mG} {E : mE} {Q : mM → Prop} {μ : mM} (C : Cx G mX11_takeAway E)  (rr1 : Q μ) : Wm G mX11_takeAway E (bm G mX11_takeAway E (pV Q)) μ 31 [] [] := by
  exact L_irV C dX11_takeAway_31 rfl (rr1)

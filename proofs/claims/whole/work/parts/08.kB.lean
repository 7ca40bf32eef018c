/-! written by wip/tools/mkk.py: steps between cut points -/
set_option maxRecDepth 4000 in
theorem k_X11_drop_0 {G : mG} {E : mE} {Q : Int32 → mM → Prop} {μ : mM} (C : Cx G mX11_drop E) {x1 : Int32} (rr1 : (x1 < 0 ∨ (¬ x1 < 0 ∧ (μ 19 0) ≤ x1)) → Q (-1) μ) (cc2 : ¬ x1 < 0 → ¬ (μ 19 0) ≤ x1 → CtV G mX11_remember [.ref (gb G + 0)] μ (fun μ' => Wm G mX11_drop E (bm G mX11_drop E (pI Q)) μ' 14 [(0, .ref (gb G + 0)), (1, .int x1)] [])) : Wm G mX11_drop E (bm G mX11_drop E (pI Q)) μ 0 [(0, .ref (gb G + 0)), (1, .int x1)] [] := by
  refine L_aload_n C (i := 0) dX11_drop_0 rfl rfl ?_
  refine L_iload_n C (i := 1) dX11_drop_1 rfl rfl ?_
  refine L_invV1i C dX11_drop_2 sh_0 cal_X11_isRow lk_X11_149 ⟨Nat.le_of_ble_eq_true rfl, Nat.le_of_ble_eq_true rfl⟩ ⟨Nat.le_of_ble_eq_true rfl, Nat.le_of_ble_eq_true rfl⟩ (Nat.le_of_ble_eq_true rfl) (a_X11_isRow (fun p1 => ?_) (fun p2 p3 => ?_))
  · refine L_if_ne C (tgt := 10) dX11_drop_5 rfl (fun p4 => absurd p4 (by decide)) (fun p4 => ?_)
    refine L_iconst C (v := (-1)) dX11_drop_8 rfl ?_
    exact L_irI C dX11_drop_9 rfl (rr1 p1)
  · refine L_if_ne C (tgt := 10) dX11_drop_5 rfl (fun p5 => ?_) (fun p5 => absurd p5 (by decide))
    refine L_aload_n C (i := 0) dX11_drop_10 rfl rfl ?_
    refine L_invV0v C dX11_drop_11 sh_0 cal_X11_remember lk_X11_143 ⟨Nat.le_of_ble_eq_true rfl, Nat.le_of_ble_eq_true rfl⟩ ⟨Nat.le_of_ble_eq_true rfl, Nat.le_of_ble_eq_true rfl⟩ (Nat.le_of_ble_eq_true rfl) ?_
    exact cc2 p2 p3
theorem e_X11_drop {G : mG} {Q : Int32 → mM → Prop} {μ : mM} {x1 : Int32} (k : ∀ E, Cx G mX11_drop E → Wm G mX11_drop E (bm G mX11_drop E (pI Q)) μ 0 [(0, .ref (gb G + 0)), (1, .int x1)] []) : CtI G mX11_drop [.ref (gb G + 0), .int x1] μ Q := CtI.of pn_X11 (Nat.le_of_ble_eq_true rfl) k
set_option maxRecDepth 4000 in
theorem k_X11_drop_14 {G : mG} {E : mE} {Q : Int32 → mM → Prop} {μ : mM} (C : Cx G mX11_drop E) {x1 : Int32} (cc1 : CtV G mX11_takeAway [.ref (gb G + 0), .int x1] μ (fun μ' => Wm G mX11_drop E (bm G mX11_drop E (pI Q)) μ' 19 [(0, .ref (gb G + 0))] [])) : Wm G mX11_drop E (bm G mX11_drop E (pI Q)) μ 14 [(0, .ref (gb G + 0)), (1, .int x1)] [] := by
  refine L_aload_n C (i := 0) dX11_drop_14 rfl rfl ?_
  refine L_iload_n C (i := 1) dX11_drop_15 rfl rfl ?_
  refine L_sub [0] rfl ?_
  refine L_invV1v C dX11_drop_16 sh_0 cal_X11_takeAway lk_X11_162 ⟨Nat.le_of_ble_eq_true rfl, Nat.le_of_ble_eq_true rfl⟩ ⟨Nat.le_of_ble_eq_true rfl, Nat.le_of_ble_eq_true rfl⟩ (Nat.le_of_ble_eq_true rfl) ?_
  exact cc1
set_option maxRecDepth 4000 in
theorem k_X11_drop_19 {G : mG} {E : mE} {Q : Int32 → mM → Prop} {μ : mM} (C : Cx G mX11_drop E)  (rr1 : Q (μ 19 0) μ) : Wm G mX11_drop E (bm G mX11_drop E (pI Q)) μ 19 [(0, .ref (gb G + 0))] [] := by
  refine L_aload_n C (i := 0) dX11_drop_19 rfl rfl ?_
  refine L_getC C (c' := 14) dX11_drop_20 sh_0 fl_X11_26 rfl rfl ?_
  refine L_getC C (c' := 19) dX11_drop_23 sh_14 fl_X11_90 rfl rfl ?_
  refine L_getI C dX11_drop_26 sh_19 fl_X11_94 rfl ?_
  exact L_irI C dX11_drop_29 rfl (rr1)
set_option maxRecDepth 4000 in
theorem k_X2_isOpen_0 {G : mG} {E : mE} {Q : Int32 → mM → Prop} {μ : mM} (C : Cx G mX2_isOpen E) {x1 : Int32} (ss1 : vp_in x1 1200) (rr2 : (¬ (μ 30 x1.toNatClampNeg) = 0 ∨ ((μ 30 x1.toNatClampNeg) = 0 ∧ (μ 29 x1.toNatClampNeg) = 0)) → Q 0 μ) (rr3 : (μ 30 x1.toNatClampNeg) = 0 → ¬ (μ 29 x1.toNatClampNeg) = 0 → Q 1 μ) : Wm G mX2_isOpen E (bm G mX2_isOpen E (pI Q)) μ 0 [(0, .ref (gb G + 22)), (1, .int x1)] [] := by
  refine L_aload_n C (i := 0) dX2_isOpen_0 rfl rfl ?_
  refine L_getC C (c' := 30) dX2_isOpen_1 sh_22 fl_X2_25 rfl rfl ?_
  refine L_iload_n C (i := 1) dX2_isOpen_4 rfl rfl ?_
  refine L_iald C dX2_isOpen_5 sh_30 (ss1) ?_
  refine L_if_ne C (tgt := 22) dX2_isOpen_6 rfl (fun p1 => ?_) (fun p1 => ?_)
  · refine L_iconst C (v := 0) dX2_isOpen_22 rfl ?_
    exact L_irZ C dX2_isOpen_23 rfl (by decide) (rr2 (Or.inl p1))
  · refine L_aload_n C (i := 0) dX2_isOpen_9 rfl rfl ?_
    refine L_getC C (c' := 29) dX2_isOpen_10 sh_22 fl_X2_22 rfl rfl ?_
    refine L_iload_n C (i := 1) dX2_isOpen_13 rfl rfl ?_
    refine L_iald C dX2_isOpen_14 sh_29 (ss1) ?_
    refine L_if_eq C (tgt := 22) dX2_isOpen_15 rfl (fun p2 => ?_) (fun p2 => ?_)
    · refine L_iconst C (v := 0) dX2_isOpen_22 rfl ?_
      exact L_irZ C dX2_isOpen_23 rfl (by decide) (rr2 (Or.inr ⟨p1, p2⟩))
    · refine L_iconst C (v := 1) dX2_isOpen_18 rfl ?_
      refine L_goto C (tgt := 23) dX2_isOpen_19 rfl ?_
      exact L_irZ C dX2_isOpen_23 rfl (by decide) (rr3 p1 p2)
theorem a_X2_isOpen {G : mG} {Q : Int32 → mM → Prop} {μ : mM} {x1 : Int32} (ss1 : vp_in x1 1200) (rr2 : (¬ (μ 30 x1.toNatClampNeg) = 0 ∨ ((μ 30 x1.toNatClampNeg) = 0 ∧ (μ 29 x1.toNatClampNeg) = 0)) → Q 0 μ) (rr3 : (μ 30 x1.toNatClampNeg) = 0 → ¬ (μ 29 x1.toNatClampNeg) = 0 → Q 1 μ) : CtI G mX2_isOpen [.ref (gb G + 22), .int x1] μ Q :=
  CtI.of pn_X2 (Nat.le_of_ble_eq_true rfl) (fun E C => k_X2_isOpen_0 C ss1 rr2 rr3)
set_option maxRecDepth 4000 in
theorem k_X2_openCount_0 {G : mG} {E : mE} {Q : Int32 → mM → Prop} {μ : mM} (C : Cx G mX2_openCount E)  (ss1 : vp_in (μ 23 0) 57) (kk2 : Wm G mX2_openCount E (bm G mX2_openCount E (pI Q)) μ 9 [(0, .ref (gb G + 22)), (1, .int (if 1200 < (μ 25 (μ 23 0).toNatClampNeg) then 1200 else (μ 25 (μ 23 0).toNatClampNeg))), (2, .int 0), (3, .int 0)] []) : Wm G mX2_openCount E (bm G mX2_openCount E (pI Q)) μ 0 [(0, .ref (gb G + 22))] [] := by
  refine L_aload_n C (i := 0) dX2_openCount_0 rfl rfl ?_
  refine L_invV0i C dX2_openCount_1 sh_22 cal_X2_size lk_X2_88 ⟨Nat.le_of_ble_eq_true rfl, Nat.le_of_ble_eq_true rfl⟩ ⟨Nat.le_of_ble_eq_true rfl, Nat.le_of_ble_eq_true rfl⟩ (Nat.le_of_ble_eq_true rfl) (a_X2_size (ss1) (?_))
  · refine L_istore_n C (i := 1) dX2_openCount_4 rfl (Nat.le_of_ble_eq_true rfl) ?_
    refine L_iconst C (v := 0) dX2_openCount_5 rfl ?_
    refine L_istore_n C (i := 2) dX2_openCount_6 rfl (Nat.le_of_ble_eq_true rfl) ?_
    refine L_iconst C (v := 0) dX2_openCount_7 rfl ?_
    refine L_istore_n C (i := 3) dX2_openCount_8 rfl (Nat.le_of_ble_eq_true rfl) ?_
    exact kk2
theorem e_X2_openCount {G : mG} {Q : Int32 → mM → Prop} {μ : mM}  (k : ∀ E, Cx G mX2_openCount E → Wm G mX2_openCount E (bm G mX2_openCount E (pI Q)) μ 0 [(0, .ref (gb G + 22))] []) : CtI G mX2_openCount [.ref (gb G + 22)] μ Q := CtI.of pn_X2 (Nat.le_of_ble_eq_true rfl) k
set_option maxRecDepth 4000 in
theorem k_X2_openCount_9 {G : mG} {E : mE} {Q : Int32 → mM → Prop} {μ : mM} (C : Cx G mX2_openCount E) {x1 : Int32} {x2 : Int32} {x3 : Int32} (rr1 : x1 ≤ x3 → Q x2 μ) (ss2 : ¬ x1 ≤ x3 → vp_in x3 1200) (kk3 : ¬ x1 ≤ x3 → (¬ (μ 30 x3.toNatClampNeg) = 0 ∨ ((μ 30 x3.toNatClampNeg) = 0 ∧ (μ 29 x3.toNatClampNeg) = 0)) → Wm G mX2_openCount E (bm G mX2_openCount E (pI Q)) μ 9 [(0, .ref (gb G + 22)), (1, .int x1), (2, .int x2), (3, .int (x3 + (1 : Int32)))] []) (kk4 : ¬ x1 ≤ x3 → (μ 30 x3.toNatClampNeg) = 0 → ¬ (μ 29 x3.toNatClampNeg) = 0 → Wm G mX2_openCount E (bm G mX2_openCount E (pI Q)) μ 9 [(0, .ref (gb G + 22)), (1, .int x1), (2, .int (x2 + (1 : Int32))), (3, .int (x3 + (1 : Int32)))] []) : Wm G mX2_openCount E (bm G mX2_openCount E (pI Q)) μ 9 [(0, .ref (gb G + 22)), (1, .int x1), (2, .int x2), (3, .int x3)] [] := by
  refine L_iload_n C (i := 3) dX2_openCount_9 rfl rfl ?_
  refine L_iload_n C (i := 1) dX2_openCount_10 rfl rfl ?_
  refine L_icmp_ge C (tgt := 31) dX2_openCount_11 rfl (fun p1 => ?_) (fun p1 => ?_)
  · refine L_iload_n C (i := 2) dX2_openCount_31 rfl rfl ?_
    exact L_irI C dX2_openCount_32 rfl (rr1 p1)
  · refine L_aload_n C (i := 0) dX2_openCount_14 rfl rfl ?_
    refine L_iload_n C (i := 3) dX2_openCount_15 rfl rfl ?_
    refine L_invV1i C dX2_openCount_16 sh_22 cal_X2_isOpen lk_X2_104 ⟨Nat.le_of_ble_eq_true rfl, Nat.le_of_ble_eq_true rfl⟩ ⟨Nat.le_of_ble_eq_true rfl, Nat.le_of_ble_eq_true rfl⟩ (Nat.le_of_ble_eq_true rfl) (a_X2_isOpen (ss2 p1) (fun p2 => ?_) (fun p3 p4 => ?_))
    · refine L_if_eq C (tgt := 25) dX2_openCount_19 rfl (fun p5 => ?_) (fun p5 => absurd p5 (by decide))
      refine L_iinc C (v := 1) dX2_openCount_25 rfl rfl (Nat.le_of_ble_eq_true rfl) ?_
      refine L_goto C (tgt := 9) dX2_openCount_28 rfl ?_
      exact kk3 p1 p2
    · refine L_if_eq C (tgt := 25) dX2_openCount_19 rfl (fun p6 => absurd p6 (by decide)) (fun p6 => ?_)
      refine L_iinc C (v := 1) dX2_openCount_22 rfl rfl (Nat.le_of_ble_eq_true rfl) ?_
      refine L_iinc C (v := 1) dX2_openCount_25 rfl rfl (Nat.le_of_ble_eq_true rfl) ?_
      refine L_goto C (tgt := 9) dX2_openCount_28 rfl ?_
      exact kk4 p1 p3 p4
set_option maxRecDepth 4000 in
theorem k_X11_open_0 {G : mG} {E : mE} {Q : Int32 → mM → Prop} {μ : mM} (C : Cx G mX11_open E)  (rr1 : (μ 15 0) ≤ 0 → Q (-1) μ) (cc2 : ¬ (μ 15 0) ≤ 0 → CtI G mX2_openCount [.ref (gb G + 22)] μ (fun r μ' => Wm G mX11_open E (bm G mX11_open E (pI Q)) μ' 14 [] [.int r])) : Wm G mX11_open E (bm G mX11_open E (pI Q)) μ 0 [(0, .ref (gb G + 0))] [] := by
  refine L_aload_n C (i := 0) dX11_open_0 rfl rfl ?_
  refine L_invV0i C dX11_open_1 sh_0 cal_X11_hasPlan lk_X11_165 ⟨Nat.le_of_ble_eq_true rfl, Nat.le_of_ble_eq_true rfl⟩ ⟨Nat.le_of_ble_eq_true rfl, Nat.le_of_ble_eq_true rfl⟩ (Nat.le_of_ble_eq_true rfl) (a_X11_hasPlan (fun p1 => ?_) (fun p2 => ?_))
  · refine L_if_eq C (tgt := 17) dX11_open_4 rfl (fun p3 => ?_) (fun p3 => absurd p3 (by decide))
    refine L_iconst C (v := (-1)) dX11_open_17 rfl ?_
    exact L_irI C dX11_open_18 rfl (rr1 p1)
  · refine L_if_eq C (tgt := 17) dX11_open_4 rfl (fun p4 => absurd p4 (by decide)) (fun p4 => ?_)
    refine L_aload_n C (i := 0) dX11_open_7 rfl rfl ?_
    refine L_getC C (c' := 22) dX11_open_8 sh_0 fl_X11_33 rfl rfl ?_
    refine L_sub [] rfl ?_
    refine L_invV0i C dX11_open_11 sh_22 cal_X2_openCount lk_X11_169 ⟨Nat.le_of_ble_eq_true rfl, Nat.le_of_ble_eq_true rfl⟩ ⟨Nat.le_of_ble_eq_true rfl, Nat.le_of_ble_eq_true rfl⟩ (Nat.le_of_ble_eq_true rfl) ?_
    exact cc2 p2
theorem e_X11_open {G : mG} {Q : Int32 → mM → Prop} {μ : mM}  (k : ∀ E, Cx G mX11_open E → Wm G mX11_open E (bm G mX11_open E (pI Q)) μ 0 [(0, .ref (gb G + 0))] []) : CtI G mX11_open [.ref (gb G + 0)] μ Q := CtI.of pn_X11 (Nat.le_of_ble_eq_true rfl) k
set_option maxRecDepth 4000 in
theorem k_X11_open_14 {G : mG} {E : mE} {Q : Int32 → mM → Prop} {μ : mM} (C : Cx G mX11_open E) {sx0 : Int32} (rr1 : Q sx0 μ) : Wm G mX11_open E (bm G mX11_open E (pI Q)) μ 14 [] [.int sx0] := by
  refine L_goto C (tgt := 18) dX11_open_14 rfl ?_
  exact L_irI C dX11_open_18 rfl (rr1)
set_option maxRecDepth 4000 in
theorem k_X2_openAt_0 {G : mG} {E : mE} {Q : Int32 → mM → Prop} {μ : mM} (C : Cx G mX2_openAt E) {x1 : Int32} (ss1 : vp_in (μ 23 0) 57) (kk2 : Wm G mX2_openAt E (bm G mX2_openAt E (pI Q)) μ 10 [(0, .ref (gb G + 22)), (1, .int x1), (2, .int (if 1200 < (μ 25 (μ 23 0).toNatClampNeg) then 1200 else (μ 25 (μ 23 0).toNatClampNeg))), (3, .int 0), (4, .int 0)] []) : Wm G mX2_openAt E (bm G mX2_openAt E (pI Q)) μ 0 [(0, .ref (gb G + 22)), (1, .int x1)] [] := by
  refine L_aload_n C (i := 0) dX2_openAt_0 rfl rfl ?_
  refine L_invV0i C dX2_openAt_1 sh_22 cal_X2_size lk_X2_88 ⟨Nat.le_of_ble_eq_true rfl, Nat.le_of_ble_eq_true rfl⟩ ⟨Nat.le_of_ble_eq_true rfl, Nat.le_of_ble_eq_true rfl⟩ (Nat.le_of_ble_eq_true rfl) (a_X2_size (ss1) (?_))
  · refine L_istore_n C (i := 2) dX2_openAt_4 rfl (Nat.le_of_ble_eq_true rfl) ?_
    refine L_iconst C (v := 0) dX2_openAt_5 rfl ?_
    refine L_istore_n C (i := 3) dX2_openAt_6 rfl (Nat.le_of_ble_eq_true rfl) ?_
    refine L_iconst C (v := 0) dX2_openAt_7 rfl ?_
    refine L_istore C dX2_openAt_8 (Nat.le_of_ble_eq_true rfl) ?_
    exact kk2
theorem e_X2_openAt {G : mG} {Q : Int32 → mM → Prop} {μ : mM} {x1 : Int32} (k : ∀ E, Cx G mX2_openAt E → Wm G mX2_openAt E (bm G mX2_openAt E (pI Q)) μ 0 [(0, .ref (gb G + 22)), (1, .int x1)] []) : CtI G mX2_openAt [.ref (gb G + 22), .int x1] μ Q := CtI.of pn_X2 (Nat.le_of_ble_eq_true rfl) k
set_option maxRecDepth 4000 in
theorem k_X2_openAt_10 {G : mG} {E : mE} {Q : Int32 → mM → Prop} {μ : mM} (C : Cx G mX2_openAt E) {x1 : Int32} {x2 : Int32} {x3 : Int32} {x4 : Int32} (rr1 : x2 ≤ x4 → Q (-2) μ) (ss2 : ¬ x2 ≤ x4 → vp_in x4 1200) (kk3 : ¬ x2 ≤ x4 → (¬ (μ 30 x4.toNatClampNeg) = 0 ∨ ((μ 30 x4.toNatClampNeg) = 0 ∧ (μ 29 x4.toNatClampNeg) = 0)) → Wm G mX2_openAt E (bm G mX2_openAt E (pI Q)) μ 10 [(0, .ref (gb G + 22)), (1, .int x1), (2, .int x2), (3, .int x3), (4, .int (x4 + (1 : Int32)))] []) (kk4 : ¬ x2 ≤ x4 → (μ 30 x4.toNatClampNeg) = 0 → ¬ (μ 29 x4.toNatClampNeg) = 0 → ¬ x3 = x1 → Wm G mX2_openAt E (bm G mX2_openAt E (pI Q)) μ 10 [(0, .ref (gb G + 22)), (1, .int x1), (2, .int x2), (3, .int (x3 + (1 : Int32))), (4, .int (x4 + (1 : Int32)))] []) (rr5 : ¬ x2 ≤ x4 → (μ 30 x4.toNatClampNeg) = 0 → ¬ (μ 29 x4.toNatClampNeg) = 0 → x3 = x1 → Q x4 μ) : Wm G mX2_openAt E (bm G mX2_openAt E (pI Q)) μ 10 [(0, .ref (gb G + 22)), (1, .int x1), (2, .int x2), (3, .int x3), (4, .int x4)] [] := by
  refine L_iload C dX2_openAt_10 rfl ?_
  refine L_iload_n C (i := 2) dX2_openAt_12 rfl rfl ?_
  refine L_icmp_ge C (tgt := 42) dX2_openAt_13 rfl (fun p1 => ?_) (fun p1 => ?_)
  · refine L_bipush C (v := (-2)) dX2_openAt_42 rfl ?_
    exact L_irI C dX2_openAt_44 rfl (rr1 p1)
  · refine L_aload_n C (i := 0) dX2_openAt_16 rfl rfl ?_
    refine L_iload C dX2_openAt_17 rfl ?_
    refine L_invV1i C dX2_openAt_19 sh_22 cal_X2_isOpen lk_X2_104 ⟨Nat.le_of_ble_eq_true rfl, Nat.le_of_ble_eq_true rfl⟩ ⟨Nat.le_of_ble_eq_true rfl, Nat.le_of_ble_eq_true rfl⟩ (Nat.le_of_ble_eq_true rfl) (a_X2_isOpen (ss2 p1) (fun p2 => ?_) (fun p3 p4 => ?_))
    · refine L_if_eq C (tgt := 36) dX2_openAt_22 rfl (fun p5 => ?_) (fun p5 => absurd p5 (by decide))
      refine L_iinc C (v := 1) dX2_openAt_36 rfl rfl (Nat.le_of_ble_eq_true rfl) ?_
      refine L_goto C (tgt := 10) dX2_openAt_39 rfl ?_
      exact kk3 p1 p2
    · refine L_if_eq C (tgt := 36) dX2_openAt_22 rfl (fun p6 => absurd p6 (by decide)) (fun p6 => ?_)
      refine L_iload_n C (i := 3) dX2_openAt_25 rfl rfl ?_
      refine L_iload_n C (i := 1) dX2_openAt_26 rfl rfl ?_
      refine L_icmp_ne C (tgt := 33) dX2_openAt_27 rfl (fun p7 => ?_) (fun p7 => ?_)
      · refine L_iinc C (v := 1) dX2_openAt_33 rfl rfl (Nat.le_of_ble_eq_true rfl) ?_
        refine L_iinc C (v := 1) dX2_openAt_36 rfl rfl (Nat.le_of_ble_eq_true rfl) ?_
        refine L_goto C (tgt := 10) dX2_openAt_39 rfl ?_
        exact kk4 p1 p3 p4 p7
      · refine L_iload C dX2_openAt_30 rfl ?_
        exact L_irI C dX2_openAt_32 rfl (rr5 p1 p3 p4 p7)
set_option maxRecDepth 4000 in
theorem k_X11_openMix_0 {G : mG} {E : mE} {Q : Int32 → mM → Prop} {μ : mM} (C : Cx G mX11_openMix E) {x1 : Int32} (rr1 : ((μ 15 0) ≤ 0 ∨ (¬ (μ 15 0) ≤ 0 ∧ x1 < 0)) → Q (-1) μ) (cc2 : ¬ (μ 15 0) ≤ 0 → ¬ x1 < 0 → CtI G mX2_openAt [.ref (gb G + 22), .int x1] μ (fun r μ' => Wm G mX11_openMix E (bm G mX11_openMix E (pI Q)) μ' 19 [] [.int r])) : Wm G mX11_openMix E (bm G mX11_openMix E (pI Q)) μ 0 [(0, .ref (gb G + 0)), (1, .int x1)] [] := by
  refine L_aload_n C (i := 0) dX11_openMix_0 rfl rfl ?_
  refine L_invV0i C dX11_openMix_1 sh_0 cal_X11_hasPlan lk_X11_165 ⟨Nat.le_of_ble_eq_true rfl, Nat.le_of_ble_eq_true rfl⟩ ⟨Nat.le_of_ble_eq_true rfl, Nat.le_of_ble_eq_true rfl⟩ (Nat.le_of_ble_eq_true rfl) (a_X11_hasPlan (fun p1 => ?_) (fun p2 => ?_))
  · refine L_if_eq C (tgt := 22) dX11_openMix_4 rfl (fun p3 => ?_) (fun p3 => absurd p3 (by decide))
    refine L_iconst C (v := (-1)) dX11_openMix_22 rfl ?_
    exact L_irI C dX11_openMix_23 rfl (rr1 (Or.inl p1))
  · refine L_if_eq C (tgt := 22) dX11_openMix_4 rfl (fun p4 => absurd p4 (by decide)) (fun p4 => ?_)
    refine L_iload_n C (i := 1) dX11_openMix_7 rfl rfl ?_
    refine L_if_lt C (tgt := 22) dX11_openMix_8 rfl (fun p5 => ?_) (fun p5 => ?_)
    · refine L_iconst C (v := (-1)) dX11_openMix_22 rfl ?_
      exact L_irI C dX11_openMix_23 rfl (rr1 (Or.inr ⟨p2, p5⟩))
    · refine L_aload_n C (i := 0) dX11_openMix_11 rfl rfl ?_
      refine L_getC C (c' := 22) dX11_openMix_12 sh_0 fl_X11_33 rfl rfl ?_
      refine L_iload_n C (i := 1) dX11_openMix_15 rfl rfl ?_
      refine L_sub [] rfl ?_
      refine L_invV1i C dX11_openMix_16 sh_22 cal_X2_openAt lk_X11_172 ⟨Nat.le_of_ble_eq_true rfl, Nat.le_of_ble_eq_true rfl⟩ ⟨Nat.le_of_ble_eq_true rfl, Nat.le_of_ble_eq_true rfl⟩ (Nat.le_of_ble_eq_true rfl) ?_
      exact cc2 p2 p5
theorem e_X11_openMix {G : mG} {Q : Int32 → mM → Prop} {μ : mM} {x1 : Int32} (k : ∀ E, Cx G mX11_openMix E → Wm G mX11_openMix E (bm G mX11_openMix E (pI Q)) μ 0 [(0, .ref (gb G + 0)), (1, .int x1)] []) : CtI G mX11_openMix [.ref (gb G + 0), .int x1] μ Q := CtI.of pn_X11 (Nat.le_of_ble_eq_true rfl) k
set_option maxRecDepth 4000 in
theorem k_X11_openMix_19 {G : mG} {E : mE} {Q : Int32 → mM → Prop} {μ : mM} (C : Cx G mX11_openMix E) {sx0 : Int32} (rr1 : Q sx0 μ) : Wm G mX11_openMix E (bm G mX11_openMix E (pI Q)) μ 19 [] [.int sx0] := by
  refine L_goto C (tgt := 23) dX11_openMix_19 rfl ?_
  exact L_irI C dX11_openMix_23 rfl (rr1)
set_option maxRecDepth 4000 in
theorem k_X6_weightOf_0 {G : mG} {E : mE} {B : mB} {μ : mM} (C : Cx G mX6_weightOf E) {c1 : Nat} (h1 : sh c1 = (0, 0)) {x2 : Int32} {x3 : Int32} (kk1 : Wm G mX6_weightOf E B μ 6 [(1, .ref (gb G + c1)), (2, .int x2), (3, .int x3), (4, .int 1), (5, .int 0)] []) : Wm G mX6_weightOf E B μ 0 [(0, .ref (gb G + 31)), (1, .ref (gb G + c1)), (2, .int x2), (3, .int x3)] [] := by
  refine L_iconst C (v := 1) dX6_weightOf_0 rfl ?_
  refine L_istore C dX6_weightOf_1 (Nat.le_of_ble_eq_true rfl) ?_
  refine L_iconst C (v := 0) dX6_weightOf_3 rfl ?_
  refine L_istore C dX6_weightOf_4 (Nat.le_of_ble_eq_true rfl) ?_
  refine L_sub [1, 2, 3, 4, 5] rfl ?_
  exact kk1
theorem e_X6_weightOf {G : mG} {Q : Int32 → mM → Prop} {μ : mM} {c1 : Nat} (h1 : sh c1 = (0, 0)) {x2 : Int32} {x3 : Int32} (k : ∀ E, Cx G mX6_weightOf E → Wm G mX6_weightOf E (bm G mX6_weightOf E (pI Q)) μ 0 [(0, .ref (gb G + 31)), (1, .ref (gb G + c1)), (2, .int x2), (3, .int x3)] []) : CtI G mX6_weightOf [.ref (gb G + 31), .ref (gb G + c1), .int x2, .int x3] μ Q := CtI.of pn_X6 (Nat.le_of_ble_eq_true rfl) k
set_option maxRecDepth 4000 in
theorem k_X6_weightOf_6 {G : mG} {E : mE} {Q : Int32 → mM → Prop} {μ : mM} (C : Cx G mX6_weightOf E) {c1 : Nat} (h1 : sh c1 = (0, 0)) {x2 : Int32} {x3 : Int32} {x4 : Int32} {x5 : Int32} (rr1 : (μ c1 1) ≤ x5 → Q x4 μ) (ss2 : ¬ (μ c1 1) ≤ x5 → vp_in ((x2 * (3 : Int32)) + x5) 168) (ss3 : ¬ (μ c1 1) ≤ x5 → ¬ ((iush x3 ((4 : Int32) * (μ (c1 + 1) ((x2 * (3 : Int32)) + x5).toNatClampNeg))) &&& (15 : Int32)) = 0 → ∀ v1 : Int32, ((((((iush x3 ((4 : Int32) * (μ (c1 + 1) ((x2 * (3 : Int32)) + x5).toNatClampNeg))) &&& (15 : Int32)) >>> ((1 : Int32) &&& 31)) - (((iush x3 ((4 : Int32) * (μ (c1 + 1) ((x2 * (3 : Int32)) + x5).toNatClampNeg))) &&& (15 : Int32)) >>> ((3 : Int32) &&& 31))) = (-1) ∧ v1 = 0) ∨ (¬ ((((iush x3 ((4 : Int32) * (μ (c1 + 1) ((x2 * (3 : Int32)) + x5).toNatClampNeg))) &&& (15 : Int32)) >>> ((1 : Int32) &&& 31)) - (((iush x3 ((4 : Int32) * (μ (c1 + 1) ((x2 * (3 : Int32)) + x5).toNatClampNeg))) &&& (15 : Int32)) >>> ((3 : Int32) &&& 31))) = (-1) ∧ v1 = 1)) → v1 = 0 → vp_in ((x2 * (3 : Int32)) + x5) 168) (ss4 : ¬ (μ c1 1) ≤ x5 → ((iush x3 ((4 : Int32) * (μ (c1 + 1) ((x2 * (3 : Int32)) + x5).toNatClampNeg))) &&& (15 : Int32)) = 0 → vp_in ((x2 * (3 : Int32)) + x5) 168) (ss5 : ¬ (μ c1 1) ≤ x5 → ¬ ((iush x3 ((4 : Int32) * (μ (c1 + 1) ((x2 * (3 : Int32)) + x5).toNatClampNeg))) &&& (15 : Int32)) = 0 → ∀ v1 : Int32, ((((((iush x3 ((4 : Int32) * (μ (c1 + 1) ((x2 * (3 : Int32)) + x5).toNatClampNeg))) &&& (15 : Int32)) >>> ((1 : Int32) &&& 31)) - (((iush x3 ((4 : Int32) * (μ (c1 + 1) ((x2 * (3 : Int32)) + x5).toNatClampNeg))) &&& (15 : Int32)) >>> ((3 : Int32) &&& 31))) = (-1) ∧ v1 = 0) ∨ (¬ ((((iush x3 ((4 : Int32) * (μ (c1 + 1) ((x2 * (3 : Int32)) + x5).toNatClampNeg))) &&& (15 : Int32)) >>> ((1 : Int32) &&& 31)) - (((iush x3 ((4 : Int32) * (μ (c1 + 1) ((x2 * (3 : Int32)) + x5).toNatClampNeg))) &&& (15 : Int32)) >>> ((3 : Int32) &&& 31))) = (-1) ∧ v1 = 1)) → v1 = 0 → vp_in (μ (c1 + 1) ((x2 * (3 : Int32)) + x5).toNatClampNeg) 8) (ss6 : ¬ (μ c1 1) ≤ x5 → ((iush x3 ((4 : Int32) * (μ (c1 + 1) ((x2 * (3 : Int32)) + x5).toNatClampNeg))) &&& (15 : Int32)) = 0 → vp_in (μ (c1 + 1) ((x2 * (3 : Int32)) + x5).toNatClampNeg) 8) (dd7 : ¬ (μ c1 1) ≤ x5 → ¬ ((iush x3 ((4 : Int32) * (μ (c1 + 1) ((x2 * (3 : Int32)) + x5).toNatClampNeg))) &&& (15 : Int32)) = 0 → ∀ v1 : Int32, ((((((iush x3 ((4 : Int32) * (μ (c1 + 1) ((x2 * (3 : Int32)) + x5).toNatClampNeg))) &&& (15 : Int32)) >>> ((1 : Int32) &&& 31)) - (((iush x3 ((4 : Int32) * (μ (c1 + 1) ((x2 * (3 : Int32)) + x5).toNatClampNeg))) &&& (15 : Int32)) >>> ((3 : Int32) &&& 31))) = (-1) ∧ v1 = 0) ∨ (¬ ((((iush x3 ((4 : Int32) * (μ (c1 + 1) ((x2 * (3 : Int32)) + x5).toNatClampNeg))) &&& (15 : Int32)) >>> ((1 : Int32) &&& 31)) - (((iush x3 ((4 : Int32) * (μ (c1 + 1) ((x2 * (3 : Int32)) + x5).toNatClampNeg))) &&& (15 : Int32)) >>> ((3 : Int32) &&& 31))) = (-1) ∧ v1 = 1)) → v1 = 0 → ¬ (if 1 < (μ (c1 + 4) (μ (c1 + 1) ((x2 * (3 : Int32)) + x5).toNatClampNeg).toNatClampNeg) then (μ (c1 + 4) (μ (c1 + 1) ((x2 * (3 : Int32)) + x5).toNatClampNeg).toNatClampNeg) else 1) = 0) (dd8 : ¬ (μ c1 1) ≤ x5 → ((iush x3 ((4 : Int32) * (μ (c1 + 1) ((x2 * (3 : Int32)) + x5).toNatClampNeg))) &&& (15 : Int32)) = 0 → ¬ (if 1 < (μ (c1 + 4) (μ (c1 + 1) ((x2 * (3 : Int32)) + x5).toNatClampNeg).toNatClampNeg) then (μ (c1 + 4) (μ (c1 + 1) ((x2 * (3 : Int32)) + x5).toNatClampNeg).toNatClampNeg) else 1) = 0) (kk9 : ¬ (μ c1 1) ≤ x5 → ¬ ((iush x3 ((4 : Int32) * (μ (c1 + 1) ((x2 * (3 : Int32)) + x5).toNatClampNeg))) &&& (15 : Int32)) = 0 → ∀ v1 : Int32, ((((((iush x3 ((4 : Int32) * (μ (c1 + 1) ((x2 * (3 : Int32)) + x5).toNatClampNeg))) &&& (15 : Int32)) >>> ((1 : Int32) &&& 31)) - (((iush x3 ((4 : Int32) * (μ (c1 + 1) ((x2 * (3 : Int32)) + x5).toNatClampNeg))) &&& (15 : Int32)) >>> ((3 : Int32) &&& 31))) = (-1) ∧ v1 = 0) ∨ (¬ ((((iush x3 ((4 : Int32) * (μ (c1 + 1) ((x2 * (3 : Int32)) + x5).toNatClampNeg))) &&& (15 : Int32)) >>> ((1 : Int32) &&& 31)) - (((iush x3 ((4 : Int32) * (μ (c1 + 1) ((x2 * (3 : Int32)) + x5).toNatClampNeg))) &&& (15 : Int32)) >>> ((3 : Int32) &&& 31))) = (-1) ∧ v1 = 1)) → ∀ v2 : Int32, ((v1 = 0 ∧ v2 = (60 / (if 1 < (μ (c1 + 4) (μ (c1 + 1) ((x2 * (3 : Int32)) + x5).toNatClampNeg).toNatClampNeg) then (μ (c1 + 4) (μ (c1 + 1) ((x2 * (3 : Int32)) + x5).toNatClampNeg).toNatClampNeg) else 1))) ∨ (¬ v1 = 0 ∧ v2 = 60)) → Wm G mX6_weightOf E (bm G mX6_weightOf E (pI Q)) μ 6 [(1, .ref (gb G + c1)), (2, .int x2), (3, .int x3), (4, .int (x4 * v2)), (5, .int (x5 + (1 : Int32)))] []) (kk10 : ¬ (μ c1 1) ≤ x5 → ((iush x3 ((4 : Int32) * (μ (c1 + 1) ((x2 * (3 : Int32)) + x5).toNatClampNeg))) &&& (15 : Int32)) = 0 → Wm G mX6_weightOf E (bm G mX6_weightOf E (pI Q)) μ 6 [(1, .ref (gb G + c1)), (2, .int x2), (3, .int x3), (4, .int (x4 * (60 / (if 1 < (μ (c1 + 4) (μ (c1 + 1) ((x2 * (3 : Int32)) + x5).toNatClampNeg).toNatClampNeg) then (μ (c1 + 4) (μ (c1 + 1) ((x2 * (3 : Int32)) + x5).toNatClampNeg).toNatClampNeg) else 1)))), (5, .int (x5 + (1 : Int32)))] []) : Wm G mX6_weightOf E (bm G mX6_weightOf E (pI Q)) μ 6 [(1, .ref (gb G + c1)), (2, .int x2), (3, .int x3), (4, .int x4), (5, .int x5)] [] := by
  refine L_iload C dX6_weightOf_6 rfl ?_
  refine L_aload_n C (i := 1) dX6_weightOf_8 rfl rfl ?_
  refine L_getI C dX6_weightOf_9 h1 fl_X6_81 rfl ?_
  refine L_icmp_ge C (tgt := 72) dX6_weightOf_12 rfl (fun p1 => ?_) (fun p1 => ?_)
  · refine L_iload C dX6_weightOf_72 rfl ?_
    exact L_irI C dX6_weightOf_74 rfl (rr1 p1)
  · refine L_iload_n C (i := 3) dX6_weightOf_15 rfl rfl ?_
    refine L_aload_n C (i := 1) dX6_weightOf_16 rfl rfl ?_
    refine L_iload_n C (i := 2) dX6_weightOf_17 rfl rfl ?_
    refine L_iload C dX6_weightOf_18 rfl ?_
    refine L_invV2i C dX6_weightOf_20 h1 cal_X0_columnAt lk_X6_84 ⟨Nat.le_of_ble_eq_true rfl, Nat.le_of_ble_eq_true rfl⟩ ⟨Nat.le_of_ble_eq_true rfl, Nat.le_of_ble_eq_true rfl⟩ (Nat.le_of_ble_eq_true rfl) (a_X0_columnAt h1 (ss2 p1) (?_))
    · refine L_invSN2i C dX6_weightOf_23 cal_X11_levelIn stc_X11_levelIn nk_X6_87 ⟨Nat.le_of_ble_eq_true rfl, Nat.le_of_ble_eq_true rfl⟩ ⟨Nat.le_of_ble_eq_true rfl, Nat.le_of_ble_eq_true rfl⟩ (Nat.le_of_ble_eq_true rfl) (a_X11_levelIn (fun p2 => ?_) (fun p3 => ?_))
      · refine L_iconst C (v := (-1)) dX6_weightOf_26 rfl ?_
        refine phi (fun v1 : Int32 => Wm G mX6_weightOf E (bm G mX6_weightOf E (pI Q)) μ 35 [(1, .ref (gb G + c1)), (2, .int x2), (3, .int x3), (4, .int x4), (5, .int x5)] [.int v1]) (fun v1 : Int32 => (((((iush x3 ((4 : Int32) * (μ (c1 + 1) ((x2 * (3 : Int32)) + x5).toNatClampNeg))) &&& (15 : Int32)) >>> ((1 : Int32) &&& 31)) - (((iush x3 ((4 : Int32) * (μ (c1 + 1) ((x2 * (3 : Int32)) + x5).toNatClampNeg))) &&& (15 : Int32)) >>> ((3 : Int32) &&& 31))) = (-1) ∧ v1 = 0) ∨ (¬ ((((iush x3 ((4 : Int32) * (μ (c1 + 1) ((x2 * (3 : Int32)) + x5).toNatClampNeg))) &&& (15 : Int32)) >>> ((1 : Int32) &&& 31)) - (((iush x3 ((4 : Int32) * (μ (c1 + 1) ((x2 * (3 : Int32)) + x5).toNatClampNeg))) &&& (15 : Int32)) >>> ((3 : Int32) &&& 31))) = (-1) ∧ v1 = 1)) (fun H => ?_) (fun v1 hv1 => ?_)
        · refine L_icmp_eq C (tgt := 34) dX6_weightOf_27 rfl (fun p4 => ?_) (fun p4 => ?_)
          · refine L_iconst C (v := 0) dX6_weightOf_34 rfl ?_
            exact H _ (Or.inl ⟨p4, rfl⟩)
          · refine L_iconst C (v := 1) dX6_weightOf_30 rfl ?_
            refine L_goto C (tgt := 35) dX6_weightOf_31 rfl ?_
            exact H _ (Or.inr ⟨p4, rfl⟩)
        refine L_istore C dX6_weightOf_35 (Nat.le_of_ble_eq_true rfl) ?_
        refine L_iload C dX6_weightOf_37 rfl ?_
        refine L_iload C dX6_weightOf_39 rfl ?_
        refine phi (fun v2 : Int32 => Wm G mX6_weightOf E (bm G mX6_weightOf E (pI Q)) μ 63 [(1, .ref (gb G + c1)), (2, .int x2), (3, .int x3), (5, .int x5)] [.int v2, .int x4]) (fun v2 : Int32 => (v1 = 0 ∧ v2 = (60 / (if 1 < (μ (c1 + 4) (μ (c1 + 1) ((x2 * (3 : Int32)) + x5).toNatClampNeg).toNatClampNeg) then (μ (c1 + 4) (μ (c1 + 1) ((x2 * (3 : Int32)) + x5).toNatClampNeg).toNatClampNeg) else 1))) ∨ (¬ v1 = 0 ∧ v2 = 60)) (fun H => ?_) (fun v2 hv2 => ?_)
        · refine L_if_eq C (tgt := 49) dX6_weightOf_41 rfl (fun p5 => ?_) (fun p5 => ?_)
          · refine L_bipush C (v := 60) dX6_weightOf_49 rfl ?_
            refine L_iconst C (v := 1) dX6_weightOf_51 rfl ?_
            refine L_aload_n C (i := 1) dX6_weightOf_52 rfl rfl ?_
            refine L_iload_n C (i := 2) dX6_weightOf_53 rfl rfl ?_
            refine L_iload C dX6_weightOf_54 rfl ?_
            refine L_invV2i C dX6_weightOf_56 h1 cal_X0_levelsAt lk_X6_90 ⟨Nat.le_of_ble_eq_true rfl, Nat.le_of_ble_eq_true rfl⟩ ⟨Nat.le_of_ble_eq_true rfl, Nat.le_of_ble_eq_true rfl⟩ (Nat.le_of_ble_eq_true rfl) (a_X0_levelsAt h1 (ss3 p1 p2 v1 hv1 p5) (ss5 p1 p2 v1 hv1 p5) (?_))
            · refine L_max C dX6_weightOf_59 lk_X6_93 mmax_stat math_ini mmax_code (Nat.le_of_ble_eq_true rfl) (Nat.le_of_ble_eq_true rfl) (Nat.le_of_ble_eq_true rfl) ⟨Nat.le_of_ble_eq_true rfl, Nat.le_of_ble_eq_true rfl⟩ ?_
              refine L_idiv C dX6_weightOf_62 (dd7 p1 p2 v1 hv1 p5) ?_
              refine L_sub [0, 1, 2, 4] rfl ?_
              exact H _ (Or.inl ⟨p5, rfl⟩)
          · refine L_bipush C (v := 60) dX6_weightOf_44 rfl ?_
            refine L_goto C (tgt := 63) dX6_weightOf_46 rfl ?_
            refine L_sub [0, 1, 2, 4] rfl ?_
            exact H _ (Or.inr ⟨p5, rfl⟩)
        refine L_imul C dX6_weightOf_63 ?_
        refine L_istore C dX6_weightOf_64 (Nat.le_of_ble_eq_true rfl) ?_
        refine L_iinc C (v := 1) dX6_weightOf_66 rfl rfl (Nat.le_of_ble_eq_true rfl) ?_
        refine L_goto C (tgt := 6) dX6_weightOf_69 rfl ?_
        exact kk9 p1 p2 v1 hv1 v2 hv2
      · refine L_iconst C (v := (-1)) dX6_weightOf_26 rfl ?_
        refine L_icmp_eq C (tgt := 34) dX6_weightOf_27 rfl (fun p6 => ?_) (fun p6 => absurd p6 (by decide))
        refine L_iconst C (v := 0) dX6_weightOf_34 rfl ?_
        refine L_istore C dX6_weightOf_35 (Nat.le_of_ble_eq_true rfl) ?_
        refine L_iload C dX6_weightOf_37 rfl ?_
        refine L_iload C dX6_weightOf_39 rfl ?_
        refine L_if_eq C (tgt := 49) dX6_weightOf_41 rfl (fun p7 => ?_) (fun p7 => absurd p7 (by decide))
        refine L_bipush C (v := 60) dX6_weightOf_49 rfl ?_
        refine L_iconst C (v := 1) dX6_weightOf_51 rfl ?_
        refine L_aload_n C (i := 1) dX6_weightOf_52 rfl rfl ?_
        refine L_iload_n C (i := 2) dX6_weightOf_53 rfl rfl ?_
        refine L_iload C dX6_weightOf_54 rfl ?_
        refine L_invV2i C dX6_weightOf_56 h1 cal_X0_levelsAt lk_X6_90 ⟨Nat.le_of_ble_eq_true rfl, Nat.le_of_ble_eq_true rfl⟩ ⟨Nat.le_of_ble_eq_true rfl, Nat.le_of_ble_eq_true rfl⟩ (Nat.le_of_ble_eq_true rfl) (a_X0_levelsAt h1 (ss4 p1 p3) (ss6 p1 p3) (?_))
        · refine L_max C dX6_weightOf_59 lk_X6_93 mmax_stat math_ini mmax_code (Nat.le_of_ble_eq_true rfl) (Nat.le_of_ble_eq_true rfl) (Nat.le_of_ble_eq_true rfl) ⟨Nat.le_of_ble_eq_true rfl, Nat.le_of_ble_eq_true rfl⟩ ?_
          refine L_idiv C dX6_weightOf_62 (dd8 p1 p3) ?_
          refine L_imul C dX6_weightOf_63 ?_
          refine L_istore C dX6_weightOf_64 (Nat.le_of_ble_eq_true rfl) ?_
          refine L_iinc C (v := 1) dX6_weightOf_66 rfl rfl (Nat.le_of_ble_eq_true rfl) ?_
          refine L_goto C (tgt := 6) dX6_weightOf_69 rfl ?_
          refine L_sub [0, 1, 2, 3, 4] rfl ?_
          exact kk10 p1 p3
set_option maxRecDepth 4000 in
theorem k_X6_hopeOf_0 {G : mG} {E : mE} {Q : Int64 → mM → Prop} {μ : mM} (C : Cx G mX6_hopeOf E) {x1 : Int32} {c2 : Nat} (h2 : sh c2 = (0, 3)) (cc1 : CtI G (mX4_lawfulRow 63) [.ref (gb G + c2), .int (((μ c2 3) &&& ((((((x1 ||| (iush x1 1)) ||| (iush x1 2)) ||| (iush x1 3)) &&& (286331153 : Int32)) * (15 : Int32)) ^^^ ((-1) : Int32))) ||| x1), .int 0] μ (fun r μ' => Wm G mX6_hopeOf E (bm G mX6_hopeOf E (pL Q)) μ' 10 [(0, .ref (gb G + 31)), (1, .int x1), (2, .ref (gb G + c2)), (3, .ref (gb G + 22))] [.int r])) : Wm G mX6_hopeOf E (bm G mX6_hopeOf E (pL Q)) μ 0 [(0, .ref (gb G + 31)), (1, .int x1), (2, .ref (gb G + c2)), (3, .ref (gb G + 22))] [] := by
  refine L_aload_n C (i := 2) dX6_hopeOf_0 rfl rfl ?_
  refine L_aload_n C (i := 2) dX6_hopeOf_1 rfl rfl ?_
  refine L_iload_n C (i := 1) dX6_hopeOf_2 rfl rfl ?_
  refine L_invV1i C dX6_hopeOf_3 h2 cal_X4_leftTo lk_X6_42 ⟨Nat.le_of_ble_eq_true rfl, Nat.le_of_ble_eq_true rfl⟩ ⟨Nat.le_of_ble_eq_true rfl, Nat.le_of_ble_eq_true rfl⟩ (Nat.le_of_ble_eq_true rfl) (a_X4_leftTo h2 (?_))
  · refine L_iconst C (v := 0) dX6_hopeOf_6 rfl ?_
    refine L_invSN3i C dX6_hopeOf_7 (cal_X4_lawfulRow 63) stc_X4_lawfulRow nk_X6_46 ⟨Nat.le_of_ble_eq_true rfl, Nat.le_of_ble_eq_true rfl⟩ ⟨Nat.le_of_ble_eq_true rfl, Nat.le_of_ble_eq_true rfl⟩ (Nat.le_of_ble_eq_true rfl) ?_
    exact cc1
theorem e_X6_hopeOf {G : mG} {Q : Int64 → mM → Prop} {μ : mM} {x1 : Int32} {c2 : Nat} (h2 : sh c2 = (0, 3)) (k : ∀ E, Cx G mX6_hopeOf E → Wm G mX6_hopeOf E (bm G mX6_hopeOf E (pL Q)) μ 0 [(0, .ref (gb G + 31)), (1, .int x1), (2, .ref (gb G + c2)), (3, .ref (gb G + 22))] []) : CtL G mX6_hopeOf [.ref (gb G + 31), .int x1, .ref (gb G + c2), .ref (gb G + 22)] μ Q := CtL.of pn_X6 (Nat.le_of_ble_eq_true rfl) k
set_option maxRecDepth 4000 in
theorem k_X6_hopeOf_10 {G : mG} {E : mE} {Q : Int64 → mM → Prop} {μ : mM} (C : Cx G mX6_hopeOf E) {x1 : Int32} {c2 : Nat} (h2 : sh c2 = (0, 3)) {sx0 : Int32} (kk1 : ¬ sx0 = 0 → Wm G mX6_hopeOf E (bm G mX6_hopeOf E (pL Q)) μ 25 [(0, .ref (gb G + 31)), (1, .int x1), (2, .ref (gb G + c2)), (3, .ref (gb G + 22)), (4, .int sx0), (5, .long 0), (7, .int 0)] []) (rr2 : sx0 = 0 → Q 0 μ) : Wm G mX6_hopeOf E (bm G mX6_hopeOf E (pL Q)) μ 10 [(0, .ref (gb G + 31)), (1, .int x1), (2, .ref (gb G + c2)), (3, .ref (gb G + 22))] [.int sx0] := by
  refine L_istore C dX6_hopeOf_10 (Nat.le_of_ble_eq_true rfl) ?_
  refine L_iload C dX6_hopeOf_12 rfl ?_
  refine L_if_ne C (tgt := 19) dX6_hopeOf_14 rfl (fun p1 => ?_) (fun p1 => ?_)
  · refine L_lconst C (v := 0) dX6_hopeOf_19 rfl ?_
    refine L_lstore C dX6_hopeOf_20 (Nat.le_of_ble_eq_true rfl) ?_
    refine L_iconst C (v := 0) dX6_hopeOf_22 rfl ?_
    refine L_istore C dX6_hopeOf_23 (Nat.le_of_ble_eq_true rfl) ?_
    exact kk1 p1
  · refine L_lconst C (v := 0) dX6_hopeOf_17 rfl ?_
    exact L_irL C dX6_hopeOf_18 rfl (rr2 p1)
set_option maxRecDepth 4000 in
theorem k_X6_hopeOf_25 {G : mG} {E : mE} {Q : Int64 → mM → Prop} {μ : mM} (C : Cx G mX6_hopeOf E) {x1 : Int32} {c2 : Nat} (h2 : sh c2 = (0, 3)) {x4 : Int32} {y5 : Int64} {x7 : Int32} (rr1 : (μ 23 0) ≤ x7 → Q y5 μ) (cc2 : ¬ (μ 23 0) ≤ x7 → CtI G mX6_weightOf [.ref (gb G + 31), .ref (gb G + 23), .int x7, .int x1] μ (fun r μ' => Wm G mX6_hopeOf E (bm G mX6_hopeOf E (pL Q)) μ' 48 [(0, .ref (gb G + 31)), (1, .int x1), (2, .ref (gb G + c2)), (3, .ref (gb G + 22)), (4, .int x4), (5, .long y5), (7, .int x7)] [.int r])) : Wm G mX6_hopeOf E (bm G mX6_hopeOf E (pL Q)) μ 25 [(0, .ref (gb G + 31)), (1, .int x1), (2, .ref (gb G + c2)), (3, .ref (gb G + 22)), (4, .int x4), (5, .long y5), (7, .int x7)] [] := by
  refine L_iload C dX6_hopeOf_25 rfl ?_
  refine L_aload_n C (i := 3) dX6_hopeOf_27 rfl rfl ?_
  refine L_getC C (c' := 23) dX6_hopeOf_28 sh_22 fl_X6_49 rfl rfl ?_
  refine L_getI C dX6_hopeOf_31 sh_23 fl_X6_55 rfl ?_
  refine L_icmp_ge C (tgt := 157) dX6_hopeOf_34 rfl (fun p1 => ?_) (fun p1 => ?_)
  · refine L_lload C dX6_hopeOf_157 rfl ?_
    exact L_irL C dX6_hopeOf_159 rfl (rr1 p1)
  · refine L_aload_n C (i := 0) dX6_hopeOf_37 rfl rfl ?_
    refine L_aload_n C (i := 3) dX6_hopeOf_38 rfl rfl ?_
    refine L_getC C (c' := 23) dX6_hopeOf_39 sh_22 fl_X6_49 rfl rfl ?_
    refine L_iload C dX6_hopeOf_42 rfl ?_
    refine L_iload_n C (i := 1) dX6_hopeOf_44 rfl rfl ?_
    refine L_invV3i C dX6_hopeOf_45 sh_31 cal_X6_weightOf lk_X6_60 ⟨Nat.le_of_ble_eq_true rfl, Nat.le_of_ble_eq_true rfl⟩ ⟨Nat.le_of_ble_eq_true rfl, Nat.le_of_ble_eq_true rfl⟩ (Nat.le_of_ble_eq_true rfl) ?_
    exact cc2 p1
set_option maxRecDepth 4000 in
theorem k_X6_hopeOf_48 {G : mG} {E : mE} {B : mB} {μ : mM} (C : Cx G mX6_hopeOf E) {x1 : Int32} {c2 : Nat} (h2 : sh c2 = (0, 3)) {x4 : Int32} {y5 : Int64} {x7 : Int32} {sx0 : Int32} (ss1 : vp_in x7 57) (kk2 : Wm G mX6_hopeOf E B μ 62 [(0, .ref (gb G + 31)), (1, .int x1), (2, .ref (gb G + c2)), (3, .ref (gb G + 22)), (4, .int x4), (5, .long y5), (7, .int x7), (8, .int sx0), (9, .int (μ 25 x7.toNatClampNeg))] []) : Wm G mX6_hopeOf E B μ 48 [(0, .ref (gb G + 31)), (1, .int x1), (2, .ref (gb G + c2)), (3, .ref (gb G + 22)), (4, .int x4), (5, .long y5), (7, .int x7)] [.int sx0] := by
  refine L_istore C dX6_hopeOf_48 (Nat.le_of_ble_eq_true rfl) ?_
  refine L_aload_n C (i := 3) dX6_hopeOf_50 rfl rfl ?_
  refine L_getC C (c' := 23) dX6_hopeOf_51 sh_22 fl_X6_49 rfl rfl ?_
  refine L_getC C (c' := 25) dX6_hopeOf_54 sh_23 fl_X6_64 rfl rfl ?_
  refine L_iload C dX6_hopeOf_57 rfl ?_
  refine L_iald C dX6_hopeOf_59 sh_25 (ss1) ?_
  refine L_istore C dX6_hopeOf_60 (Nat.le_of_ble_eq_true rfl) ?_
  exact kk2
set_option maxRecDepth 4000 in
theorem k_X6_hopeOf_62 {G : mG} {E : mE} {Q : Int64 → mM → Prop} {μ : mM} (C : Cx G mX6_hopeOf E) {x1 : Int32} {c2 : Nat} (h2 : sh c2 = (0, 3)) {x4 : Int32} {y5 : Int64} {x7 : Int32} {x8 : Int32} {x9 : Int32} (ss1 : vp_in (x7 + (1 : Int32)) 57) (kk2 : (μ 25 (x7 + (1 : Int32)).toNatClampNeg) ≤ x9 → Wm G mX6_hopeOf E (bm G mX6_hopeOf E (pL Q)) μ 25 [(0, .ref (gb G + 31)), (1, .int x1), (2, .ref (gb G + c2)), (3, .ref (gb G + 22)), (4, .int x4), (5, .long y5), (7, .int (x7 + (1 : Int32)))] []) (ss3 : ¬ (μ 25 (x7 + (1 : Int32)).toNatClampNeg) ≤ x9 → vp_in x9 1200) (ss4 : ¬ (μ 25 (x7 + (1 : Int32)).toNatClampNeg) ≤ x9 → ∀ v1 : Int32, ((((x1 &&& ((((((μ 28 x9.toNatClampNeg) ||| (iush (μ 28 x9.toNatClampNeg) 1)) ||| (iush (μ 28 x9.toNatClampNeg) 2)) ||| (iush (μ 28 x9.toNatClampNeg) 3)) &&& (286331153 : Int32)) * (15 : Int32))) &&& ((μ 28 x9.toNatClampNeg) ^^^ ((-1) : Int32))) = 0 ∧ v1 = 0) ∨ (¬ ((x1 &&& ((((((μ 28 x9.toNatClampNeg) ||| (iush (μ 28 x9.toNatClampNeg) 1)) ||| (iush (μ 28 x9.toNatClampNeg) 2)) ||| (iush (μ 28 x9.toNatClampNeg) 3)) &&& (286331153 : Int32)) * (15 : Int32))) &&& ((μ 28 x9.toNatClampNeg) ^^^ ((-1) : Int32))) = 0 ∧ v1 = 1)) → v1 = 0 → vp_in x9 1200) (kk5 : ¬ (μ 25 (x7 + (1 : Int32)).toNatClampNeg) ≤ x9 → ∀ v1 : Int32, ((((x1 &&& ((((((μ 28 x9.toNatClampNeg) ||| (iush (μ 28 x9.toNatClampNeg) 1)) ||| (iush (μ 28 x9.toNatClampNeg) 2)) ||| (iush (μ 28 x9.toNatClampNeg) 3)) &&& (286331153 : Int32)) * (15 : Int32))) &&& ((μ 28 x9.toNatClampNeg) ^^^ ((-1) : Int32))) = 0 ∧ v1 = 0) ∨ (¬ ((x1 &&& ((((((μ 28 x9.toNatClampNeg) ||| (iush (μ 28 x9.toNatClampNeg) 1)) ||| (iush (μ 28 x9.toNatClampNeg) 2)) ||| (iush (μ 28 x9.toNatClampNeg) 3)) &&& (286331153 : Int32)) * (15 : Int32))) &&& ((μ 28 x9.toNatClampNeg) ^^^ ((-1) : Int32))) = 0 ∧ v1 = 1)) → (¬ v1 = 0 ∨ (v1 = 0 ∧ (¬ (μ 30 x9.toNatClampNeg) = 0 ∨ ((μ 30 x9.toNatClampNeg) = 0 ∧ (μ 29 x9.toNatClampNeg) = 0)))) → Wm G mX6_hopeOf E (bm G mX6_hopeOf E (pL Q)) μ 62 [(0, .ref (gb G + 31)), (1, .int x1), (2, .ref (gb G + c2)), (3, .ref (gb G + 22)), (4, .int x4), (5, .long y5), (7, .int x7), (8, .int x8), (9, .int (x9 + (1 : Int32)))] []) (cc6 : ¬ (μ 25 (x7 + (1 : Int32)).toNatClampNeg) ≤ x9 → ∀ v1 : Int32, ((((x1 &&& ((((((μ 28 x9.toNatClampNeg) ||| (iush (μ 28 x9.toNatClampNeg) 1)) ||| (iush (μ 28 x9.toNatClampNeg) 2)) ||| (iush (μ 28 x9.toNatClampNeg) 3)) &&& (286331153 : Int32)) * (15 : Int32))) &&& ((μ 28 x9.toNatClampNeg) ^^^ ((-1) : Int32))) = 0 ∧ v1 = 0) ∨ (¬ ((x1 &&& ((((((μ 28 x9.toNatClampNeg) ||| (iush (μ 28 x9.toNatClampNeg) 1)) ||| (iush (μ 28 x9.toNatClampNeg) 2)) ||| (iush (μ 28 x9.toNatClampNeg) 3)) &&& (286331153 : Int32)) * (15 : Int32))) &&& ((μ 28 x9.toNatClampNeg) ^^^ ((-1) : Int32))) = 0 ∧ v1 = 1)) → v1 = 0 → (μ 30 x9.toNatClampNeg) = 0 → ¬ (μ 29 x9.toNatClampNeg) = 0 → CtI G mX4_lawfulNear [.ref (gb G + c2), .int x4, .int (x1 ||| (μ 28 x9.toNatClampNeg))] μ (fun r μ' => Wm G mX6_hopeOf E (bm G mX6_hopeOf E (pL Q)) μ' 134 [(0, .ref (gb G + 31)), (1, .int x1), (2, .ref (gb G + c2)), (3, .ref (gb G + 22)), (4, .int x4), (5, .long y5), (7, .int x7), (8, .int x8), (9, .int x9)] [.int r])) : Wm G mX6_hopeOf E (bm G mX6_hopeOf E (pL Q)) μ 62 [(0, .ref (gb G + 31)), (1, .int x1), (2, .ref (gb G + c2)), (3, .ref (gb G + 22)), (4, .int x4), (5, .long y5), (7, .int x7), (8, .int x8), (9, .int x9)] [] := by
  refine L_iload C dX6_hopeOf_62 rfl ?_
  refine L_aload_n C (i := 3) dX6_hopeOf_64 rfl rfl ?_
  refine L_getC C (c' := 23) dX6_hopeOf_65 sh_22 fl_X6_49 rfl rfl ?_
  refine L_getC C (c' := 25) dX6_hopeOf_68 sh_23 fl_X6_64 rfl rfl ?_
  refine L_iload C dX6_hopeOf_71 rfl ?_
  refine L_iconst C (v := 1) dX6_hopeOf_73 rfl ?_
  refine L_iadd C dX6_hopeOf_74 ?_
  refine L_iald C dX6_hopeOf_75 sh_25 (ss1) ?_
  refine L_icmp_ge C (tgt := 151) dX6_hopeOf_76 rfl (fun p1 => ?_) (fun p1 => ?_)
  · refine L_iinc C (v := 1) dX6_hopeOf_151 rfl rfl (Nat.le_of_ble_eq_true rfl) ?_
    refine L_goto C (tgt := 25) dX6_hopeOf_154 rfl ?_
    refine L_sub [0, 1, 2, 3, 4, 5, 6] rfl ?_
    exact kk2 p1
  · refine L_aload_n C (i := 3) dX6_hopeOf_79 rfl rfl ?_
    refine L_getC C (c' := 28) dX6_hopeOf_80 sh_22 fl_X6_67 rfl rfl ?_
    refine L_iload C dX6_hopeOf_83 rfl ?_
    refine L_iald C dX6_hopeOf_85 sh_28 (ss3 p1) ?_
    refine L_istore C dX6_hopeOf_86 (Nat.le_of_ble_eq_true rfl) ?_
    refine L_iload_n C (i := 1) dX6_hopeOf_88 rfl rfl ?_
    refine L_iload C dX6_hopeOf_89 rfl ?_
    refine L_invSN1i C dX6_hopeOf_91 cal_X11_columnsOf stc_X11_columnsOf nk_X6_70 ⟨Nat.le_of_ble_eq_true rfl, Nat.le_of_ble_eq_true rfl⟩ ⟨Nat.le_of_ble_eq_true rfl, Nat.le_of_ble_eq_true rfl⟩ (Nat.le_of_ble_eq_true rfl) (a_X11_columnsOf (?_))
    · refine L_iand C dX6_hopeOf_94 ?_
      refine L_iload C dX6_hopeOf_95 rfl ?_
      refine L_iconst C (v := (-1)) dX6_hopeOf_97 rfl ?_
      refine L_ixor C dX6_hopeOf_98 ?_
      refine L_iand C dX6_hopeOf_99 ?_
      refine phi (fun v1 : Int32 => Wm G mX6_hopeOf E (bm G mX6_hopeOf E (pL Q)) μ 108 [(0, .ref (gb G + 31)), (1, .int x1), (2, .ref (gb G + c2)), (3, .ref (gb G + 22)), (4, .int x4), (5, .long y5), (7, .int x7), (8, .int x8), (9, .int x9), (10, .int (μ 28 x9.toNatClampNeg))] [.int v1]) (fun v1 : Int32 => (((x1 &&& ((((((μ 28 x9.toNatClampNeg) ||| (iush (μ 28 x9.toNatClampNeg) 1)) ||| (iush (μ 28 x9.toNatClampNeg) 2)) ||| (iush (μ 28 x9.toNatClampNeg) 3)) &&& (286331153 : Int32)) * (15 : Int32))) &&& ((μ 28 x9.toNatClampNeg) ^^^ ((-1) : Int32))) = 0 ∧ v1 = 0) ∨ (¬ ((x1 &&& ((((((μ 28 x9.toNatClampNeg) ||| (iush (μ 28 x9.toNatClampNeg) 1)) ||| (iush (μ 28 x9.toNatClampNeg) 2)) ||| (iush (μ 28 x9.toNatClampNeg) 3)) &&& (286331153 : Int32)) * (15 : Int32))) &&& ((μ 28 x9.toNatClampNeg) ^^^ ((-1) : Int32))) = 0 ∧ v1 = 1)) (fun H => ?_) (fun v1 hv1 => ?_)
      · refine L_if_eq C (tgt := 107) dX6_hopeOf_100 rfl (fun p2 => ?_) (fun p2 => ?_)
        · refine L_iconst C (v := 0) dX6_hopeOf_107 rfl ?_
          exact H _ (Or.inl ⟨p2, rfl⟩)
        · refine L_iconst C (v := 1) dX6_hopeOf_103 rfl ?_
          refine L_goto C (tgt := 108) dX6_hopeOf_104 rfl ?_
          exact H _ (Or.inr ⟨p2, rfl⟩)
      refine L_istore C dX6_hopeOf_108 (Nat.le_of_ble_eq_true rfl) ?_
      refine L_iload C dX6_hopeOf_110 rfl ?_
      refine L_if_ne C (tgt := 145) dX6_hopeOf_112 rfl (fun p3 => ?_) (fun p3 => ?_)
      · refine L_iinc C (v := 1) dX6_hopeOf_145 rfl rfl (Nat.le_of_ble_eq_true rfl) ?_
        refine L_goto C (tgt := 62) dX6_hopeOf_148 rfl ?_
        refine L_sub [0, 1, 2, 3, 4, 5, 6, 7, 8] rfl ?_
        exact kk5 p1 v1 hv1 (Or.inl p3)
      · refine L_aload_n C (i := 3) dX6_hopeOf_115 rfl rfl ?_
        refine L_iload C dX6_hopeOf_116 rfl ?_
        refine L_invV1i C dX6_hopeOf_118 sh_22 cal_X2_isOpen lk_X6_73 ⟨Nat.le_of_ble_eq_true rfl, Nat.le_of_ble_eq_true rfl⟩ ⟨Nat.le_of_ble_eq_true rfl, Nat.le_of_ble_eq_true rfl⟩ (Nat.le_of_ble_eq_true rfl) (a_X2_isOpen (ss4 p1 v1 hv1 p3) (fun p4 => ?_) (fun p5 p6 => ?_))
        · refine L_if_eq C (tgt := 145) dX6_hopeOf_121 rfl (fun p7 => ?_) (fun p7 => absurd p7 (by decide))
          refine L_iinc C (v := 1) dX6_hopeOf_145 rfl rfl (Nat.le_of_ble_eq_true rfl) ?_
          refine L_goto C (tgt := 62) dX6_hopeOf_148 rfl ?_
          refine L_sub [0, 1, 2, 3, 4, 5, 6, 7, 8] rfl ?_
          exact kk5 p1 v1 hv1 (Or.inr ⟨p3, p4⟩)
        · refine L_if_eq C (tgt := 145) dX6_hopeOf_121 rfl (fun p8 => absurd p8 (by decide)) (fun p8 => ?_)
          refine L_aload_n C (i := 2) dX6_hopeOf_124 rfl rfl ?_
          refine L_iload C dX6_hopeOf_125 rfl ?_
          refine L_iload_n C (i := 1) dX6_hopeOf_127 rfl rfl ?_
          refine L_iload C dX6_hopeOf_128 rfl ?_
          refine L_ior C dX6_hopeOf_130 ?_
          refine L_sub [0, 1, 2, 3, 4, 5, 6, 7, 8] rfl ?_
          refine L_invV2i C dX6_hopeOf_131 h2 cal_X4_lawfulNear lk_X6_77 ⟨Nat.le_of_ble_eq_true rfl, Nat.le_of_ble_eq_true rfl⟩ ⟨Nat.le_of_ble_eq_true rfl, Nat.le_of_ble_eq_true rfl⟩ (Nat.le_of_ble_eq_true rfl) ?_
          exact cc6 p1 v1 hv1 p3 p5 p6
set_option maxRecDepth 4000 in
theorem k_X6_hopeOf_134 {G : mG} {E : mE} {B : mB} {μ : mM} (C : Cx G mX6_hopeOf E) {x1 : Int32} {c2 : Nat} (h2 : sh c2 = (0, 3)) {x4 : Int32} {y5 : Int64} {x7 : Int32} {x8 : Int32} {x9 : Int32} {sx0 : Int32} (kk1 : sx0 = 0 → Wm G mX6_hopeOf E B μ 62 [(0, .ref (gb G + 31)), (1, .int x1), (2, .ref (gb G + c2)), (3, .ref (gb G + 22)), (4, .int x4), (5, .long y5), (7, .int x7), (8, .int x8), (9, .int (x9 + (1 : Int32)))] []) (kk2 : ¬ sx0 = 0 → Wm G mX6_hopeOf E B μ 62 [(0, .ref (gb G + 31)), (1, .int x1), (2, .ref (gb G + c2)), (3, .ref (gb G + 22)), (4, .int x4), (5, .long (y5 + x8.toInt64)), (7, .int x7), (8, .int x8), (9, .int (x9 + (1 : Int32)))] []) : Wm G mX6_hopeOf E B μ 134 [(0, .ref (gb G + 31)), (1, .int x1), (2, .ref (gb G + c2)), (3, .ref (gb G + 22)), (4, .int x4), (5, .long y5), (7, .int x7), (8, .int x8), (9, .int x9)] [.int sx0] := by
  refine L_if_eq C (tgt := 145) dX6_hopeOf_134 rfl (fun p1 => ?_) (fun p1 => ?_)
  · refine L_iinc C (v := 1) dX6_hopeOf_145 rfl rfl (Nat.le_of_ble_eq_true rfl) ?_
    refine L_goto C (tgt := 62) dX6_hopeOf_148 rfl ?_
    exact kk1 p1
  · refine L_lload C dX6_hopeOf_137 rfl ?_
    refine L_iload C dX6_hopeOf_139 rfl ?_
    refine L_i2l C dX6_hopeOf_141 ?_
    refine L_ladd C dX6_hopeOf_142 ?_
    refine L_lstore C dX6_hopeOf_143 (Nat.le_of_ble_eq_true rfl) ?_
    refine L_iinc C (v := 1) dX6_hopeOf_145 rfl rfl (Nat.le_of_ble_eq_true rfl) ?_
    refine L_goto C (tgt := 62) dX6_hopeOf_148 rfl ?_
    exact kk2 p1
set_option maxRecDepth 4000 in
theorem k_X11_hope_0 {G : mG} {E : mE} {Q : Int64 → mM → Prop} {μ : mM} (C : Cx G mX11_hope E) {x1 : Int32} (cc1 : CtI G mX11_rowBy [.ref (gb G + 0), .int x1] μ (fun r μ' => Wm G mX11_hope E (bm G mX11_hope E (pL Q)) μ' 5 [(0, .ref (gb G + 0))] [.int r])) : Wm G mX11_hope E (bm G mX11_hope E (pL Q)) μ 0 [(0, .ref (gb G + 0)), (1, .int x1)] [] := by
  refine L_aload_n C (i := 0) dX11_hope_0 rfl rfl ?_
  refine L_iload_n C (i := 1) dX11_hope_1 rfl rfl ?_
  refine L_sub [0] rfl ?_
  refine L_invV1i C dX11_hope_2 sh_0 cal_X11_rowBy lk_X11_137 ⟨Nat.le_of_ble_eq_true rfl, Nat.le_of_ble_eq_true rfl⟩ ⟨Nat.le_of_ble_eq_true rfl, Nat.le_of_ble_eq_true rfl⟩ (Nat.le_of_ble_eq_true rfl) ?_
  exact cc1
theorem e_X11_hope {G : mG} {Q : Int64 → mM → Prop} {μ : mM} {x1 : Int32} (k : ∀ E, Cx G mX11_hope E → Wm G mX11_hope E (bm G mX11_hope E (pL Q)) μ 0 [(0, .ref (gb G + 0)), (1, .int x1)] []) : CtL G mX11_hope [.ref (gb G + 0), .int x1] μ Q := CtL.of pn_X11 (Nat.le_of_ble_eq_true rfl) k
set_option maxRecDepth 4000 in
theorem k_X11_hope_5 {G : mG} {E : mE} {Q : Int64 → mM → Prop} {μ : mM} (C : Cx G mX11_hope E) {sx0 : Int32} (cc1 : ¬ sx0 = (-1) → CtL G mX6_hopeOf [.ref (gb G + 31), .int sx0, .ref (gb G + 15), .ref (gb G + 22)] μ (fun r μ' => Wm G mX11_hope E (bm G mX11_hope E (pL Q)) μ' 36 [] [.long r])) (kk2 : sx0 = (-1) → Wm G mX11_hope E (bm G mX11_hope E (pL Q)) μ 36 [] [.long (-1)]) : Wm G mX11_hope E (bm G mX11_hope E (pL Q)) μ 5 [(0, .ref (gb G + 0))] [.int sx0] := by
  refine L_istore_n C (i := 2) dX11_hope_5 rfl (Nat.le_of_ble_eq_true rfl) ?_
  refine L_iload_n C (i := 2) dX11_hope_6 rfl rfl ?_
  refine L_iconst C (v := (-1)) dX11_hope_7 rfl ?_
  refine L_icmp_ne C (tgt := 17) dX11_hope_8 rfl (fun p1 => ?_) (fun p1 => ?_)
  · refine L_aload_n C (i := 0) dX11_hope_17 rfl rfl ?_
    refine L_getC C (c' := 31) dX11_hope_18 sh_0 fl_X11_40 rfl rfl ?_
    refine L_iload_n C (i := 2) dX11_hope_21 rfl rfl ?_
    refine L_aload_n C (i := 0) dX11_hope_22 rfl rfl ?_
    refine L_getC C (c' := 14) dX11_hope_23 sh_0 fl_X11_26 rfl rfl ?_
    refine L_getC C (c' := 15) dX11_hope_26 sh_14 fl_X11_77 rfl rfl ?_
    refine L_aload_n C (i := 0) dX11_hope_29 rfl rfl ?_
    refine L_getC C (c' := 22) dX11_hope_30 sh_0 fl_X11_33 rfl rfl ?_
    refine L_sub [] rfl ?_
    refine L_invV3l C dX11_hope_33 sh_31 cal_X6_hopeOf lk_X11_177 ⟨Nat.le_of_ble_eq_true rfl, Nat.le_of_ble_eq_true rfl⟩ ⟨Nat.le_of_ble_eq_true rfl, Nat.le_of_ble_eq_true rfl⟩ (Nat.le_of_ble_eq_true rfl) ?_
    exact cc1 p1
  · refine L_ldc2 C dX11_hope_11 cn_X11_175 ?_
    refine L_goto C (tgt := 36) dX11_hope_14 rfl ?_
    refine L_sub [] rfl ?_
    exact kk2 p1
set_option maxRecDepth 4000 in
theorem k_X11_hope_36 {G : mG} {E : mE} {Q : Int64 → mM → Prop} {μ : mM} (C : Cx G mX11_hope E) {sy0 : Int64} (rr1 : Q sy0 μ) : Wm G mX11_hope E (bm G mX11_hope E (pL Q)) μ 36 [] [.long sy0] := by
  exact L_irL C dX11_hope_36 rfl (rr1)
set_option maxRecDepth 4000 in
theorem k_X6_gather_0 {G : mG} {E : mE} {B : mB} {μ : mM} (C : Cx G mX6_gather E)  (kk1 : Wm G mX6_gather E B (ms μ 31 3 0) 7 [(0, .ref (gb G + 31)), (1, .ref (gb G + 22)), (2, .int 0)] []) : Wm G mX6_gather E B μ 0 [(0, .ref (gb G + 31)), (1, .ref (gb G + 22))] [] := by
  refine L_aload_n C (i := 0) dX6_gather_0 rfl rfl ?_
  refine L_iconst C (v := 0) dX6_gather_1 rfl ?_
  refine L_putI C dX6_gather_2 sh_31 fl_X6_98 rfl rfl rfl ?_
  refine L_iconst C (v := 0) dX6_gather_5 rfl ?_
  refine L_istore_n C (i := 2) dX6_gather_6 rfl (Nat.le_of_ble_eq_true rfl) ?_
  exact kk1
theorem e_X6_gather {G : mG} {Q : mM → Prop} {μ : mM}  (k : ∀ E, Cx G mX6_gather E → Wm G mX6_gather E (bm G mX6_gather E (pV Q)) μ 0 [(0, .ref (gb G + 31)), (1, .ref (gb G + 22))] []) : CtV G mX6_gather [.ref (gb G + 31), .ref (gb G + 22)] μ Q := CtV.of pn_X6 (Nat.le_of_ble_eq_true rfl) k
set_option maxRecDepth 4000 in
theorem k_X6_gather_7 {G : mG} {E : mE} {Q : mM → Prop} {μ : mM} (C : Cx G mX6_gather E) {x2 : Int32} (rr1 : (μ 23 0) ≤ x2 → Q μ) (cc2 : ¬ (μ 23 0) ≤ x2 → CtI G mX6_weightOf [.ref (gb G + 31), .ref (gb G + 23), .int x2, .int 0] μ (fun r μ' => Wm G mX6_gather E (bm G mX6_gather E (pV Q)) μ' 28 [(0, .ref (gb G + 31)), (1, .ref (gb G + 22)), (2, .int x2)] [.int r])) : Wm G mX6_gather E (bm G mX6_gather E (pV Q)) μ 7 [(0, .ref (gb G + 31)), (1, .ref (gb G + 22)), (2, .int x2)] [] := by
  refine L_iload_n C (i := 2) dX6_gather_7 rfl rfl ?_
  refine L_aload_n C (i := 1) dX6_gather_8 rfl rfl ?_
  refine L_getC C (c' := 23) dX6_gather_9 sh_22 fl_X6_49 rfl rfl ?_
  refine L_getI C dX6_gather_12 sh_23 fl_X6_55 rfl ?_
  refine L_icmp_ge C (tgt := 129) dX6_gather_15 rfl (fun p1 => ?_) (fun p1 => ?_)
  · exact L_irV C dX6_gather_129 rfl (rr1 p1)
  · refine L_aload_n C (i := 0) dX6_gather_18 rfl rfl ?_
    refine L_aload_n C (i := 1) dX6_gather_19 rfl rfl ?_
    refine L_getC C (c' := 23) dX6_gather_20 sh_22 fl_X6_49 rfl rfl ?_
    refine L_iload_n C (i := 2) dX6_gather_23 rfl rfl ?_
    refine L_iconst C (v := 0) dX6_gather_24 rfl ?_
    refine L_invV3i C dX6_gather_25 sh_31 cal_X6_weightOf lk_X6_60 ⟨Nat.le_of_ble_eq_true rfl, Nat.le_of_ble_eq_true rfl⟩ ⟨Nat.le_of_ble_eq_true rfl, Nat.le_of_ble_eq_true rfl⟩ (Nat.le_of_ble_eq_true rfl) ?_
    exact cc2 p1
set_option maxRecDepth 4000 in
theorem k_X6_gather_28 {G : mG} {E : mE} {B : mB} {μ : mM} (C : Cx G mX6_gather E) {x2 : Int32} {sx0 : Int32} (ss1 : vp_in x2 57) (kk2 : Wm G mX6_gather E B μ 40 [(0, .ref (gb G + 31)), (1, .ref (gb G + 22)), (2, .int x2), (3, .int sx0), (4, .int (μ 25 x2.toNatClampNeg))] []) : Wm G mX6_gather E B μ 28 [(0, .ref (gb G + 31)), (1, .ref (gb G + 22)), (2, .int x2)] [.int sx0] := by
  refine L_istore_n C (i := 3) dX6_gather_28 rfl (Nat.le_of_ble_eq_true rfl) ?_
  refine L_aload_n C (i := 1) dX6_gather_29 rfl rfl ?_
  refine L_getC C (c' := 23) dX6_gather_30 sh_22 fl_X6_49 rfl rfl ?_
  refine L_getC C (c' := 25) dX6_gather_33 sh_23 fl_X6_64 rfl rfl ?_
  refine L_iload_n C (i := 2) dX6_gather_36 rfl rfl ?_
  refine L_iald C dX6_gather_37 sh_25 (ss1) ?_
  refine L_istore C dX6_gather_38 (Nat.le_of_ble_eq_true rfl) ?_
  exact kk2
set_option maxRecDepth 4000 in
theorem k_X6_gather_40 {G : mG} {E : mE} {Q : mM → Prop} {μ : mM} (C : Cx G mX6_gather E) {x2 : Int32} {x3 : Int32} {x4 : Int32} (ss1 : vp_in (x2 + (1 : Int32)) 57) (kk2 : (μ 25 (x2 + (1 : Int32)).toNatClampNeg) ≤ x4 → Wm G mX6_gather E (bm G mX6_gather E (pV Q)) μ 7 [(0, .ref (gb G + 31)), (1, .ref (gb G + 22)), (2, .int (x2 + (1 : Int32)))] []) (ss3 : ¬ (μ 25 (x2 + (1 : Int32)).toNatClampNeg) ≤ x4 → vp_in x4 1200) (kk4 : ¬ (μ 25 (x2 + (1 : Int32)).toNatClampNeg) ≤ x4 → (¬ (μ 30 x4.toNatClampNeg) = 0 ∨ ((μ 30 x4.toNatClampNeg) = 0 ∧ (μ 29 x4.toNatClampNeg) = 0)) → Wm G mX6_gather E (bm G mX6_gather E (pV Q)) μ 40 [(0, .ref (gb G + 31)), (1, .ref (gb G + 22)), (2, .int x2), (3, .int x3), (4, .int (x4 + (1 : Int32)))] []) (ss5 : ¬ (μ 25 (x2 + (1 : Int32)).toNatClampNeg) ≤ x4 → (μ 30 x4.toNatClampNeg) = 0 → ¬ (μ 29 x4.toNatClampNeg) = 0 → vp_in (μ 31 3) 1200) (kk6 : ¬ (μ 25 (x2 + (1 : Int32)).toNatClampNeg) ≤ x4 → (μ 30 x4.toNatClampNeg) = 0 → ¬ (μ 29 x4.toNatClampNeg) = 0 → Wm G mX6_gather E (bm G mX6_gather E (pV Q)) (ms (ms (ms (ms μ 32 (μ 31 3).toNatClampNeg (μ 28 x4.toNatClampNeg)) 33 (μ 31 3).toNatClampNeg x3) 34 (μ 31 3).toNatClampNeg (μ 29 x4.toNatClampNeg)) 31 3 ((μ 31 3) + (1 : Int32))) 40 [(0, .ref (gb G + 31)), (1, .ref (gb G + 22)), (2, .int x2), (3, .int x3), (4, .int (x4 + (1 : Int32)))] []) : Wm G mX6_gather E (bm G mX6_gather E (pV Q)) μ 40 [(0, .ref (gb G + 31)), (1, .ref (gb G + 22)), (2, .int x2), (3, .int x3), (4, .int x4)] [] := by
  refine L_iload C dX6_gather_40 rfl ?_
  refine L_aload_n C (i := 1) dX6_gather_42 rfl rfl ?_
  refine L_getC C (c' := 23) dX6_gather_43 sh_22 fl_X6_49 rfl rfl ?_
  refine L_getC C (c' := 25) dX6_gather_46 sh_23 fl_X6_64 rfl rfl ?_
  refine L_iload_n C (i := 2) dX6_gather_49 rfl rfl ?_
  refine L_iconst C (v := 1) dX6_gather_50 rfl ?_
  refine L_iadd C dX6_gather_51 ?_
  refine L_iald C dX6_gather_52 sh_25 (ss1) ?_
  refine L_icmp_ge C (tgt := 123) dX6_gather_53 rfl (fun p1 => ?_) (fun p1 => ?_)
  · refine L_iinc C (v := 1) dX6_gather_123 rfl rfl (Nat.le_of_ble_eq_true rfl) ?_
    refine L_goto C (tgt := 7) dX6_gather_126 rfl ?_
    refine L_sub [0, 1, 2] rfl ?_
    exact kk2 p1
  · refine L_aload_n C (i := 1) dX6_gather_56 rfl rfl ?_
    refine L_iload C dX6_gather_57 rfl ?_
    refine L_invV1i C dX6_gather_59 sh_22 cal_X2_isOpen lk_X6_73 ⟨Nat.le_of_ble_eq_true rfl, Nat.le_of_ble_eq_true rfl⟩ ⟨Nat.le_of_ble_eq_true rfl, Nat.le_of_ble_eq_true rfl⟩ (Nat.le_of_ble_eq_true rfl) (a_X2_isOpen (ss3 p1) (fun p2 => ?_) (fun p3 p4 => ?_))
    · refine L_if_eq C (tgt := 117) dX6_gather_62 rfl (fun p5 => ?_) (fun p5 => absurd p5 (by decide))
      refine L_iinc C (v := 1) dX6_gather_117 rfl rfl (Nat.le_of_ble_eq_true rfl) ?_
      refine L_goto C (tgt := 40) dX6_gather_120 rfl ?_
      exact kk4 p1 p2
    · refine L_if_eq C (tgt := 117) dX6_gather_62 rfl (fun p6 => absurd p6 (by decide)) (fun p6 => ?_)
      refine L_aload_n C (i := 0) dX6_gather_65 rfl rfl ?_
      refine L_getC C (c' := 32) dX6_gather_66 sh_31 fl_X6_9 rfl rfl ?_
      refine L_aload_n C (i := 0) dX6_gather_69 rfl rfl ?_
      refine L_getI C dX6_gather_70 sh_31 fl_X6_98 rfl ?_
      refine L_aload_n C (i := 1) dX6_gather_73 rfl rfl ?_
      refine L_getC C (c' := 28) dX6_gather_74 sh_22 fl_X6_67 rfl rfl ?_
      refine L_iload C dX6_gather_77 rfl ?_
      refine L_iald C dX6_gather_79 sh_28 (ss3 p1) ?_
      refine L_iast C dX6_gather_80 sh_32 (ss5 p1 p3 p4) ?_
      refine L_aload_n C (i := 0) dX6_gather_81 rfl rfl ?_
      refine L_getC C (c' := 33) dX6_gather_82 sh_31 fl_X6_15 rfl rfl ?_
      refine L_aload_n C (i := 0) dX6_gather_85 rfl rfl ?_
      refine L_getI C dX6_gather_86 sh_31 fl_X6_98 rfl ?_
      refine L_iload_n C (i := 3) dX6_gather_89 rfl rfl ?_
      refine L_iast C dX6_gather_90 sh_33 (ss5 p1 p3 p4) ?_
      refine L_aload_n C (i := 0) dX6_gather_91 rfl rfl ?_
      refine L_getC C (c' := 34) dX6_gather_92 sh_31 fl_X6_18 rfl rfl ?_
      refine L_aload_n C (i := 0) dX6_gather_95 rfl rfl ?_
      refine L_getI C dX6_gather_96 sh_31 fl_X6_98 rfl ?_
      refine L_aload_n C (i := 1) dX6_gather_99 rfl rfl ?_
      refine L_getC C (c' := 29) dX6_gather_100 sh_22 fl_X6_99 rfl rfl ?_
      refine L_iload C dX6_gather_103 rfl ?_
      refine L_iald C dX6_gather_105 sh_29 (ss3 p1) ?_
      refine L_iast C dX6_gather_106 sh_34 (ss5 p1 p3 p4) ?_
      refine L_aload_n C (i := 0) dX6_gather_107 rfl rfl ?_
      refine L_dup C dX6_gather_108 rfl ?_
      refine L_getI C dX6_gather_109 sh_31 fl_X6_98 rfl ?_
      refine L_iconst C (v := 1) dX6_gather_112 rfl ?_
      refine L_iadd C dX6_gather_113 ?_
      refine L_putI C dX6_gather_114 sh_31 fl_X6_98 rfl rfl rfl ?_
      refine L_iinc C (v := 1) dX6_gather_117 rfl rfl (Nat.le_of_ble_eq_true rfl) ?_
      refine L_goto C (tgt := 40) dX6_gather_120 rfl ?_
      exact kk6 p1 p3 p4
set_option maxRecDepth 4000 in
theorem k_X4_levelsLeft_0 {G : mG} {E : mE} {B : mB} {μ : mM} (C : Cx G mX4_levelsLeft E) {c0 : Nat} (h0 : sh c0 = (0, 3)) {x1 : Int32} {x2 : Int32} (kk1 : Wm G mX4_levelsLeft E B μ 5 [(0, .ref (gb G + c0)), (1, .int x1), (2, .int x2), (3, .int 0), (4, .int 0)] []) : Wm G mX4_levelsLeft E B μ 0 [(0, .ref (gb G + c0)), (1, .int x1), (2, .int x2)] [] := by
  refine L_iconst C (v := 0) dX4_levelsLeft_0 rfl ?_
  refine L_istore_n C (i := 3) dX4_levelsLeft_1 rfl (Nat.le_of_ble_eq_true rfl) ?_
  refine L_iconst C (v := 0) dX4_levelsLeft_2 rfl ?_
  refine L_istore C dX4_levelsLeft_3 (Nat.le_of_ble_eq_true rfl) ?_
  exact kk1
theorem e_X4_levelsLeft {G : mG} {Q : Int32 → mM → Prop} {μ : mM} {c0 : Nat} (h0 : sh c0 = (0, 3)) {x1 : Int32} {x2 : Int32} (k : ∀ E, Cx G mX4_levelsLeft E → Wm G mX4_levelsLeft E (bm G mX4_levelsLeft E (pI Q)) μ 0 [(0, .ref (gb G + c0)), (1, .int x1), (2, .int x2)] []) : CtI G mX4_levelsLeft [.ref (gb G + c0), .int x1, .int x2] μ Q := CtI.of pn_X4 (Nat.le_of_ble_eq_true rfl) k
set_option maxRecDepth 4000 in
theorem k_X4_levelsLeft_5 {G : mG} {E : mE} {Q : Int32 → mM → Prop} {μ : mM} (C : Cx G mX4_levelsLeft E) {c0 : Nat} (h0 : sh c0 = (0, 3)) {x1 : Int32} {x2 : Int32} {x3 : Int32} {x4 : Int32} (ss1 : vp_in x2 8) (rr2 : (μ (c0 + 1) x2.toNatClampNeg) ≤ x4 → Q x3 μ) (cc3 : ¬ (μ (c0 + 1) x2.toNatClampNeg) ≤ x4 → CtI G mX4_allows [.ref (gb G + c0), .int (x1 ||| ((1 : Int32) <<< ((((4 : Int32) * x2) + x4) &&& 31)))] μ (fun r μ' => Wm G mX4_levelsLeft E (bm G mX4_levelsLeft E (pI Q)) μ' 30 [(0, .ref (gb G + c0)), (1, .int x1), (2, .int x2), (3, .int x3), (4, .int x4)] [.int r])) : Wm G mX4_levelsLeft E (bm G mX4_levelsLeft E (pI Q)) μ 5 [(0, .ref (gb G + c0)), (1, .int x1), (2, .int x2), (3, .int x3), (4, .int x4)] [] := by
  refine L_iload C dX4_levelsLeft_5 rfl ?_
  refine L_aload_n C (i := 0) dX4_levelsLeft_7 rfl rfl ?_
  refine L_getC C (c' := (c0 + 1)) dX4_levelsLeft_8 h0 fl_X4_9 rfl rfl ?_
  refine L_iload_n C (i := 2) dX4_levelsLeft_11 rfl rfl ?_
  refine L_iald C dX4_levelsLeft_12 (shd_3_1 h0) (ss1) ?_
  refine L_icmp_ge C (tgt := 46) dX4_levelsLeft_13 rfl (fun p1 => ?_) (fun p1 => ?_)
  · refine L_iload_n C (i := 3) dX4_levelsLeft_46 rfl rfl ?_
    exact L_irI C dX4_levelsLeft_47 rfl (rr2 p1)
  · refine L_aload_n C (i := 0) dX4_levelsLeft_16 rfl rfl ?_
    refine L_iload_n C (i := 1) dX4_levelsLeft_17 rfl rfl ?_
    refine L_iconst C (v := 1) dX4_levelsLeft_18 rfl ?_
    refine L_iconst C (v := 4) dX4_levelsLeft_19 rfl ?_
    refine L_iload_n C (i := 2) dX4_levelsLeft_20 rfl rfl ?_
    refine L_imul C dX4_levelsLeft_21 ?_
    refine L_iload C dX4_levelsLeft_22 rfl ?_
    refine L_iadd C dX4_levelsLeft_24 ?_
    refine L_ishl C dX4_levelsLeft_25 ?_
    refine L_ior C dX4_levelsLeft_26 ?_
    refine L_invV1i C dX4_levelsLeft_27 h0 cal_X4_allows lk_X4_72 ⟨Nat.le_of_ble_eq_true rfl, Nat.le_of_ble_eq_true rfl⟩ ⟨Nat.le_of_ble_eq_true rfl, Nat.le_of_ble_eq_true rfl⟩ (Nat.le_of_ble_eq_true rfl) ?_
    exact cc3 p1
set_option maxRecDepth 4000 in
theorem k_X4_levelsLeft_30 {G : mG} {E : mE} {B : mB} {μ : mM} (C : Cx G mX4_levelsLeft E) {c0 : Nat} (h0 : sh c0 = (0, 3)) {x1 : Int32} {x2 : Int32} {x3 : Int32} {x4 : Int32} {sx0 : Int32} (kk1 : ∀ v1 : Int32, ((sx0 = 0 ∧ v1 = x3) ∨ (¬ sx0 = 0 ∧ v1 = (x3 ||| ((1 : Int32) <<< (x4 &&& 31))))) → Wm G mX4_levelsLeft E B μ 5 [(0, .ref (gb G + c0)), (1, .int x1), (2, .int x2), (3, .int v1), (4, .int (x4 + (1 : Int32)))] []) : Wm G mX4_levelsLeft E B μ 30 [(0, .ref (gb G + c0)), (1, .int x1), (2, .int x2), (3, .int x3), (4, .int x4)] [.int sx0] := by
  refine phi (fun v1 : Int32 => Wm G mX4_levelsLeft E B μ 40 [(0, .ref (gb G + c0)), (1, .int x1), (2, .int x2), (3, .int v1), (4, .int x4)] []) (fun v1 : Int32 => (sx0 = 0 ∧ v1 = x3) ∨ (¬ sx0 = 0 ∧ v1 = (x3 ||| ((1 : Int32) <<< (x4 &&& 31))))) (fun H => ?_) (fun v1 hv1 => ?_)
  · refine L_if_eq C (tgt := 40) dX4_levelsLeft_30 rfl (fun p1 => ?_) (fun p1 => ?_)
    · exact H _ (Or.inl ⟨p1, rfl⟩)
    · refine L_iload_n C (i := 3) dX4_levelsLeft_33 rfl rfl ?_
      refine L_iconst C (v := 1) dX4_levelsLeft_34 rfl ?_
      refine L_iload C dX4_levelsLeft_35 rfl ?_
      refine L_ishl C dX4_levelsLeft_37 ?_
      refine L_ior C dX4_levelsLeft_38 ?_
      refine L_istore_n C (i := 3) dX4_levelsLeft_39 rfl (Nat.le_of_ble_eq_true rfl) ?_
      exact H _ (Or.inr ⟨p1, rfl⟩)
  refine L_iinc C (v := 1) dX4_levelsLeft_40 rfl rfl (Nat.le_of_ble_eq_true rfl) ?_
  refine L_goto C (tgt := 5) dX4_levelsLeft_43 rfl ?_
  exact kk1 v1 hv1
set_option maxRecDepth 4000 in
theorem k_X6_findNear_0 {G : mG} {E : mE} {B : mB} {μ : mM} (C : Cx G mX6_findNear E) {c1 : Nat} (h1 : sh c1 = (0, 3)) {x2 : Int32} (kk1 : Wm G mX6_findNear E B (ms μ 31 5 0) 7 [(0, .ref (gb G + 31)), (1, .ref (gb G + c1)), (2, .int x2), (3, .int 0)] []) : Wm G mX6_findNear E B μ 0 [(0, .ref (gb G + 31)), (1, .ref (gb G + c1)), (2, .int x2)] [] := by
  refine L_aload_n C (i := 0) dX6_findNear_0 rfl rfl ?_
  refine L_iconst C (v := 0) dX6_findNear_1 rfl ?_
  refine L_putI C dX6_findNear_2 sh_31 fl_X6_118 rfl rfl rfl ?_
  refine L_iconst C (v := 0) dX6_findNear_5 rfl ?_
  refine L_istore_n C (i := 3) dX6_findNear_6 rfl (Nat.le_of_ble_eq_true rfl) ?_
  exact kk1
theorem e_X6_findNear {G : mG} {Q : mM → Prop} {μ : mM} {c1 : Nat} (h1 : sh c1 = (0, 3)) {x2 : Int32} (k : ∀ E, Cx G mX6_findNear E → Wm G mX6_findNear E (bm G mX6_findNear E (pV Q)) μ 0 [(0, .ref (gb G + 31)), (1, .ref (gb G + c1)), (2, .int x2)] []) : CtV G mX6_findNear [.ref (gb G + 31), .ref (gb G + c1), .int x2] μ Q := CtV.of pn_X6 (Nat.le_of_ble_eq_true rfl) k
set_option maxRecDepth 4000 in
theorem k_X6_findNear_7 {G : mG} {E : mE} {Q : mM → Prop} {μ : mM} (C : Cx G mX6_findNear E) {c1 : Nat} (h1 : sh c1 = (0, 3)) {x2 : Int32} {x3 : Int32} (rr1 : (μ c1 2) ≤ x3 → Q μ) (ss2 : ¬ (μ c1 2) ≤ x3 → vp_in x3 12) (kk3 : ¬ (μ c1 2) ≤ x3 → ((μ (c1 + 2) x3.toNatClampNeg) &&& x2) = 0 → Wm G mX6_findNear E (bm G mX6_findNear E (pV Q)) μ 7 [(0, .ref (gb G + 31)), (1, .ref (gb G + c1)), (2, .int x2), (3, .int (x3 + (1 : Int32)))] []) (ss4 : ¬ (μ c1 2) ≤ x3 → ¬ ((μ (c1 + 2) x3.toNatClampNeg) &&& x2) = 0 → vp_in (μ 31 5) 12) (kk5 : ¬ (μ c1 2) ≤ x3 → ¬ ((μ (c1 + 2) x3.toNatClampNeg) &&& x2) = 0 → Wm G mX6_findNear E (bm G mX6_findNear E (pV Q)) (ms (ms μ 35 (μ 31 5).toNatClampNeg (μ (c1 + 2) x3.toNatClampNeg)) 31 5 ((μ 31 5) + (1 : Int32))) 7 [(0, .ref (gb G + 31)), (1, .ref (gb G + c1)), (2, .int x2), (3, .int (x3 + (1 : Int32)))] []) : Wm G mX6_findNear E (bm G mX6_findNear E (pV Q)) μ 7 [(0, .ref (gb G + 31)), (1, .ref (gb G + c1)), (2, .int x2), (3, .int x3)] [] := by
  refine L_iload_n C (i := 3) dX6_findNear_7 rfl rfl ?_
  refine L_aload_n C (i := 1) dX6_findNear_8 rfl rfl ?_
  refine L_getI C dX6_findNear_9 h1 fl_X6_125 rfl ?_
  refine L_icmp_ge C (tgt := 57) dX6_findNear_12 rfl (fun p1 => ?_) (fun p1 => ?_)
  · exact L_irV C dX6_findNear_57 rfl (rr1 p1)
  · refine L_aload_n C (i := 1) dX6_findNear_15 rfl rfl ?_
    refine L_getC C (c' := (c1 + 2)) dX6_findNear_16 h1 fl_X6_128 rfl rfl ?_
    refine L_iload_n C (i := 3) dX6_findNear_19 rfl rfl ?_
    refine L_iald C dX6_findNear_20 (shd_3_2 h1) (ss2 p1) ?_
    refine L_iload_n C (i := 2) dX6_findNear_21 rfl rfl ?_
    refine L_iand C dX6_findNear_22 ?_
    refine L_if_eq C (tgt := 51) dX6_findNear_23 rfl (fun p2 => ?_) (fun p2 => ?_)
    · refine L_iinc C (v := 1) dX6_findNear_51 rfl rfl (Nat.le_of_ble_eq_true rfl) ?_
      refine L_goto C (tgt := 7) dX6_findNear_54 rfl ?_
      exact kk3 p1 p2
    · refine L_aload_n C (i := 0) dX6_findNear_26 rfl rfl ?_
      refine L_getC C (c' := 35) dX6_findNear_27 sh_31 fl_X6_21 rfl rfl ?_
      refine L_aload_n C (i := 0) dX6_findNear_30 rfl rfl ?_
      refine L_getI C dX6_findNear_31 sh_31 fl_X6_118 rfl ?_
      refine L_aload_n C (i := 1) dX6_findNear_34 rfl rfl ?_
      refine L_getC C (c' := (c1 + 2)) dX6_findNear_35 h1 fl_X6_128 rfl rfl ?_
      refine L_iload_n C (i := 3) dX6_findNear_38 rfl rfl ?_
      refine L_iald C dX6_findNear_39 (shd_3_2 h1) (ss2 p1) ?_
      refine L_iast C dX6_findNear_40 sh_35 (ss4 p1 p2) ?_
      refine L_aload_n C (i := 0) dX6_findNear_41 rfl rfl ?_
      refine L_dup C dX6_findNear_42 rfl ?_
      refine L_getI C dX6_findNear_43 sh_31 fl_X6_118 rfl ?_
      refine L_iconst C (v := 1) dX6_findNear_46 rfl ?_
      refine L_iadd C dX6_findNear_47 ?_
      refine L_putI C dX6_findNear_48 sh_31 fl_X6_118 rfl rfl rfl ?_
      refine L_iinc C (v := 1) dX6_findNear_51 rfl rfl (Nat.le_of_ble_eq_true rfl) ?_
      refine L_goto C (tgt := 7) dX6_findNear_54 rfl ?_
      exact kk5 p1 p2
set_option maxRecDepth 4000 in
theorem k_X6_sampleWith_0 {G : mG} {E : mE} {Q : Int32 → mM → Prop} {μ : mM} (C : Cx G mX6_sampleWith E) {c1 : Nat} (h1 : sh c1 = (0, 3)) {x2 : Int32} {x3 : Int32} {x4 : Int32} (ss1 : vp_in x2 1200) (kk2 : Wm G mX6_sampleWith E (bm G mX6_sampleWith E (pI Q)) μ 22 [(0, .ref (gb G + 31)), (1, .ref (gb G + c1)), (2, .int x2), (3, .int x3), (4, .int x4), (5, .int (((μ 34 x2.toNatClampNeg) &&& ((((((x4 ||| (iush x4 1)) ||| (iush x4 2)) ||| (iush x4 3)) &&& (286331153 : Int32)) * (15 : Int32)) ^^^ ((-1) : Int32))) ||| x4)), (6, .int 0)] []) : Wm G mX6_sampleWith E (bm G mX6_sampleWith E (pI Q)) μ 0 [(0, .ref (gb G + 31)), (1, .ref (gb G + c1)), (2, .int x2), (3, .int x3), (4, .int x4)] [] := by
  refine L_aload_n C (i := 0) dX6_sampleWith_0 rfl rfl ?_
  refine L_getC C (c' := 34) dX6_sampleWith_1 sh_31 fl_X6_18 rfl rfl ?_
  refine L_iload_n C (i := 2) dX6_sampleWith_4 rfl rfl ?_
  refine L_iald C dX6_sampleWith_5 sh_34 (ss1) ?_
  refine L_iload C dX6_sampleWith_6 rfl ?_
  refine L_invSN1i C dX6_sampleWith_8 cal_X11_columnsOf stc_X11_columnsOf nk_X6_70 ⟨Nat.le_of_ble_eq_true rfl, Nat.le_of_ble_eq_true rfl⟩ ⟨Nat.le_of_ble_eq_true rfl, Nat.le_of_ble_eq_true rfl⟩ (Nat.le_of_ble_eq_true rfl) (a_X11_columnsOf (?_))
  · refine L_iconst C (v := (-1)) dX6_sampleWith_11 rfl ?_
    refine L_ixor C dX6_sampleWith_12 ?_
    refine L_iand C dX6_sampleWith_13 ?_
    refine L_iload C dX6_sampleWith_14 rfl ?_
    refine L_ior C dX6_sampleWith_16 ?_
    refine L_istore C dX6_sampleWith_17 (Nat.le_of_ble_eq_true rfl) ?_
    refine L_iconst C (v := 0) dX6_sampleWith_19 rfl ?_
    refine L_istore C dX6_sampleWith_20 (Nat.le_of_ble_eq_true rfl) ?_
    exact kk2
theorem e_X6_sampleWith {G : mG} {Q : Int32 → mM → Prop} {μ : mM} {c1 : Nat} (h1 : sh c1 = (0, 3)) {x2 : Int32} {x3 : Int32} {x4 : Int32} (k : ∀ E, Cx G mX6_sampleWith E → Wm G mX6_sampleWith E (bm G mX6_sampleWith E (pI Q)) μ 0 [(0, .ref (gb G + 31)), (1, .ref (gb G + c1)), (2, .int x2), (3, .int x3), (4, .int x4)] []) : CtI G mX6_sampleWith [.ref (gb G + 31), .ref (gb G + c1), .int x2, .int x3, .int x4] μ Q := CtI.of pn_X6 (Nat.le_of_ble_eq_true rfl) k
set_option maxRecDepth 4000 in
theorem k_X6_sampleWith_22 {G : mG} {E : mE} {Q : Int32 → mM → Prop} {μ : mM} (C : Cx G mX6_sampleWith E) {c1 : Nat} (h1 : sh c1 = (0, 3)) {x2 : Int32} {x3 : Int32} {x4 : Int32} {x5 : Int32} {x6 : Int32} (rr1 : (μ 31 5) ≤ x6 → Q x5 μ) (ss2 : ¬ (μ 31 5) ≤ x6 → vp_in x6 12) (kk3 : ¬ (μ 31 5) ≤ x6 → ¬ ((μ 35 x6.toNatClampNeg) &&& (x5 ^^^ ((-1) : Int32))) = 0 → Wm G mX6_sampleWith E (bm G mX6_sampleWith E (pI Q)) μ 22 [(0, .ref (gb G + 31)), (1, .ref (gb G + c1)), (2, .int x2), (3, .int x3), (4, .int x4), (5, .int x5), (6, .int (x6 + (1 : Int32)))] []) (ss4 : ¬ (μ 31 5) ≤ x6 → ((μ 35 x6.toNatClampNeg) &&& (x5 ^^^ ((-1) : Int32))) = 0 → vp_in x2 1200) (cc5 : ¬ (μ 31 5) ≤ x6 → ((μ 35 x6.toNatClampNeg) &&& (x5 ^^^ ((-1) : Int32))) = 0 → CtI G (mX4_lawfulRow 63) [.ref (gb G + c1), .int (((μ c1 3) &&& ((((((((x3 ||| (μ 32 x2.toNatClampNeg)) ||| x4) ||| (iush ((x3 ||| (μ 32 x2.toNatClampNeg)) ||| x4) 1)) ||| (iush ((x3 ||| (μ 32 x2.toNatClampNeg)) ||| x4) 2)) ||| (iush ((x3 ||| (μ 32 x2.toNatClampNeg)) ||| x4) 3)) &&& (286331153 : Int32)) * (15 : Int32)) ^^^ ((-1) : Int32))) ||| ((x3 ||| (μ 32 x2.toNatClampNeg)) ||| x4)), .int 0] μ (fun r μ' => Wm G mX6_sampleWith E (bm G mX6_sampleWith E (pI Q)) μ' 66 [] [.int r])) : Wm G mX6_sampleWith E (bm G mX6_sampleWith E (pI Q)) μ 22 [(0, .ref (gb G + 31)), (1, .ref (gb G + c1)), (2, .int x2), (3, .int x3), (4, .int x4), (5, .int x5), (6, .int x6)] [] := by
  refine L_iload C dX6_sampleWith_22 rfl ?_
  refine L_aload_n C (i := 0) dX6_sampleWith_24 rfl rfl ?_
  refine L_getI C dX6_sampleWith_25 sh_31 fl_X6_118 rfl ?_
  refine L_icmp_ge C (tgt := 73) dX6_sampleWith_28 rfl (fun p1 => ?_) (fun p1 => ?_)
  · refine L_iload C dX6_sampleWith_73 rfl ?_
    exact L_irI C dX6_sampleWith_75 rfl (rr1 p1)
  · refine L_aload_n C (i := 0) dX6_sampleWith_31 rfl rfl ?_
    refine L_getC C (c' := 35) dX6_sampleWith_32 sh_31 fl_X6_21 rfl rfl ?_
    refine L_iload C dX6_sampleWith_35 rfl ?_
    refine L_iald C dX6_sampleWith_37 sh_35 (ss2 p1) ?_
    refine L_iload C dX6_sampleWith_38 rfl ?_
    refine L_iconst C (v := (-1)) dX6_sampleWith_40 rfl ?_
    refine L_ixor C dX6_sampleWith_41 ?_
    refine L_iand C dX6_sampleWith_42 ?_
    refine L_if_ne C (tgt := 67) dX6_sampleWith_43 rfl (fun p2 => ?_) (fun p2 => ?_)
    · refine L_iinc C (v := 1) dX6_sampleWith_67 rfl rfl (Nat.le_of_ble_eq_true rfl) ?_
      refine L_goto C (tgt := 22) dX6_sampleWith_70 rfl ?_
      exact kk3 p1 p2
    · refine L_aload_n C (i := 1) dX6_sampleWith_46 rfl rfl ?_
      refine L_aload_n C (i := 1) dX6_sampleWith_47 rfl rfl ?_
      refine L_iload_n C (i := 3) dX6_sampleWith_48 rfl rfl ?_
      refine L_aload_n C (i := 0) dX6_sampleWith_49 rfl rfl ?_
      refine L_getC C (c' := 32) dX6_sampleWith_50 sh_31 fl_X6_9 rfl rfl ?_
      refine L_iload_n C (i := 2) dX6_sampleWith_53 rfl rfl ?_
      refine L_iald C dX6_sampleWith_54 sh_32 (ss4 p1 p2) ?_
      refine L_ior C dX6_sampleWith_55 ?_
      refine L_iload C dX6_sampleWith_56 rfl ?_
      refine L_ior C dX6_sampleWith_58 ?_
      refine L_invV1i C dX6_sampleWith_59 h1 cal_X4_leftTo lk_X6_42 ⟨Nat.le_of_ble_eq_true rfl, Nat.le_of_ble_eq_true rfl⟩ ⟨Nat.le_of_ble_eq_true rfl, Nat.le_of_ble_eq_true rfl⟩ (Nat.le_of_ble_eq_true rfl) (a_X4_leftTo h1 (?_))
      · refine L_iconst C (v := 0) dX6_sampleWith_62 rfl ?_
        refine L_sub [] rfl ?_
        refine L_invSN3i C dX6_sampleWith_63 (cal_X4_lawfulRow 63) stc_X4_lawfulRow nk_X6_46 ⟨Nat.le_of_ble_eq_true rfl, Nat.le_of_ble_eq_true rfl⟩ ⟨Nat.le_of_ble_eq_true rfl, Nat.le_of_ble_eq_true rfl⟩ (Nat.le_of_ble_eq_true rfl) ?_
        exact cc5 p1 p2
set_option maxRecDepth 4000 in
theorem k_X6_sampleWith_66 {G : mG} {E : mE} {Q : Int32 → mM → Prop} {μ : mM} (C : Cx G mX6_sampleWith E) {sx0 : Int32} (rr1 : Q sx0 μ) : Wm G mX6_sampleWith E (bm G mX6_sampleWith E (pI Q)) μ 66 [] [.int sx0] := by
  exact L_irI C dX6_sampleWith_66 rfl (rr1)
set_option maxRecDepth 4000 in
theorem k_X6_hopeWith_0 {G : mG} {E : mE} {Q : Int64 → mM → Prop} {μ : mM} (C : Cx G mX6_hopeWith E) {c1 : Nat} (h1 : sh c1 = (0, 3)) {x2 : Int32} {x3 : Int32} {x4 : Int32} (cc1 : CtV G mX6_findNear [.ref (gb G + 31), .ref (gb G + c1), .int x4] μ (fun μ' => Wm G mX6_hopeWith E (bm G mX6_hopeWith E (pL Q)) μ' 7 [(0, .ref (gb G + 31)), (1, .ref (gb G + c1)), (2, .int x2), (3, .int x3), (4, .int x4)] [])) : Wm G mX6_hopeWith E (bm G mX6_hopeWith E (pL Q)) μ 0 [(0, .ref (gb G + 31)), (1, .ref (gb G + c1)), (2, .int x2), (3, .int x3), (4, .int x4)] [] := by
  refine L_aload_n C (i := 0) dX6_hopeWith_0 rfl rfl ?_
  refine L_aload_n C (i := 1) dX6_hopeWith_1 rfl rfl ?_
  refine L_iload C dX6_hopeWith_2 rfl ?_
  refine L_invV2v C dX6_hopeWith_4 sh_31 cal_X6_findNear lk_X6_114 ⟨Nat.le_of_ble_eq_true rfl, Nat.le_of_ble_eq_true rfl⟩ ⟨Nat.le_of_ble_eq_true rfl, Nat.le_of_ble_eq_true rfl⟩ (Nat.le_of_ble_eq_true rfl) ?_
  exact cc1
theorem e_X6_hopeWith {G : mG} {Q : Int64 → mM → Prop} {μ : mM} {c1 : Nat} (h1 : sh c1 = (0, 3)) {x2 : Int32} {x3 : Int32} {x4 : Int32} (k : ∀ E, Cx G mX6_hopeWith E → Wm G mX6_hopeWith E (bm G mX6_hopeWith E (pL Q)) μ 0 [(0, .ref (gb G + 31)), (1, .ref (gb G + c1)), (2, .int x2), (3, .int x3), (4, .int x4)] []) : CtL G mX6_hopeWith [.ref (gb G + 31), .ref (gb G + c1), .int x2, .int x3, .int x4] μ Q := CtL.of pn_X6 (Nat.le_of_ble_eq_true rfl) k
set_option maxRecDepth 4000 in
theorem k_X6_hopeWith_7 {G : mG} {E : mE} {B : mB} {μ : mM} (C : Cx G mX6_hopeWith E) {c1 : Nat} (h1 : sh c1 = (0, 3)) {x2 : Int32} {x3 : Int32} {x4 : Int32} (kk1 : Wm G mX6_hopeWith E B μ 21 [(0, .ref (gb G + 31)), (1, .ref (gb G + c1)), (2, .int x2), (3, .int x3), (4, .int x4), (5, .int ((15 : Int32) <<< (((4 : Int32) * x3) &&& 31))), (6, .long 0), (8, .int 0)] []) : Wm G mX6_hopeWith E B μ 7 [(0, .ref (gb G + 31)), (1, .ref (gb G + c1)), (2, .int x2), (3, .int x3), (4, .int x4)] [] := by
  refine L_bipush C (v := 15) dX6_hopeWith_7 rfl ?_
  refine L_iconst C (v := 4) dX6_hopeWith_9 rfl ?_
  refine L_iload_n C (i := 3) dX6_hopeWith_10 rfl rfl ?_
  refine L_imul C dX6_hopeWith_11 ?_
  refine L_ishl C dX6_hopeWith_12 ?_
  refine L_istore C dX6_hopeWith_13 (Nat.le_of_ble_eq_true rfl) ?_
  refine L_lconst C (v := 0) dX6_hopeWith_15 rfl ?_
  refine L_lstore C dX6_hopeWith_16 (Nat.le_of_ble_eq_true rfl) ?_
  refine L_iconst C (v := 0) dX6_hopeWith_18 rfl ?_
  refine L_istore C dX6_hopeWith_19 (Nat.le_of_ble_eq_true rfl) ?_
  exact kk1
set_option maxRecDepth 4000 in
theorem k_X6_hopeWith_21 {G : mG} {E : mE} {Q : Int64 → mM → Prop} {μ : mM} (C : Cx G mX6_hopeWith E) {c1 : Nat} (h1 : sh c1 = (0, 3)) {x2 : Int32} {x3 : Int32} {x4 : Int32} {x5 : Int32} {y6 : Int64} {x8 : Int32} (rr1 : (μ 31 3) ≤ x8 → Q y6 μ) (ss2 : ¬ (μ 31 3) ≤ x8 → vp_in x8 1200) (kk3 : ¬ (μ 31 3) ≤ x8 → ¬ ((μ 32 x8.toNatClampNeg) &&& x5) = 0 → ((μ 32 x8.toNatClampNeg) &&& x4) = 0 → Wm G mX6_hopeWith E (bm G mX6_hopeWith E (pL Q)) μ 21 [(0, .ref (gb G + 31)), (1, .ref (gb G + c1)), (2, .int x2), (3, .int x3), (4, .int x4), (5, .int x5), (6, .long y6), (8, .int (x8 + (1 : Int32)))] []) (ss4 : ¬ (μ 31 3) ≤ x8 → ¬ ((μ 32 x8.toNatClampNeg) &&& x5) = 0 → ¬ ((μ 32 x8.toNatClampNeg) &&& x4) = 0 → vp_in x3 8) (kk5 : ¬ (μ 31 3) ≤ x8 → ¬ ((μ 32 x8.toNatClampNeg) &&& x5) = 0 → ¬ ((μ 32 x8.toNatClampNeg) &&& x4) = 0 → Wm G mX6_hopeWith E (bm G mX6_hopeWith E (pL Q)) μ 21 [(0, .ref (gb G + 31)), (1, .ref (gb G + c1)), (2, .int x2), (3, .int x3), (4, .int x4), (5, .int x5), (6, .long (y6 + ((μ 33 x8.toNatClampNeg) * (μ (c1 + 1) x3.toNatClampNeg)).toInt64)), (8, .int (x8 + (1 : Int32)))] []) (kk6 : ¬ (μ 31 3) ≤ x8 → ((μ 32 x8.toNatClampNeg) &&& x5) = 0 → (μ 31 5) = 0 → Wm G mX6_hopeWith E (bm G mX6_hopeWith E (pL Q)) μ 21 [(0, .ref (gb G + 31)), (1, .ref (gb G + c1)), (2, .int x2), (3, .int x3), (4, .int x4), (5, .int x5), (6, .long (y6 + (μ 33 x8.toNatClampNeg).toInt64)), (8, .int (x8 + (1 : Int32)))] []) (cc7 : ¬ (μ 31 3) ≤ x8 → ((μ 32 x8.toNatClampNeg) &&& x5) = 0 → ¬ (μ 31 5) = 0 → CtI G mX6_sampleWith [.ref (gb G + 31), .ref (gb G + c1), .int x8, .int x2, .int x4] μ (fun r μ' => Wm G mX6_hopeWith E (bm G mX6_hopeWith E (pL Q)) μ' 60 [(0, .ref (gb G + 31)), (1, .ref (gb G + c1)), (2, .int x2), (3, .int x3), (4, .int x4), (5, .int x5), (6, .long y6), (8, .int x8)] [.int r])) : Wm G mX6_hopeWith E (bm G mX6_hopeWith E (pL Q)) μ 21 [(0, .ref (gb G + 31)), (1, .ref (gb G + c1)), (2, .int x2), (3, .int x3), (4, .int x4), (5, .int x5), (6, .long y6), (8, .int x8)] [] := by
  refine L_iload C dX6_hopeWith_21 rfl ?_
  refine L_aload_n C (i := 0) dX6_hopeWith_23 rfl rfl ?_
  refine L_getI C dX6_hopeWith_24 sh_31 fl_X6_98 rfl ?_
  refine L_icmp_ge C (tgt := 134) dX6_hopeWith_27 rfl (fun p1 => ?_) (fun p1 => ?_)
  · refine L_lload C dX6_hopeWith_134 rfl ?_
    exact L_irL C dX6_hopeWith_136 rfl (rr1 p1)
  · refine L_aload_n C (i := 0) dX6_hopeWith_30 rfl rfl ?_
    refine L_getC C (c' := 32) dX6_hopeWith_31 sh_31 fl_X6_9 rfl rfl ?_
    refine L_iload C dX6_hopeWith_34 rfl ?_
    refine L_iald C dX6_hopeWith_36 sh_32 (ss2 p1) ?_
    refine L_iload C dX6_hopeWith_37 rfl ?_
    refine L_iand C dX6_hopeWith_39 ?_
    refine L_if_ne C (tgt := 95) dX6_hopeWith_40 rfl (fun p2 => ?_) (fun p2 => ?_)
    · refine L_aload_n C (i := 0) dX6_hopeWith_95 rfl rfl ?_
      refine L_getC C (c' := 32) dX6_hopeWith_96 sh_31 fl_X6_9 rfl rfl ?_
      refine L_iload C dX6_hopeWith_99 rfl ?_
      refine L_iald C dX6_hopeWith_101 sh_32 (ss2 p1) ?_
      refine L_iload C dX6_hopeWith_102 rfl ?_
      refine L_iand C dX6_hopeWith_104 ?_
      refine L_if_eq C (tgt := 128) dX6_hopeWith_105 rfl (fun p3 => ?_) (fun p3 => ?_)
      · refine L_iinc C (v := 1) dX6_hopeWith_128 rfl rfl (Nat.le_of_ble_eq_true rfl) ?_
        refine L_goto C (tgt := 21) dX6_hopeWith_131 rfl ?_
        exact kk3 p1 p2 p3
      · refine L_lload C dX6_hopeWith_108 rfl ?_
        refine L_aload_n C (i := 0) dX6_hopeWith_110 rfl rfl ?_
        refine L_getC C (c' := 33) dX6_hopeWith_111 sh_31 fl_X6_15 rfl rfl ?_
        refine L_iload C dX6_hopeWith_114 rfl ?_
        refine L_iald C dX6_hopeWith_116 sh_33 (ss2 p1) ?_
        refine L_aload_n C (i := 1) dX6_hopeWith_117 rfl rfl ?_
        refine L_getC C (c' := (c1 + 1)) dX6_hopeWith_118 h1 fl_X6_107 rfl rfl ?_
        refine L_iload_n C (i := 3) dX6_hopeWith_121 rfl rfl ?_
        refine L_iald C dX6_hopeWith_122 (shd_3_1 h1) (ss4 p1 p2 p3) ?_
        refine L_imul C dX6_hopeWith_123 ?_
        refine L_i2l C dX6_hopeWith_124 ?_
        refine L_ladd C dX6_hopeWith_125 ?_
        refine L_lstore C dX6_hopeWith_126 (Nat.le_of_ble_eq_true rfl) ?_
        refine L_iinc C (v := 1) dX6_hopeWith_128 rfl rfl (Nat.le_of_ble_eq_true rfl) ?_
        refine L_goto C (tgt := 21) dX6_hopeWith_131 rfl ?_
        exact kk5 p1 p2 p3
    · refine L_aload_n C (i := 0) dX6_hopeWith_43 rfl rfl ?_
      refine L_getI C dX6_hopeWith_44 sh_31 fl_X6_118 rfl ?_
      refine L_if_eq C (tgt := 63) dX6_hopeWith_47 rfl (fun p4 => ?_) (fun p4 => ?_)
      · refine L_iconst C (v := 1) dX6_hopeWith_63 rfl ?_
        refine L_goto C (tgt := 68) dX6_hopeWith_64 rfl ?_
        refine L_istore C dX6_hopeWith_68 (Nat.le_of_ble_eq_true rfl) ?_
        refine L_lload C dX6_hopeWith_70 rfl ?_
        refine L_iload C dX6_hopeWith_72 rfl ?_
        refine L_if_eq C (tgt := 88) dX6_hopeWith_74 rfl (fun p5 => absurd p5 (by decide)) (fun p5 => ?_)
        refine L_aload_n C (i := 0) dX6_hopeWith_77 rfl rfl ?_
        refine L_getC C (c' := 33) dX6_hopeWith_78 sh_31 fl_X6_15 rfl rfl ?_
        refine L_iload C dX6_hopeWith_81 rfl ?_
        refine L_iald C dX6_hopeWith_83 sh_33 (ss2 p1) ?_
        refine L_i2l C dX6_hopeWith_84 ?_
        refine L_goto C (tgt := 89) dX6_hopeWith_85 rfl ?_
        refine L_ladd C dX6_hopeWith_89 ?_
        refine L_lstore C dX6_hopeWith_90 (Nat.le_of_ble_eq_true rfl) ?_
        refine L_goto C (tgt := 128) dX6_hopeWith_92 rfl ?_
        refine L_iinc C (v := 1) dX6_hopeWith_128 rfl rfl (Nat.le_of_ble_eq_true rfl) ?_
        refine L_goto C (tgt := 21) dX6_hopeWith_131 rfl ?_
        refine L_sub [0, 1, 2, 3, 4, 5, 6, 7] rfl ?_
        exact kk6 p1 p2 p4
      · refine L_aload_n C (i := 0) dX6_hopeWith_50 rfl rfl ?_
        refine L_aload_n C (i := 1) dX6_hopeWith_51 rfl rfl ?_
        refine L_iload C dX6_hopeWith_52 rfl ?_
        refine L_iload_n C (i := 2) dX6_hopeWith_54 rfl rfl ?_
        refine L_iload C dX6_hopeWith_55 rfl ?_
        refine L_invV4i C dX6_hopeWith_57 sh_31 cal_X6_sampleWith lk_X6_121 ⟨Nat.le_of_ble_eq_true rfl, Nat.le_of_ble_eq_true rfl⟩ ⟨Nat.le_of_ble_eq_true rfl, Nat.le_of_ble_eq_true rfl⟩ (Nat.le_of_ble_eq_true rfl) ?_
        exact cc7 p1 p2 p4
set_option maxRecDepth 4000 in
theorem k_X6_hopeWith_60 {G : mG} {E : mE} {B : mB} {μ : mM} (C : Cx G mX6_hopeWith E) {c1 : Nat} (h1 : sh c1 = (0, 3)) {x2 : Int32} {x3 : Int32} {x4 : Int32} {x5 : Int32} {y6 : Int64} {x8 : Int32} {sx0 : Int32} (kk1 : ∀ v1 : Int32, ((sx0 = 0 ∧ v1 = 0) ∨ (¬ sx0 = 0 ∧ v1 = 1)) → v1 = 0 → Wm G mX6_hopeWith E B μ 21 [(0, .ref (gb G + 31)), (1, .ref (gb G + c1)), (2, .int x2), (3, .int x3), (4, .int x4), (5, .int x5), (6, .long (y6 + (0 : Int64))), (8, .int (x8 + (1 : Int32)))] []) (ss2 : ∀ v1 : Int32, ((sx0 = 0 ∧ v1 = 0) ∨ (¬ sx0 = 0 ∧ v1 = 1)) → ¬ v1 = 0 → vp_in x8 1200) (kk3 : ∀ v1 : Int32, ((sx0 = 0 ∧ v1 = 0) ∨ (¬ sx0 = 0 ∧ v1 = 1)) → ¬ v1 = 0 → Wm G mX6_hopeWith E B μ 21 [(0, .ref (gb G + 31)), (1, .ref (gb G + c1)), (2, .int x2), (3, .int x3), (4, .int x4), (5, .int x5), (6, .long (y6 + (μ 33 x8.toNatClampNeg).toInt64)), (8, .int (x8 + (1 : Int32)))] []) : Wm G mX6_hopeWith E B μ 60 [(0, .ref (gb G + 31)), (1, .ref (gb G + c1)), (2, .int x2), (3, .int x3), (4, .int x4), (5, .int x5), (6, .long y6), (8, .int x8)] [.int sx0] := by
  refine phi (fun v1 : Int32 => Wm G mX6_hopeWith E B μ 68 [(0, .ref (gb G + 31)), (1, .ref (gb G + c1)), (2, .int x2), (3, .int x3), (4, .int x4), (5, .int x5), (6, .long y6), (8, .int x8)] [.int v1]) (fun v1 : Int32 => (sx0 = 0 ∧ v1 = 0) ∨ (¬ sx0 = 0 ∧ v1 = 1)) (fun H => ?_) (fun v1 hv1 => ?_)
  · refine L_if_eq C (tgt := 67) dX6_hopeWith_60 rfl (fun p1 => ?_) (fun p1 => ?_)
    · refine L_iconst C (v := 0) dX6_hopeWith_67 rfl ?_
      exact H _ (Or.inl ⟨p1, rfl⟩)
    · refine L_iconst C (v := 1) dX6_hopeWith_63 rfl ?_
      refine L_goto C (tgt := 68) dX6_hopeWith_64 rfl ?_
      exact H _ (Or.inr ⟨p1, rfl⟩)
  refine L_istore C dX6_hopeWith_68 (Nat.le_of_ble_eq_true rfl) ?_
  refine L_lload C dX6_hopeWith_70 rfl ?_
  refine L_iload C dX6_hopeWith_72 rfl ?_
  refine L_if_eq C (tgt := 88) dX6_hopeWith_74 rfl (fun p2 => ?_) (fun p2 => ?_)
  · refine L_lconst C (v := 0) dX6_hopeWith_88 rfl ?_
    refine L_ladd C dX6_hopeWith_89 ?_
    refine L_lstore C dX6_hopeWith_90 (Nat.le_of_ble_eq_true rfl) ?_
    refine L_goto C (tgt := 128) dX6_hopeWith_92 rfl ?_
    refine L_iinc C (v := 1) dX6_hopeWith_128 rfl rfl (Nat.le_of_ble_eq_true rfl) ?_
    refine L_goto C (tgt := 21) dX6_hopeWith_131 rfl ?_
    refine L_sub [0, 1, 2, 3, 4, 5, 6, 7] rfl ?_
    exact kk1 v1 hv1 p2
  · refine L_aload_n C (i := 0) dX6_hopeWith_77 rfl rfl ?_
    refine L_getC C (c' := 33) dX6_hopeWith_78 sh_31 fl_X6_15 rfl rfl ?_
    refine L_iload C dX6_hopeWith_81 rfl ?_
    refine L_iald C dX6_hopeWith_83 sh_33 (ss2 v1 hv1 p2) ?_
    refine L_i2l C dX6_hopeWith_84 ?_
    refine L_goto C (tgt := 89) dX6_hopeWith_85 rfl ?_
    refine L_ladd C dX6_hopeWith_89 ?_
    refine L_lstore C dX6_hopeWith_90 (Nat.le_of_ble_eq_true rfl) ?_
    refine L_goto C (tgt := 128) dX6_hopeWith_92 rfl ?_
    refine L_iinc C (v := 1) dX6_hopeWith_128 rfl rfl (Nat.le_of_ble_eq_true rfl) ?_
    refine L_goto C (tgt := 21) dX6_hopeWith_131 rfl ?_
    refine L_sub [0, 1, 2, 3, 4, 5, 6, 7] rfl ?_
    exact kk3 v1 hv1 p2
set_option maxRecDepth 4000 in
theorem k_X6_bestCell_0 {G : mG} {E : mE} {Q : Int32 → mM → Prop} {μ : mM} (C : Cx G mX6_bestCell E) {c1 : Nat} (h1 : sh c1 = (0, 3)) {x2 : Int32} {x3 : Int32} (cc1 : CtI G mX4_levelsLeft [.ref (gb G + c1), .int x2, .int x3] μ (fun r μ' => Wm G mX6_bestCell E (bm G mX6_bestCell E (pI Q)) μ' 6 [(0, .ref (gb G + 31)), (1, .ref (gb G + c1)), (2, .int x2), (3, .int x3)] [.int r])) : Wm G mX6_bestCell E (bm G mX6_bestCell E (pI Q)) μ 0 [(0, .ref (gb G + 31)), (1, .ref (gb G + c1)), (2, .int x2), (3, .int x3)] [] := by
  refine L_aload_n C (i := 1) dX6_bestCell_0 rfl rfl ?_
  refine L_iload_n C (i := 2) dX6_bestCell_1 rfl rfl ?_
  refine L_iload_n C (i := 3) dX6_bestCell_2 rfl rfl ?_
  refine L_invV2i C dX6_bestCell_3 h1 cal_X4_levelsLeft lk_X6_102 ⟨Nat.le_of_ble_eq_true rfl, Nat.le_of_ble_eq_true rfl⟩ ⟨Nat.le_of_ble_eq_true rfl, Nat.le_of_ble_eq_true rfl⟩ (Nat.le_of_ble_eq_true rfl) ?_
  exact cc1
theorem e_X6_bestCell {G : mG} {Q : Int32 → mM → Prop} {μ : mM} {c1 : Nat} (h1 : sh c1 = (0, 3)) {x2 : Int32} {x3 : Int32} (k : ∀ E, Cx G mX6_bestCell E → Wm G mX6_bestCell E (bm G mX6_bestCell E (pI Q)) μ 0 [(0, .ref (gb G + 31)), (1, .ref (gb G + c1)), (2, .int x2), (3, .int x3)] []) : CtI G mX6_bestCell [.ref (gb G + 31), .ref (gb G + c1), .int x2, .int x3] μ Q := CtI.of pn_X6 (Nat.le_of_ble_eq_true rfl) k
set_option maxRecDepth 4000 in
theorem k_X6_bestCell_6 {G : mG} {E : mE} {B : mB} {μ : mM} (C : Cx G mX6_bestCell E) {c1 : Nat} (h1 : sh c1 = (0, 3)) {x2 : Int32} {x3 : Int32} {sx0 : Int32} (kk1 : Wm G mX6_bestCell E B μ 19 [(0, .ref (gb G + 31)), (1, .ref (gb G + c1)), (2, .int x2), (3, .int x3), (4, .int sx0), (5, .int 0), (6, .long (-1)), (8, .int 0)] []) : Wm G mX6_bestCell E B μ 6 [(0, .ref (gb G + 31)), (1, .ref (gb G + c1)), (2, .int x2), (3, .int x3)] [.int sx0] := by
  refine L_istore C dX6_bestCell_6 (Nat.le_of_ble_eq_true rfl) ?_
  refine L_iconst C (v := 0) dX6_bestCell_8 rfl ?_
  refine L_istore C dX6_bestCell_9 (Nat.le_of_ble_eq_true rfl) ?_
  refine L_ldc2 C dX6_bestCell_11 cn_X6_105 ?_
  refine L_lstore C dX6_bestCell_14 (Nat.le_of_ble_eq_true rfl) ?_
  refine L_iconst C (v := 0) dX6_bestCell_16 rfl ?_
  refine L_istore C dX6_bestCell_17 (Nat.le_of_ble_eq_true rfl) ?_
  exact kk1
set_option maxRecDepth 4000 in
theorem k_X6_bestCell_19 {G : mG} {E : mE} {Q : Int32 → mM → Prop} {μ : mM} (C : Cx G mX6_bestCell E) {c1 : Nat} (h1 : sh c1 = (0, 3)) {x2 : Int32} {x3 : Int32} {x4 : Int32} {x5 : Int32} {y6 : Int64} {x8 : Int32} (ss1 : vp_in x3 8) (rr2 : (μ (c1 + 1) x3.toNatClampNeg) ≤ x8 → Q x5 μ) (kk3 : ¬ (μ (c1 + 1) x3.toNatClampNeg) ≤ x8 → (x4 &&& ((1 : Int32) <<< (x8 &&& 31))) = 0 → Wm G mX6_bestCell E (bm G mX6_bestCell E (pI Q)) μ 19 [(0, .ref (gb G + 31)), (1, .ref (gb G + c1)), (2, .int x2), (3, .int x3), (4, .int x4), (5, .int x5), (6, .long y6), (8, .int (x8 + (1 : Int32)))] []) (cc4 : ¬ (μ (c1 + 1) x3.toNatClampNeg) ≤ x8 → ¬ (x4 &&& ((1 : Int32) <<< (x8 &&& 31))) = 0 → CtL G mX6_hopeWith [.ref (gb G + 31), .ref (gb G + c1), .int x2, .int x3, .int ((1 : Int32) <<< ((((4 : Int32) * x3) + x8) &&& 31))] μ (fun r μ' => Wm G mX6_bestCell E (bm G mX6_bestCell E (pI Q)) μ' 59 [(0, .ref (gb G + 31)), (1, .ref (gb G + c1)), (2, .int x2), (3, .int x3), (4, .int x4), (5, .int x5), (6, .long y6), (8, .int x8), (9, .int ((1 : Int32) <<< ((((4 : Int32) * x3) + x8) &&& 31)))] [.long r])) : Wm G mX6_bestCell E (bm G mX6_bestCell E (pI Q)) μ 19 [(0, .ref (gb G + 31)), (1, .ref (gb G + c1)), (2, .int x2), (3, .int x3), (4, .int x4), (5, .int x5), (6, .long y6), (8, .int x8)] [] := by
  refine L_iload C dX6_bestCell_19 rfl ?_
  refine L_aload_n C (i := 1) dX6_bestCell_21 rfl rfl ?_
  refine L_getC C (c' := (c1 + 1)) dX6_bestCell_22 h1 fl_X6_107 rfl rfl ?_
  refine L_iload_n C (i := 3) dX6_bestCell_25 rfl rfl ?_
  refine L_iald C dX6_bestCell_26 (shd_3_1 h1) (ss1) ?_
  refine L_icmp_ge C (tgt := 83) dX6_bestCell_27 rfl (fun p1 => ?_) (fun p1 => ?_)
  · refine L_iload C dX6_bestCell_83 rfl ?_
    exact L_irI C dX6_bestCell_85 rfl (rr2 p1)
  · refine L_iload C dX6_bestCell_30 rfl ?_
    refine L_iconst C (v := 1) dX6_bestCell_32 rfl ?_
    refine L_iload C dX6_bestCell_33 rfl ?_
    refine L_ishl C dX6_bestCell_35 ?_
    refine L_iand C dX6_bestCell_36 ?_
    refine L_if_eq C (tgt := 77) dX6_bestCell_37 rfl (fun p2 => ?_) (fun p2 => ?_)
    · refine L_iinc C (v := 1) dX6_bestCell_77 rfl rfl (Nat.le_of_ble_eq_true rfl) ?_
      refine L_goto C (tgt := 19) dX6_bestCell_80 rfl ?_
      exact kk3 p1 p2
    · refine L_iconst C (v := 1) dX6_bestCell_40 rfl ?_
      refine L_iconst C (v := 4) dX6_bestCell_41 rfl ?_
      refine L_iload_n C (i := 3) dX6_bestCell_42 rfl rfl ?_
      refine L_imul C dX6_bestCell_43 ?_
      refine L_iload C dX6_bestCell_44 rfl ?_
      refine L_iadd C dX6_bestCell_46 ?_
      refine L_ishl C dX6_bestCell_47 ?_
      refine L_istore C dX6_bestCell_48 (Nat.le_of_ble_eq_true rfl) ?_
      refine L_aload_n C (i := 0) dX6_bestCell_50 rfl rfl ?_
      refine L_aload_n C (i := 1) dX6_bestCell_51 rfl rfl ?_
      refine L_iload_n C (i := 2) dX6_bestCell_52 rfl rfl ?_
      refine L_iload_n C (i := 3) dX6_bestCell_53 rfl rfl ?_
      refine L_iload C dX6_bestCell_54 rfl ?_
      refine L_invV4l C dX6_bestCell_56 sh_31 cal_X6_hopeWith lk_X6_110 ⟨Nat.le_of_ble_eq_true rfl, Nat.le_of_ble_eq_true rfl⟩ ⟨Nat.le_of_ble_eq_true rfl, Nat.le_of_ble_eq_true rfl⟩ (Nat.le_of_ble_eq_true rfl) ?_
      exact cc4 p1 p2
set_option maxRecDepth 4000 in
theorem k_X6_bestCell_59 {G : mG} {E : mE} {B : mB} {μ : mM} (C : Cx G mX6_bestCell E) {c1 : Nat} (h1 : sh c1 = (0, 3)) {x2 : Int32} {x3 : Int32} {x4 : Int32} {x5 : Int32} {y6 : Int64} {x8 : Int32} {x9 : Int32} {sy0 : Int64} (kk1 : (lg_cmp sy0 y6) ≤ 0 → Wm G mX6_bestCell E B μ 19 [(0, .ref (gb G + 31)), (1, .ref (gb G + c1)), (2, .int x2), (3, .int x3), (4, .int x4), (5, .int x5), (6, .long y6), (8, .int (x8 + (1 : Int32)))] []) (kk2 : ¬ (lg_cmp sy0 y6) ≤ 0 → Wm G mX6_bestCell E B μ 19 [(0, .ref (gb G + 31)), (1, .ref (gb G + c1)), (2, .int x2), (3, .int x3), (4, .int x4), (5, .int x9), (6, .long sy0), (8, .int (x8 + (1 : Int32)))] []) : Wm G mX6_bestCell E B μ 59 [(0, .ref (gb G + 31)), (1, .ref (gb G + c1)), (2, .int x2), (3, .int x3), (4, .int x4), (5, .int x5), (6, .long y6), (8, .int x8), (9, .int x9)] [.long sy0] := by
  refine L_lstore C dX6_bestCell_59 (Nat.le_of_ble_eq_true rfl) ?_
  refine L_lload C dX6_bestCell_61 rfl ?_
  refine L_lload C dX6_bestCell_63 rfl ?_
  refine L_lcmp C dX6_bestCell_65 ?_
  refine L_if_le C (tgt := 77) dX6_bestCell_66 rfl (fun p1 => ?_) (fun p1 => ?_)
  · refine L_iinc C (v := 1) dX6_bestCell_77 rfl rfl (Nat.le_of_ble_eq_true rfl) ?_
    refine L_goto C (tgt := 19) dX6_bestCell_80 rfl ?_
    refine L_sub [0, 1, 2, 3, 4, 5, 6, 7] rfl ?_
    exact kk1 p1
  · refine L_lload C dX6_bestCell_69 rfl ?_
    refine L_lstore C dX6_bestCell_71 (Nat.le_of_ble_eq_true rfl) ?_
    refine L_iload C dX6_bestCell_73 rfl ?_
    refine L_istore C dX6_bestCell_75 (Nat.le_of_ble_eq_true rfl) ?_
    refine L_iinc C (v := 1) dX6_bestCell_77 rfl rfl (Nat.le_of_ble_eq_true rfl) ?_
    refine L_goto C (tgt := 19) dX6_bestCell_80 rfl ?_
    refine L_sub [0, 1, 2, 3, 4, 5, 6, 7] rfl ?_
    exact kk2 p1
set_option maxRecDepth 4000 in
theorem k_X6_keepWith_0 {G : mG} {E : mE} {Q : mM → Prop} {μ : mM} (C : Cx G mX6_keepWith E) {c1 : Nat} (h1 : sh c1 = (0, 3)) {x2 : Int32} {x3 : Int32} {x4 : Int32} (cc1 : CtV G mX6_findNear [.ref (gb G + 31), .ref (gb G + c1), .int x4] μ (fun μ' => Wm G mX6_keepWith E (bm G mX6_keepWith E (pV Q)) μ' 7 [(0, .ref (gb G + 31)), (1, .ref (gb G + c1)), (2, .int x2), (3, .int x3), (4, .int x4)] [])) : Wm G mX6_keepWith E (bm G mX6_keepWith E (pV Q)) μ 0 [(0, .ref (gb G + 31)), (1, .ref (gb G + c1)), (2, .int x2), (3, .int x3), (4, .int x4)] [] := by
  refine L_aload_n C (i := 0) dX6_keepWith_0 rfl rfl ?_
  refine L_aload_n C (i := 1) dX6_keepWith_1 rfl rfl ?_
  refine L_iload C dX6_keepWith_2 rfl ?_
  refine L_invV2v C dX6_keepWith_4 sh_31 cal_X6_findNear lk_X6_114 ⟨Nat.le_of_ble_eq_true rfl, Nat.le_of_ble_eq_true rfl⟩ ⟨Nat.le_of_ble_eq_true rfl, Nat.le_of_ble_eq_true rfl⟩ (Nat.le_of_ble_eq_true rfl) ?_
  exact cc1
theorem e_X6_keepWith {G : mG} {Q : mM → Prop} {μ : mM} {c1 : Nat} (h1 : sh c1 = (0, 3)) {x2 : Int32} {x3 : Int32} {x4 : Int32} (k : ∀ E, Cx G mX6_keepWith E → Wm G mX6_keepWith E (bm G mX6_keepWith E (pV Q)) μ 0 [(0, .ref (gb G + 31)), (1, .ref (gb G + c1)), (2, .int x2), (3, .int x3), (4, .int x4)] []) : CtV G mX6_keepWith [.ref (gb G + 31), .ref (gb G + c1), .int x2, .int x3, .int x4] μ Q := CtV.of pn_X6 (Nat.le_of_ble_eq_true rfl) k
set_option maxRecDepth 4000 in
theorem k_X6_keepWith_7 {G : mG} {E : mE} {B : mB} {μ : mM} (C : Cx G mX6_keepWith E) {c1 : Nat} (h1 : sh c1 = (0, 3)) {x2 : Int32} {x3 : Int32} {x4 : Int32} (kk1 : Wm G mX6_keepWith E B μ 21 [(0, .ref (gb G + 31)), (1, .ref (gb G + c1)), (2, .int x2), (3, .int x3), (4, .int x4), (5, .int ((15 : Int32) <<< (((4 : Int32) * x3) &&& 31))), (6, .int 0), (7, .int 0)] []) : Wm G mX6_keepWith E B μ 7 [(0, .ref (gb G + 31)), (1, .ref (gb G + c1)), (2, .int x2), (3, .int x3), (4, .int x4)] [] := by
  refine L_bipush C (v := 15) dX6_keepWith_7 rfl ?_
  refine L_iconst C (v := 4) dX6_keepWith_9 rfl ?_
  refine L_iload_n C (i := 3) dX6_keepWith_10 rfl rfl ?_
  refine L_imul C dX6_keepWith_11 ?_
  refine L_ishl C dX6_keepWith_12 ?_
  refine L_istore C dX6_keepWith_13 (Nat.le_of_ble_eq_true rfl) ?_
  refine L_iconst C (v := 0) dX6_keepWith_15 rfl ?_
  refine L_istore C dX6_keepWith_16 (Nat.le_of_ble_eq_true rfl) ?_
  refine L_iconst C (v := 0) dX6_keepWith_18 rfl ?_
  refine L_istore C dX6_keepWith_19 (Nat.le_of_ble_eq_true rfl) ?_
  exact kk1
set_option maxRecDepth 4000 in
theorem k_X6_keepWith_21 {G : mG} {E : mE} {Q : mM → Prop} {μ : mM} (C : Cx G mX6_keepWith E) {c1 : Nat} (h1 : sh c1 = (0, 3)) {x2 : Int32} {x3 : Int32} {x4 : Int32} {x5 : Int32} {x6 : Int32} {x7 : Int32} (rr1 : (μ 31 3) ≤ x7 → Q (ms μ 31 3 x6)) (ss2 : ¬ (μ 31 3) ≤ x7 → vp_in x7 1200) (ss3 : ¬ (μ 31 3) ≤ x7 → ∀ v1 : Int32, ((((μ 32 x7.toNatClampNeg) &&& x5) = 0 ∧ v1 = 0) ∨ (¬ ((μ 32 x7.toNatClampNeg) &&& x5) = 0 ∧ v1 = 1)) → ¬ v1 = 0 → vp_in x7 1200) (kk4 : ¬ (μ 31 3) ≤ x7 → ∀ v1 : Int32, ((((μ 32 x7.toNatClampNeg) &&& x5) = 0 ∧ v1 = 0) ∨ (¬ ((μ 32 x7.toNatClampNeg) &&& x5) = 0 ∧ v1 = 1)) → (v1 = 0 ∨ (¬ v1 = 0 ∧ ¬ ((μ 32 x7.toNatClampNeg) &&& x4) = 0)) → Wm G mX6_keepWith E (bm G mX6_keepWith E (pV Q)) μ 72 [(0, .ref (gb G + 31)), (1, .ref (gb G + c1)), (2, .int x2), (3, .int x3), (4, .int x4), (5, .int x5), (6, .int x6), (7, .int x7), (8, .int v1)] []) (kk5 : ¬ (μ 31 3) ≤ x7 → ∀ v1 : Int32, ((((μ 32 x7.toNatClampNeg) &&& x5) = 0 ∧ v1 = 0) ∨ (¬ ((μ 32 x7.toNatClampNeg) &&& x5) = 0 ∧ v1 = 1)) → ¬ v1 = 0 → ((μ 32 x7.toNatClampNeg) &&& x4) = 0 → Wm G mX6_keepWith E (bm G mX6_keepWith E (pV Q)) μ 82 [(0, .ref (gb G + 31)), (1, .ref (gb G + c1)), (2, .int x2), (3, .int x3), (4, .int x4), (5, .int x5), (6, .int x6), (7, .int x7), (8, .int v1)] [.int 0]) : Wm G mX6_keepWith E (bm G mX6_keepWith E (pV Q)) μ 21 [(0, .ref (gb G + 31)), (1, .ref (gb G + c1)), (2, .int x2), (3, .int x3), (4, .int x4), (5, .int x5), (6, .int x6), (7, .int x7)] [] := by
  refine L_iload C dX6_keepWith_21 rfl ?_
  refine L_aload_n C (i := 0) dX6_keepWith_23 rfl rfl ?_
  refine L_getI C dX6_keepWith_24 sh_31 fl_X6_98 rfl ?_
  refine L_icmp_ge C (tgt := 157) dX6_keepWith_27 rfl (fun p1 => ?_) (fun p1 => ?_)
  · refine L_aload_n C (i := 0) dX6_keepWith_157 rfl rfl ?_
    refine L_iload C dX6_keepWith_158 rfl ?_
    refine L_putI C dX6_keepWith_160 sh_31 fl_X6_98 rfl rfl rfl ?_
    exact L_irV C dX6_keepWith_163 rfl (rr1 p1)
  · refine L_aload_n C (i := 0) dX6_keepWith_30 rfl rfl ?_
    refine L_getC C (c' := 32) dX6_keepWith_31 sh_31 fl_X6_9 rfl rfl ?_
    refine L_iload C dX6_keepWith_34 rfl ?_
    refine L_iald C dX6_keepWith_36 sh_32 (ss2 p1) ?_
    refine L_iload C dX6_keepWith_37 rfl ?_
    refine L_iand C dX6_keepWith_39 ?_
    refine phi (fun v1 : Int32 => Wm G mX6_keepWith E (bm G mX6_keepWith E (pV Q)) μ 48 [(0, .ref (gb G + 31)), (1, .ref (gb G + c1)), (2, .int x2), (3, .int x3), (4, .int x4), (5, .int x5), (6, .int x6), (7, .int x7)] [.int v1]) (fun v1 : Int32 => (((μ 32 x7.toNatClampNeg) &&& x5) = 0 ∧ v1 = 0) ∨ (¬ ((μ 32 x7.toNatClampNeg) &&& x5) = 0 ∧ v1 = 1)) (fun H => ?_) (fun v1 hv1 => ?_)
    · refine L_if_eq C (tgt := 47) dX6_keepWith_40 rfl (fun p2 => ?_) (fun p2 => ?_)
      · refine L_iconst C (v := 0) dX6_keepWith_47 rfl ?_
        exact H _ (Or.inl ⟨p2, rfl⟩)
      · refine L_iconst C (v := 1) dX6_keepWith_43 rfl ?_
        refine L_goto C (tgt := 48) dX6_keepWith_44 rfl ?_
        exact H _ (Or.inr ⟨p2, rfl⟩)
    refine L_istore C dX6_keepWith_48 (Nat.le_of_ble_eq_true rfl) ?_
    refine L_iload C dX6_keepWith_50 rfl ?_
    refine L_if_eq C (tgt := 72) dX6_keepWith_52 rfl (fun p3 => ?_) (fun p3 => ?_)
    · exact kk4 p1 v1 hv1 (Or.inl p3)
    · refine L_aload_n C (i := 0) dX6_keepWith_55 rfl rfl ?_
      refine L_getC C (c' := 32) dX6_keepWith_56 sh_31 fl_X6_9 rfl rfl ?_
      refine L_iload C dX6_keepWith_59 rfl ?_
      refine L_iald C dX6_keepWith_61 sh_32 (ss3 p1 v1 hv1 p3) ?_
      refine L_iload C dX6_keepWith_62 rfl ?_
      refine L_iand C dX6_keepWith_64 ?_
      refine L_if_ne C (tgt := 72) dX6_keepWith_65 rfl (fun p4 => ?_) (fun p4 => ?_)
      · exact kk4 p1 v1 hv1 (Or.inr ⟨p3, p4⟩)
      · refine L_iconst C (v := 0) dX6_keepWith_68 rfl ?_
        refine L_goto C (tgt := 82) dX6_keepWith_69 rfl ?_
        exact kk5 p1 v1 hv1 p3 p4
set_option maxRecDepth 4000 in
theorem k_X6_keepWith_72 {G : mG} {E : mE} {Q : mM → Prop} {μ : mM} (C : Cx G mX6_keepWith E) {c1 : Nat} (h1 : sh c1 = (0, 3)) {x2 : Int32} {x3 : Int32} {x4 : Int32} {x5 : Int32} {x6 : Int32} {x7 : Int32} {x8 : Int32} (cc1 : CtI G mX6_sampleWith [.ref (gb G + 31), .ref (gb G + c1), .int x7, .int x2, .int x4] μ (fun r μ' => Wm G mX6_keepWith E (bm G mX6_keepWith E (pV Q)) μ' 82 [(0, .ref (gb G + 31)), (1, .ref (gb G + c1)), (2, .int x2), (3, .int x3), (4, .int x4), (5, .int x5), (6, .int x6), (7, .int x7), (8, .int x8)] [.int r])) : Wm G mX6_keepWith E (bm G mX6_keepWith E (pV Q)) μ 72 [(0, .ref (gb G + 31)), (1, .ref (gb G + c1)), (2, .int x2), (3, .int x3), (4, .int x4), (5, .int x5), (6, .int x6), (7, .int x7), (8, .int x8)] [] := by
  refine L_aload_n C (i := 0) dX6_keepWith_72 rfl rfl ?_
  refine L_aload_n C (i := 1) dX6_keepWith_73 rfl rfl ?_
  refine L_iload C dX6_keepWith_74 rfl ?_
  refine L_iload_n C (i := 2) dX6_keepWith_76 rfl rfl ?_
  refine L_iload C dX6_keepWith_77 rfl ?_
  refine L_invV4i C dX6_keepWith_79 sh_31 cal_X6_sampleWith lk_X6_121 ⟨Nat.le_of_ble_eq_true rfl, Nat.le_of_ble_eq_true rfl⟩ ⟨Nat.le_of_ble_eq_true rfl, Nat.le_of_ble_eq_true rfl⟩ (Nat.le_of_ble_eq_true rfl) ?_
  exact cc1
set_option maxRecDepth 4000 in
theorem k_X6_keepWith_82 {G : mG} {E : mE} {B : mB} {μ : mM} (C : Cx G mX6_keepWith E) {c1 : Nat} (h1 : sh c1 = (0, 3)) {x2 : Int32} {x3 : Int32} {x4 : Int32} {x5 : Int32} {x6 : Int32} {x7 : Int32} {x8 : Int32} {sx0 : Int32} (kk1 : sx0 = 0 → Wm G mX6_keepWith E B μ 21 [(0, .ref (gb G + 31)), (1, .ref (gb G + c1)), (2, .int x2), (3, .int x3), (4, .int x4), (5, .int x5), (6, .int x6), (7, .int (x7 + (1 : Int32)))] []) (ss2 : ¬ sx0 = 0 → vp_in x7 1200) (ss3 : ¬ sx0 = 0 → vp_in x6 1200) (ss4 : ¬ sx0 = 0 → ∀ v1 : Int32, ((x8 = 0 ∧ v1 = (μ 33 x7.toNatClampNeg)) ∨ (¬ x8 = 0 ∧ v1 = ((μ 33 x7.toNatClampNeg) * ((ms μ 32 x6.toNatClampNeg (μ 32 x7.toNatClampNeg)) (c1 + 1) x3.toNatClampNeg)))) → vp_in x6 1200) (ss5 : ¬ sx0 = 0 → ∀ v1 : Int32, ((x8 = 0 ∧ v1 = (μ 33 x7.toNatClampNeg)) ∨ (¬ x8 = 0 ∧ v1 = ((μ 33 x7.toNatClampNeg) * ((ms μ 32 x6.toNatClampNeg (μ 32 x7.toNatClampNeg)) (c1 + 1) x3.toNatClampNeg)))) → vp_in x6 1200) (ss6 : ¬ sx0 = 0 → ¬ x8 = 0 → vp_in x3 8) (kk7 : ¬ sx0 = 0 → ∀ v1 : Int32, ((x8 = 0 ∧ v1 = (μ 33 x7.toNatClampNeg)) ∨ (¬ x8 = 0 ∧ v1 = ((μ 33 x7.toNatClampNeg) * ((ms μ 32 x6.toNatClampNeg (μ 32 x7.toNatClampNeg)) (c1 + 1) x3.toNatClampNeg)))) → Wm G mX6_keepWith E B (ms (ms (ms μ 32 x6.toNatClampNeg (μ 32 x7.toNatClampNeg)) 33 x6.toNatClampNeg v1) 34 x6.toNatClampNeg sx0) 21 [(0, .ref (gb G + 31)), (1, .ref (gb G + c1)), (2, .int x2), (3, .int x3), (4, .int x4), (5, .int x5), (6, .int (x6 + (1 : Int32))), (7, .int (x7 + (1 : Int32)))] []) : Wm G mX6_keepWith E B μ 82 [(0, .ref (gb G + 31)), (1, .ref (gb G + c1)), (2, .int x2), (3, .int x3), (4, .int x4), (5, .int x5), (6, .int x6), (7, .int x7), (8, .int x8)] [.int sx0] := by
  refine L_istore C dX6_keepWith_82 (Nat.le_of_ble_eq_true rfl) ?_
  refine L_iload C dX6_keepWith_84 rfl ?_
  refine L_if_eq C (tgt := 151) dX6_keepWith_86 rfl (fun p1 => ?_) (fun p1 => ?_)
  · refine L_iinc C (v := 1) dX6_keepWith_151 rfl rfl (Nat.le_of_ble_eq_true rfl) ?_
    refine L_goto C (tgt := 21) dX6_keepWith_154 rfl ?_
    refine L_sub [0, 1, 2, 3, 4, 5, 6, 7] rfl ?_
    exact kk1 p1
  · refine L_aload_n C (i := 0) dX6_keepWith_89 rfl rfl ?_
    refine L_getC C (c' := 32) dX6_keepWith_90 sh_31 fl_X6_9 rfl rfl ?_
    refine L_iload C dX6_keepWith_93 rfl ?_
    refine L_aload_n C (i := 0) dX6_keepWith_95 rfl rfl ?_
    refine L_getC C (c' := 32) dX6_keepWith_96 sh_31 fl_X6_9 rfl rfl ?_
    refine L_iload C dX6_keepWith_99 rfl ?_
    refine L_iald C dX6_keepWith_101 sh_32 (ss2 p1) ?_
    refine L_iast C dX6_keepWith_102 sh_32 (ss3 p1) ?_
    refine L_aload_n C (i := 0) dX6_keepWith_103 rfl rfl ?_
    refine L_getC C (c' := 33) dX6_keepWith_104 sh_31 fl_X6_15 rfl rfl ?_
    refine L_iload C dX6_keepWith_107 rfl ?_
    refine L_iload C dX6_keepWith_109 rfl ?_
    refine phi (fun v1 : Int32 => Wm G mX6_keepWith E B (ms μ 32 x6.toNatClampNeg (μ 32 x7.toNatClampNeg)) 138 [(0, .ref (gb G + 31)), (1, .ref (gb G + c1)), (2, .int x2), (3, .int x3), (4, .int x4), (5, .int x5), (6, .int x6), (7, .int x7), (9, .int sx0)] [.int v1, .int x6, .ref (gb G + 33)]) (fun v1 : Int32 => (x8 = 0 ∧ v1 = (μ 33 x7.toNatClampNeg)) ∨ (¬ x8 = 0 ∧ v1 = ((μ 33 x7.toNatClampNeg) * ((ms μ 32 x6.toNatClampNeg (μ 32 x7.toNatClampNeg)) (c1 + 1) x3.toNatClampNeg)))) (fun H => ?_) (fun v1 hv1 => ?_)
    · refine L_if_eq C (tgt := 131) dX6_keepWith_111 rfl (fun p2 => ?_) (fun p2 => ?_)
      · refine L_aload_n C (i := 0) dX6_keepWith_131 rfl rfl ?_
        refine L_getC C (c' := 33) dX6_keepWith_132 sh_31 fl_X6_15 rfl rfl ?_
        refine L_iload C dX6_keepWith_135 rfl ?_
        refine L_iald C dX6_keepWith_137 sh_33 (ss2 p1) ?_
        refine L_sub [0, 1, 2, 3, 4, 5, 6, 7, 9] rfl ?_
        exact H _ (Or.inl ⟨p2, rfl⟩)
      · refine L_aload_n C (i := 0) dX6_keepWith_114 rfl rfl ?_
        refine L_getC C (c' := 33) dX6_keepWith_115 sh_31 fl_X6_15 rfl rfl ?_
        refine L_iload C dX6_keepWith_118 rfl ?_
        refine L_iald C dX6_keepWith_120 sh_33 (ss2 p1) ?_
        refine L_aload_n C (i := 1) dX6_keepWith_121 rfl rfl ?_
        refine L_getC C (c' := (c1 + 1)) dX6_keepWith_122 h1 fl_X6_107 rfl rfl ?_
        refine L_iload_n C (i := 3) dX6_keepWith_125 rfl rfl ?_
        refine L_iald C dX6_keepWith_126 (shd_3_1 h1) (ss6 p1 p2) ?_
        refine L_imul C dX6_keepWith_127 ?_
        refine L_goto C (tgt := 138) dX6_keepWith_128 rfl ?_
        refine L_sub [0, 1, 2, 3, 4, 5, 6, 7, 9] rfl ?_
        exact H _ (Or.inr ⟨p2, rfl⟩)
    refine L_iast C dX6_keepWith_138 sh_33 (ss4 p1 v1 hv1) ?_
    refine L_aload_n C (i := 0) dX6_keepWith_139 rfl rfl ?_
    refine L_getC C (c' := 34) dX6_keepWith_140 sh_31 fl_X6_18 rfl rfl ?_
    refine L_iload C dX6_keepWith_143 rfl ?_
    refine L_iload C dX6_keepWith_145 rfl ?_
    refine L_iast C dX6_keepWith_147 sh_34 (ss5 p1 v1 hv1) ?_
    refine L_iinc C (v := 1) dX6_keepWith_148 rfl rfl (Nat.le_of_ble_eq_true rfl) ?_
    refine L_iinc C (v := 1) dX6_keepWith_151 rfl rfl (Nat.le_of_ble_eq_true rfl) ?_
    refine L_goto C (tgt := 21) dX6_keepWith_154 rfl ?_
    refine L_sub [0, 1, 2, 3, 4, 5, 6, 7] rfl ?_
    exact kk7 p1 v1 hv1
set_option maxRecDepth 4000 in
theorem k_X6_makeRow_0 {G : mG} {E : mE} {Q : Int32 → mM → Prop} {μ : mM} (C : Cx G mX6_makeRow E) {c1 : Nat} (h1 : sh c1 = (0, 3)) (cc1 : CtV G mX6_gather [.ref (gb G + 31), .ref (gb G + 22)] μ (fun μ' => Wm G mX6_makeRow E (bm G mX6_makeRow E (pI Q)) μ' 5 [(0, .ref (gb G + 31)), (1, .ref (gb G + c1))] [])) : Wm G mX6_makeRow E (bm G mX6_makeRow E (pI Q)) μ 0 [(0, .ref (gb G + 31)), (1, .ref (gb G + c1)), (2, .ref (gb G + 22))] [] := by
  refine L_aload_n C (i := 0) dX6_makeRow_0 rfl rfl ?_
  refine L_aload_n C (i := 2) dX6_makeRow_1 rfl rfl ?_
  refine L_sub [0, 1] rfl ?_
  refine L_invV1v C dX6_makeRow_2 sh_31 cal_X6_gather lk_X6_24 ⟨Nat.le_of_ble_eq_true rfl, Nat.le_of_ble_eq_true rfl⟩ ⟨Nat.le_of_ble_eq_true rfl, Nat.le_of_ble_eq_true rfl⟩ (Nat.le_of_ble_eq_true rfl) ?_
  exact cc1
theorem e_X6_makeRow {G : mG} {Q : Int32 → mM → Prop} {μ : mM} {c1 : Nat} (h1 : sh c1 = (0, 3)) (k : ∀ E, Cx G mX6_makeRow E → Wm G mX6_makeRow E (bm G mX6_makeRow E (pI Q)) μ 0 [(0, .ref (gb G + 31)), (1, .ref (gb G + c1)), (2, .ref (gb G + 22))] []) : CtI G mX6_makeRow [.ref (gb G + 31), .ref (gb G + c1), .ref (gb G + 22)] μ Q := CtI.of pn_X6 (Nat.le_of_ble_eq_true rfl) k
set_option maxRecDepth 4000 in
theorem k_X6_makeRow_5 {G : mG} {E : mE} {B : mB} {μ : mM} (C : Cx G mX6_makeRow E) {c1 : Nat} (h1 : sh c1 = (0, 3)) (kk1 : Wm G mX6_makeRow E B μ 10 [(0, .ref (gb G + 31)), (1, .ref (gb G + c1)), (3, .int 0), (4, .int 0)] []) : Wm G mX6_makeRow E B μ 5 [(0, .ref (gb G + 31)), (1, .ref (gb G + c1))] [] := by
  refine L_iconst C (v := 0) dX6_makeRow_5 rfl ?_
  refine L_istore_n C (i := 3) dX6_makeRow_6 rfl (Nat.le_of_ble_eq_true rfl) ?_
  refine L_iconst C (v := 0) dX6_makeRow_7 rfl ?_
  refine L_istore C dX6_makeRow_8 (Nat.le_of_ble_eq_true rfl) ?_
  exact kk1
set_option maxRecDepth 4000 in
theorem k_X6_makeRow_10 {G : mG} {E : mE} {Q : Int32 → mM → Prop} {μ : mM} (C : Cx G mX6_makeRow E) {c1 : Nat} (h1 : sh c1 = (0, 3)) {x3 : Int32} {x4 : Int32} (rr1 : (μ c1 0) ≤ x4 → Q x3 μ) (cc2 : ¬ (μ c1 0) ≤ x4 → CtI G mX6_bestCell [.ref (gb G + 31), .ref (gb G + c1), .int x3, .int x4] μ (fun r μ' => Wm G mX6_makeRow E (bm G mX6_makeRow E (pI Q)) μ' 27 [(0, .ref (gb G + 31)), (1, .ref (gb G + c1)), (3, .int x3), (4, .int x4)] [.int r])) : Wm G mX6_makeRow E (bm G mX6_makeRow E (pI Q)) μ 10 [(0, .ref (gb G + 31)), (1, .ref (gb G + c1)), (3, .int x3), (4, .int x4)] [] := by
  refine L_iload C dX6_makeRow_10 rfl ?_
  refine L_aload_n C (i := 1) dX6_makeRow_12 rfl rfl ?_
  refine L_getI C dX6_makeRow_13 h1 fl_X6_28 rfl ?_
  refine L_icmp_ge C (tgt := 50) dX6_makeRow_16 rfl (fun p1 => ?_) (fun p1 => ?_)
  · refine L_iload_n C (i := 3) dX6_makeRow_50 rfl rfl ?_
    exact L_irI C dX6_makeRow_51 rfl (rr1 p1)
  · refine L_aload_n C (i := 0) dX6_makeRow_19 rfl rfl ?_
    refine L_aload_n C (i := 1) dX6_makeRow_20 rfl rfl ?_
    refine L_iload_n C (i := 3) dX6_makeRow_21 rfl rfl ?_
    refine L_iload C dX6_makeRow_22 rfl ?_
    refine L_invV3i C dX6_makeRow_24 sh_31 cal_X6_bestCell lk_X6_34 ⟨Nat.le_of_ble_eq_true rfl, Nat.le_of_ble_eq_true rfl⟩ ⟨Nat.le_of_ble_eq_true rfl, Nat.le_of_ble_eq_true rfl⟩ (Nat.le_of_ble_eq_true rfl) ?_
    exact cc2 p1
set_option maxRecDepth 4000 in
theorem k_X6_makeRow_27 {G : mG} {E : mE} {Q : Int32 → mM → Prop} {μ : mM} (C : Cx G mX6_makeRow E) {c1 : Nat} (h1 : sh c1 = (0, 3)) {x3 : Int32} {x4 : Int32} {sx0 : Int32} (cc1 : CtV G mX6_keepWith [.ref (gb G + 31), .ref (gb G + c1), .int x3, .int x4, .int sx0] μ (fun μ' => Wm G mX6_makeRow E (bm G mX6_makeRow E (pI Q)) μ' 39 [(0, .ref (gb G + 31)), (1, .ref (gb G + c1)), (3, .int x3), (4, .int x4), (5, .int sx0)] [])) : Wm G mX6_makeRow E (bm G mX6_makeRow E (pI Q)) μ 27 [(0, .ref (gb G + 31)), (1, .ref (gb G + c1)), (3, .int x3), (4, .int x4)] [.int sx0] := by
  refine L_istore C dX6_makeRow_27 (Nat.le_of_ble_eq_true rfl) ?_
  refine L_aload_n C (i := 0) dX6_makeRow_29 rfl rfl ?_
  refine L_aload_n C (i := 1) dX6_makeRow_30 rfl rfl ?_
  refine L_iload_n C (i := 3) dX6_makeRow_31 rfl rfl ?_
  refine L_iload C dX6_makeRow_32 rfl ?_
  refine L_iload C dX6_makeRow_34 rfl ?_
  refine L_invV4v C dX6_makeRow_36 sh_31 cal_X6_keepWith lk_X6_38 ⟨Nat.le_of_ble_eq_true rfl, Nat.le_of_ble_eq_true rfl⟩ ⟨Nat.le_of_ble_eq_true rfl, Nat.le_of_ble_eq_true rfl⟩ (Nat.le_of_ble_eq_true rfl) ?_
  exact cc1
set_option maxRecDepth 4000 in
theorem k_X6_makeRow_39 {G : mG} {E : mE} {B : mB} {μ : mM} (C : Cx G mX6_makeRow E) {c1 : Nat} (h1 : sh c1 = (0, 3)) {x3 : Int32} {x4 : Int32} {x5 : Int32} (kk1 : Wm G mX6_makeRow E B μ 10 [(0, .ref (gb G + 31)), (1, .ref (gb G + c1)), (3, .int (x3 ||| x5)), (4, .int (x4 + (1 : Int32)))] []) : Wm G mX6_makeRow E B μ 39 [(0, .ref (gb G + 31)), (1, .ref (gb G + c1)), (3, .int x3), (4, .int x4), (5, .int x5)] [] := by
  refine L_iload_n C (i := 3) dX6_makeRow_39 rfl rfl ?_
  refine L_iload C dX6_makeRow_40 rfl ?_
  refine L_ior C dX6_makeRow_42 ?_
  refine L_istore_n C (i := 3) dX6_makeRow_43 rfl (Nat.le_of_ble_eq_true rfl) ?_
  refine L_iinc C (v := 1) dX6_makeRow_44 rfl rfl (Nat.le_of_ble_eq_true rfl) ?_
  refine L_goto C (tgt := 10) dX6_makeRow_47 rfl ?_
  refine L_sub [0, 1, 2, 3] rfl ?_
  exact kk1
set_option maxRecDepth 4000 in
theorem k_X2_gainOf_0 {G : mG} {E : mE} {B : mB} {μ : mM} (C : Cx G mX2_gainOf E) {c1 : Nat} (h1 : sh c1 = (0, 6)) {x2 : Int32} (kk1 : Wm G mX2_gainOf E B μ 5 [(0, .ref (gb G + 22)), (1, .ref (gb G + c1)), (2, .int x2), (3, .int 0), (4, .int 0)] []) : Wm G mX2_gainOf E B μ 0 [(0, .ref (gb G + 22)), (1, .ref (gb G + c1)), (2, .int x2)] [] := by
  refine L_iconst C (v := 0) dX2_gainOf_0 rfl ?_
  refine L_istore_n C (i := 3) dX2_gainOf_1 rfl (Nat.le_of_ble_eq_true rfl) ?_
  refine L_iconst C (v := 0) dX2_gainOf_2 rfl ?_
  refine L_istore C dX2_gainOf_3 (Nat.le_of_ble_eq_true rfl) ?_
  exact kk1
theorem e_X2_gainOf {G : mG} {Q : Int32 → mM → Prop} {μ : mM} {c1 : Nat} (h1 : sh c1 = (0, 6)) {x2 : Int32} (k : ∀ E, Cx G mX2_gainOf E → Wm G mX2_gainOf E (bm G mX2_gainOf E (pI Q)) μ 0 [(0, .ref (gb G + 22)), (1, .ref (gb G + c1)), (2, .int x2)] []) : CtI G mX2_gainOf [.ref (gb G + 22), .ref (gb G + c1), .int x2] μ Q := CtI.of pn_X2 (Nat.le_of_ble_eq_true rfl) k
set_option maxRecDepth 4000 in
theorem k_X2_gainOf_5 {G : mG} {E : mE} {Q : Int32 → mM → Prop} {μ : mM} (C : Cx G mX2_gainOf E) {c1 : Nat} (h1 : sh c1 = (0, 6)) {x2 : Int32} {x3 : Int32} {x4 : Int32} (rr1 : (μ 23 0) ≤ x4 → Q x3 μ) (ss2 : ¬ (μ 23 0) ≤ x4 → vp_in x2 64) (cc3 : ¬ (μ 23 0) ≤ x4 → CtI G mX0_numberIn [.ref (gb G + 23), .int x4, .int (μ (c1 + 1) x2.toNatClampNeg)] μ (fun r μ' => Wm G mX2_gainOf E (bm G mX2_gainOf E (pI Q)) μ' 32 [(0, .ref (gb G + 22)), (1, .ref (gb G + c1)), (2, .int x2), (3, .int x3), (4, .int x4)] [.int r])) : Wm G mX2_gainOf E (bm G mX2_gainOf E (pI Q)) μ 5 [(0, .ref (gb G + 22)), (1, .ref (gb G + c1)), (2, .int x2), (3, .int x3), (4, .int x4)] [] := by
  refine L_iload C dX2_gainOf_5 rfl ?_
  refine L_aload_n C (i := 0) dX2_gainOf_7 rfl rfl ?_
  refine L_getC C (c' := 23) dX2_gainOf_8 sh_22 fl_X2_12 rfl rfl ?_
  refine L_getI C dX2_gainOf_11 sh_23 fl_X2_31 rfl ?_
  refine L_icmp_ge C (tgt := 75) dX2_gainOf_14 rfl (fun p1 => ?_) (fun p1 => ?_)
  · refine L_iload_n C (i := 3) dX2_gainOf_75 rfl rfl ?_
    exact L_irI C dX2_gainOf_76 rfl (rr1 p1)
  · refine L_aload_n C (i := 0) dX2_gainOf_17 rfl rfl ?_
    refine L_getC C (c' := 23) dX2_gainOf_18 sh_22 fl_X2_12 rfl rfl ?_
    refine L_iload C dX2_gainOf_21 rfl ?_
    refine L_aload_n C (i := 1) dX2_gainOf_23 rfl rfl ?_
    refine L_getC C (c' := (c1 + 1)) dX2_gainOf_24 h1 fl_X2_94 rfl rfl ?_
    refine L_iload_n C (i := 2) dX2_gainOf_27 rfl rfl ?_
    refine L_iald C dX2_gainOf_28 (shd_6_1 h1) (ss2 p1) ?_
    refine L_invV2i C dX2_gainOf_29 sh_23 cal_X0_numberIn lk_X2_101 ⟨Nat.le_of_ble_eq_true rfl, Nat.le_of_ble_eq_true rfl⟩ ⟨Nat.le_of_ble_eq_true rfl, Nat.le_of_ble_eq_true rfl⟩ (Nat.le_of_ble_eq_true rfl) ?_
    exact cc3 p1
set_option maxRecDepth 4000 in
theorem k_X2_gainOf_32 {G : mG} {E : mE} {Q : Int32 → mM → Prop} {μ : mM} (C : Cx G mX2_gainOf E) {c1 : Nat} (h1 : sh c1 = (0, 6)) {x2 : Int32} {x3 : Int32} {x4 : Int32} {sx0 : Int32} (kk1 : sx0 = (-1) → Wm G mX2_gainOf E (bm G mX2_gainOf E (pI Q)) μ 5 [(0, .ref (gb G + 22)), (1, .ref (gb G + c1)), (2, .int x2), (3, .int x3), (4, .int (x4 + (1 : Int32)))] []) (ss2 : ¬ sx0 = (-1) → vp_in sx0 1200) (kk3 : ¬ sx0 = (-1) → (μ 30 sx0.toNatClampNeg) = 1 → Wm G mX2_gainOf E (bm G mX2_gainOf E (pI Q)) μ 5 [(0, .ref (gb G + 22)), (1, .ref (gb G + c1)), (2, .int x2), (3, .int (x3 + (1 : Int32))), (4, .int (x4 + (1 : Int32)))] []) (cc4 : ¬ sx0 = (-1) → ¬ (μ 30 sx0.toNatClampNeg) = 1 → CtI G mX7_firstThatHas [.ref (gb G + c1), .int (μ 28 sx0.toNatClampNeg)] μ (fun r μ' => Wm G mX2_gainOf E (bm G mX2_gainOf E (pI Q)) μ' 62 [(0, .ref (gb G + 22)), (1, .ref (gb G + c1)), (2, .int x2), (3, .int x3), (4, .int x4)] [.int r])) : Wm G mX2_gainOf E (bm G mX2_gainOf E (pI Q)) μ 32 [(0, .ref (gb G + 22)), (1, .ref (gb G + c1)), (2, .int x2), (3, .int x3), (4, .int x4)] [.int sx0] := by
  refine L_istore C dX2_gainOf_32 (Nat.le_of_ble_eq_true rfl) ?_
  refine L_iload C dX2_gainOf_34 rfl ?_
  refine L_iconst C (v := (-1)) dX2_gainOf_36 rfl ?_
  refine L_icmp_eq C (tgt := 69) dX2_gainOf_37 rfl (fun p1 => ?_) (fun p1 => ?_)
  · refine L_iinc C (v := 1) dX2_gainOf_69 rfl rfl (Nat.le_of_ble_eq_true rfl) ?_
    refine L_goto C (tgt := 5) dX2_gainOf_72 rfl ?_
    refine L_sub [0, 1, 2, 3, 4] rfl ?_
    exact kk1 p1
  · refine L_aload_n C (i := 0) dX2_gainOf_40 rfl rfl ?_
    refine L_getC C (c' := 30) dX2_gainOf_41 sh_22 fl_X2_25 rfl rfl ?_
    refine L_iload C dX2_gainOf_44 rfl ?_
    refine L_iald C dX2_gainOf_46 sh_30 (ss2 p1) ?_
    refine L_iconst C (v := 1) dX2_gainOf_47 rfl ?_
    refine L_icmp_eq C (tgt := 66) dX2_gainOf_48 rfl (fun p2 => ?_) (fun p2 => ?_)
    · refine L_iinc C (v := 1) dX2_gainOf_66 rfl rfl (Nat.le_of_ble_eq_true rfl) ?_
      refine L_iinc C (v := 1) dX2_gainOf_69 rfl rfl (Nat.le_of_ble_eq_true rfl) ?_
      refine L_goto C (tgt := 5) dX2_gainOf_72 rfl ?_
      refine L_sub [0, 1, 2, 3, 4] rfl ?_
      exact kk3 p1 p2
    · refine L_aload_n C (i := 1) dX2_gainOf_51 rfl rfl ?_
      refine L_aload_n C (i := 0) dX2_gainOf_52 rfl rfl ?_
      refine L_getC C (c' := 28) dX2_gainOf_53 sh_22 fl_X2_18 rfl rfl ?_
      refine L_iload C dX2_gainOf_56 rfl ?_
      refine L_iald C dX2_gainOf_58 sh_28 (ss2 p1) ?_
      refine L_sub [0, 1, 2, 3, 4] rfl ?_
      refine L_invV1i C dX2_gainOf_59 h1 cal_X7_firstThatHas lk_X2_108 ⟨Nat.le_of_ble_eq_true rfl, Nat.le_of_ble_eq_true rfl⟩ ⟨Nat.le_of_ble_eq_true rfl, Nat.le_of_ble_eq_true rfl⟩ (Nat.le_of_ble_eq_true rfl) ?_
      exact cc4 p1 p2
set_option maxRecDepth 4000 in
theorem k_X2_gainOf_62 {G : mG} {E : mE} {B : mB} {μ : mM} (C : Cx G mX2_gainOf E) {c1 : Nat} (h1 : sh c1 = (0, 6)) {x2 : Int32} {x3 : Int32} {x4 : Int32} {sx0 : Int32} (kk1 : ∀ v1 : Int32, ((¬ sx0 = x2 ∧ v1 = x3) ∨ (sx0 = x2 ∧ v1 = (x3 + (1 : Int32)))) → Wm G mX2_gainOf E B μ 5 [(0, .ref (gb G + 22)), (1, .ref (gb G + c1)), (2, .int x2), (3, .int v1), (4, .int (x4 + (1 : Int32)))] []) : Wm G mX2_gainOf E B μ 62 [(0, .ref (gb G + 22)), (1, .ref (gb G + c1)), (2, .int x2), (3, .int x3), (4, .int x4)] [.int sx0] := by
  refine L_iload_n C (i := 2) dX2_gainOf_62 rfl rfl ?_
  refine phi (fun v1 : Int32 => Wm G mX2_gainOf E B μ 69 [(0, .ref (gb G + 22)), (1, .ref (gb G + c1)), (2, .int x2), (3, .int v1), (4, .int x4)] []) (fun v1 : Int32 => (¬ sx0 = x2 ∧ v1 = x3) ∨ (sx0 = x2 ∧ v1 = (x3 + (1 : Int32)))) (fun H => ?_) (fun v1 hv1 => ?_)
  · refine L_icmp_ne C (tgt := 69) dX2_gainOf_63 rfl (fun p1 => ?_) (fun p1 => ?_)
    · exact H _ (Or.inl ⟨p1, rfl⟩)
    · refine L_iinc C (v := 1) dX2_gainOf_66 rfl rfl (Nat.le_of_ble_eq_true rfl) ?_
      exact H _ (Or.inr ⟨p1, rfl⟩)
  refine L_iinc C (v := 1) dX2_gainOf_69 rfl rfl (Nat.le_of_ble_eq_true rfl) ?_
  refine L_goto C (tgt := 5) dX2_gainOf_72 rfl ?_
  exact kk1 v1 hv1
set_option maxRecDepth 4000 in
theorem k_X11_greed_0 {G : mG} {E : mE} {Q : Int32 → mM → Prop} {μ : mM} (C : Cx G mX11_greed E)  (rr1 : ((μ 15 0) ≤ 0 ∨ (¬ (μ 15 0) ≤ 0 ∧ ¬ (μ 19 0) < 64)) → Q (-1) μ) (cc2 : ¬ (μ 15 0) ≤ 0 → (μ 19 0) < 64 → CtI G mX2_openCount [.ref (gb G + 22)] μ (fun r μ' => Wm G mX11_greed E (bm G mX11_greed E (pI Q)) μ' 31 [(0, .ref (gb G + 0))] [.int r])) : Wm G mX11_greed E (bm G mX11_greed E (pI Q)) μ 0 [(0, .ref (gb G + 0))] [] := by
  refine L_aload_n C (i := 0) dX11_greed_0 rfl rfl ?_
  refine L_invV0i C dX11_greed_1 sh_0 cal_X11_hasPlan lk_X11_165 ⟨Nat.le_of_ble_eq_true rfl, Nat.le_of_ble_eq_true rfl⟩ ⟨Nat.le_of_ble_eq_true rfl, Nat.le_of_ble_eq_true rfl⟩ (Nat.le_of_ble_eq_true rfl) (a_X11_hasPlan (fun p1 => ?_) (fun p2 => ?_))
  · refine L_if_eq C (tgt := 22) dX11_greed_4 rfl (fun p3 => ?_) (fun p3 => absurd p3 (by decide))
    refine L_iconst C (v := (-1)) dX11_greed_22 rfl ?_
    exact L_irI C dX11_greed_23 rfl (rr1 (Or.inl p1))
  · refine L_if_eq C (tgt := 22) dX11_greed_4 rfl (fun p4 => absurd p4 (by decide)) (fun p4 => ?_)
    refine L_aload_n C (i := 0) dX11_greed_7 rfl rfl ?_
    refine L_getC C (c' := 14) dX11_greed_8 sh_0 fl_X11_26 rfl rfl ?_
    refine L_getC C (c' := 19) dX11_greed_11 sh_14 fl_X11_90 rfl rfl ?_
    refine L_getI C dX11_greed_14 sh_19 fl_X11_94 rfl ?_
    refine L_bipush C (v := 64) dX11_greed_17 rfl ?_
    refine L_icmp_lt C (tgt := 24) dX11_greed_19 rfl (fun p5 => ?_) (fun p5 => ?_)
    · refine L_aload_n C (i := 0) dX11_greed_24 rfl rfl ?_
      refine L_getC C (c' := 22) dX11_greed_25 sh_0 fl_X11_33 rfl rfl ?_
      refine L_invV0i C dX11_greed_28 sh_22 cal_X2_openCount lk_X11_169 ⟨Nat.le_of_ble_eq_true rfl, Nat.le_of_ble_eq_true rfl⟩ ⟨Nat.le_of_ble_eq_true rfl, Nat.le_of_ble_eq_true rfl⟩ (Nat.le_of_ble_eq_true rfl) ?_
      exact cc2 p2 p5
    · refine L_iconst C (v := (-1)) dX11_greed_22 rfl ?_
      exact L_irI C dX11_greed_23 rfl (rr1 (Or.inr ⟨p2, p5⟩))
theorem e_X11_greed {G : mG} {Q : Int32 → mM → Prop} {μ : mM}  (k : ∀ E, Cx G mX11_greed E → Wm G mX11_greed E (bm G mX11_greed E (pI Q)) μ 0 [(0, .ref (gb G + 0))] []) : CtI G mX11_greed [.ref (gb G + 0)] μ Q := CtI.of pn_X11 (Nat.le_of_ble_eq_true rfl) k
set_option maxRecDepth 4000 in
theorem k_X11_greed_31 {G : mG} {E : mE} {Q : Int32 → mM → Prop} {μ : mM} (C : Cx G mX11_greed E) {sx0 : Int32} (cc1 : ¬ sx0 = 0 → CtV G mX11_remember [.ref (gb G + 0)] μ (fun μ' => Wm G mX11_greed E (bm G mX11_greed E (pI Q)) μ' 41 [(0, .ref (gb G + 0))] [])) (rr2 : sx0 = 0 → Q (-2) μ) : Wm G mX11_greed E (bm G mX11_greed E (pI Q)) μ 31 [(0, .ref (gb G + 0))] [.int sx0] := by
  refine L_if_ne C (tgt := 37) dX11_greed_31 rfl (fun p1 => ?_) (fun p1 => ?_)
  · refine L_aload_n C (i := 0) dX11_greed_37 rfl rfl ?_
    refine L_invV0v C dX11_greed_38 sh_0 cal_X11_remember lk_X11_143 ⟨Nat.le_of_ble_eq_true rfl, Nat.le_of_ble_eq_true rfl⟩ ⟨Nat.le_of_ble_eq_true rfl, Nat.le_of_ble_eq_true rfl⟩ (Nat.le_of_ble_eq_true rfl) ?_
    exact cc1 p1
  · refine L_bipush C (v := (-2)) dX11_greed_34 rfl ?_
    exact L_irI C dX11_greed_36 rfl (rr2 p1)
set_option maxRecDepth 4000 in
theorem k_X11_greed_41 {G : mG} {E : mE} {Q : Int32 → mM → Prop} {μ : mM} (C : Cx G mX11_greed E)  (cc1 : CtI G mX6_makeRow [.ref (gb G + 31), .ref (gb G + 15), .ref (gb G + 22)] μ (fun r μ' => Wm G mX11_greed E (bm G mX11_greed E (pI Q)) μ' 60 [(0, .ref (gb G + 0))] [.int r, .ref (gb G + 0)])) : Wm G mX11_greed E (bm G mX11_greed E (pI Q)) μ 41 [(0, .ref (gb G + 0))] [] := by
  refine L_aload_n C (i := 0) dX11_greed_41 rfl rfl ?_
  refine L_aload_n C (i := 0) dX11_greed_42 rfl rfl ?_
  refine L_getC C (c' := 31) dX11_greed_43 sh_0 fl_X11_40 rfl rfl ?_
  refine L_aload_n C (i := 0) dX11_greed_46 rfl rfl ?_
  refine L_getC C (c' := 14) dX11_greed_47 sh_0 fl_X11_26 rfl rfl ?_
  refine L_getC C (c' := 15) dX11_greed_50 sh_14 fl_X11_77 rfl rfl ?_
  refine L_aload_n C (i := 0) dX11_greed_53 rfl rfl ?_
  refine L_getC C (c' := 22) dX11_greed_54 sh_0 fl_X11_33 rfl rfl ?_
  refine L_invV2i C dX11_greed_57 sh_31 cal_X6_makeRow lk_X11_181 ⟨Nat.le_of_ble_eq_true rfl, Nat.le_of_ble_eq_true rfl⟩ ⟨Nat.le_of_ble_eq_true rfl, Nat.le_of_ble_eq_true rfl⟩ (Nat.le_of_ble_eq_true rfl) ?_
  exact cc1
set_option maxRecDepth 4000 in
theorem k_X11_greed_60 {G : mG} {E : mE} {Q : Int32 → mM → Prop} {μ : mM} (C : Cx G mX11_greed E) {sx1 : Int32} (cc1 : CtV G mX11_append [.ref (gb G + 0), .int sx1] μ (fun μ' => Wm G mX11_greed E (bm G mX11_greed E (pI Q)) μ' 63 [(0, .ref (gb G + 0))] [])) : Wm G mX11_greed E (bm G mX11_greed E (pI Q)) μ 60 [(0, .ref (gb G + 0))] [.int sx1, .ref (gb G + 0)] := by
  refine L_invV1v C dX11_greed_60 sh_0 cal_X11_append lk_X11_146 ⟨Nat.le_of_ble_eq_true rfl, Nat.le_of_ble_eq_true rfl⟩ ⟨Nat.le_of_ble_eq_true rfl, Nat.le_of_ble_eq_true rfl⟩ (Nat.le_of_ble_eq_true rfl) ?_
  exact cc1
set_option maxRecDepth 4000 in
theorem k_X11_greed_63 {G : mG} {E : mE} {Q : Int32 → mM → Prop} {μ : mM} (C : Cx G mX11_greed E)  (cc1 : CtI G mX2_gainOf [.ref (gb G + 22), .ref (gb G + 19), .int ((μ 19 0) - (1 : Int32))] μ (fun r μ' => Wm G mX11_greed E (bm G mX11_greed E (pI Q)) μ' 89 [] [.int r])) : Wm G mX11_greed E (bm G mX11_greed E (pI Q)) μ 63 [(0, .ref (gb G + 0))] [] := by
  refine L_aload_n C (i := 0) dX11_greed_63 rfl rfl ?_
  refine L_getC C (c' := 22) dX11_greed_64 sh_0 fl_X11_33 rfl rfl ?_
  refine L_aload_n C (i := 0) dX11_greed_67 rfl rfl ?_
  refine L_getC C (c' := 14) dX11_greed_68 sh_0 fl_X11_26 rfl rfl ?_
  refine L_getC C (c' := 19) dX11_greed_71 sh_14 fl_X11_90 rfl rfl ?_
  refine L_aload_n C (i := 0) dX11_greed_74 rfl rfl ?_
  refine L_getC C (c' := 14) dX11_greed_75 sh_0 fl_X11_26 rfl rfl ?_
  refine L_getC C (c' := 19) dX11_greed_78 sh_14 fl_X11_90 rfl rfl ?_
  refine L_getI C dX11_greed_81 sh_19 fl_X11_94 rfl ?_
  refine L_iconst C (v := 1) dX11_greed_84 rfl ?_
  refine L_isub C dX11_greed_85 ?_
  refine L_sub [] rfl ?_
  refine L_invV2i C dX11_greed_86 sh_22 cal_X2_gainOf lk_X11_185 ⟨Nat.le_of_ble_eq_true rfl, Nat.le_of_ble_eq_true rfl⟩ ⟨Nat.le_of_ble_eq_true rfl, Nat.le_of_ble_eq_true rfl⟩ (Nat.le_of_ble_eq_true rfl) ?_
  exact cc1
set_option maxRecDepth 4000 in
theorem k_X11_greed_89 {G : mG} {E : mE} {Q : Int32 → mM → Prop} {μ : mM} (C : Cx G mX11_greed E) {sx0 : Int32} (rr1 : Q sx0 μ) : Wm G mX11_greed E (bm G mX11_greed E (pI Q)) μ 89 [] [.int sx0] := by
  exact L_irI C dX11_greed_89 rfl (rr1)
set_option maxRecDepth 4000 in
theorem k_X11_fill_0 {G : mG} {E : mE} {Q : Int32 → mM → Prop} {μ : mM} (C : Cx G mX11_fill E)  (rr1 : (μ 15 0) ≤ 0 → Q (-1) μ) (rr2 : ¬ (μ 15 0) ≤ 0 → 64 ≤ (μ 19 0) → Q 0 μ) (cc3 : ¬ (μ 15 0) ≤ 0 → ¬ 64 ≤ (μ 19 0) → CtI G mX2_openCount [.ref (gb G + 22)] μ (fun r μ' => Wm G mX11_fill E (bm G mX11_fill E (pI Q)) μ' 33 [(0, .ref (gb G + 0)), (1, .int (μ 19 0))] [.int r])) : Wm G mX11_fill E (bm G mX11_fill E (pI Q)) μ 0 [(0, .ref (gb G + 0))] [] := by
  refine L_aload_n C (i := 0) dX11_fill_0 rfl rfl ?_
  refine L_invV0i C dX11_fill_1 sh_0 cal_X11_hasPlan lk_X11_165 ⟨Nat.le_of_ble_eq_true rfl, Nat.le_of_ble_eq_true rfl⟩ ⟨Nat.le_of_ble_eq_true rfl, Nat.le_of_ble_eq_true rfl⟩ (Nat.le_of_ble_eq_true rfl) (a_X11_hasPlan (fun p1 => ?_) (fun p2 => ?_))
  · refine L_if_ne C (tgt := 9) dX11_fill_4 rfl (fun p3 => absurd p3 (by decide)) (fun p3 => ?_)
    refine L_iconst C (v := (-1)) dX11_fill_7 rfl ?_
    exact L_irI C dX11_fill_8 rfl (rr1 p1)
  · refine L_if_ne C (tgt := 9) dX11_fill_4 rfl (fun p4 => ?_) (fun p4 => absurd p4 (by decide))
    refine L_aload_n C (i := 0) dX11_fill_9 rfl rfl ?_
    refine L_getC C (c' := 14) dX11_fill_10 sh_0 fl_X11_26 rfl rfl ?_
    refine L_getC C (c' := 19) dX11_fill_13 sh_14 fl_X11_90 rfl rfl ?_
    refine L_getI C dX11_fill_16 sh_19 fl_X11_94 rfl ?_
    refine L_istore_n C (i := 1) dX11_fill_19 rfl (Nat.le_of_ble_eq_true rfl) ?_
    refine L_iload_n C (i := 1) dX11_fill_20 rfl rfl ?_
    refine L_bipush C (v := 64) dX11_fill_21 rfl ?_
    refine L_icmp_ge C (tgt := 36) dX11_fill_23 rfl (fun p5 => ?_) (fun p5 => ?_)
    · refine L_iconst C (v := 0) dX11_fill_36 rfl ?_
      exact L_irI C dX11_fill_37 rfl (rr2 p2 p5)
    · refine L_aload_n C (i := 0) dX11_fill_26 rfl rfl ?_
      refine L_getC C (c' := 22) dX11_fill_27 sh_0 fl_X11_33 rfl rfl ?_
      refine L_invV0i C dX11_fill_30 sh_22 cal_X2_openCount lk_X11_169 ⟨Nat.le_of_ble_eq_true rfl, Nat.le_of_ble_eq_true rfl⟩ ⟨Nat.le_of_ble_eq_true rfl, Nat.le_of_ble_eq_true rfl⟩ (Nat.le_of_ble_eq_true rfl) ?_
      exact cc3 p2 p5
theorem e_X11_fill {G : mG} {Q : Int32 → mM → Prop} {μ : mM}  (k : ∀ E, Cx G mX11_fill E → Wm G mX11_fill E (bm G mX11_fill E (pI Q)) μ 0 [(0, .ref (gb G + 0))] []) : CtI G mX11_fill [.ref (gb G + 0)] μ Q := CtI.of pn_X11 (Nat.le_of_ble_eq_true rfl) k
set_option maxRecDepth 4000 in
theorem k_X11_fill_33 {G : mG} {E : mE} {Q : Int32 → mM → Prop} {μ : mM} (C : Cx G mX11_fill E) {x1 : Int32} {sx0 : Int32} (cc1 : ¬ sx0 = 0 → CtV G mX11_remember [.ref (gb G + 0)] μ (fun μ' => Wm G mX11_fill E (bm G mX11_fill E (pI Q)) μ' 42 [(0, .ref (gb G + 0)), (1, .int x1)] [])) (rr2 : sx0 = 0 → Q 0 μ) : Wm G mX11_fill E (bm G mX11_fill E (pI Q)) μ 33 [(0, .ref (gb G + 0)), (1, .int x1)] [.int sx0] := by
  refine L_if_ne C (tgt := 38) dX11_fill_33 rfl (fun p1 => ?_) (fun p1 => ?_)
  · refine L_aload_n C (i := 0) dX11_fill_38 rfl rfl ?_
    refine L_invV0v C dX11_fill_39 sh_0 cal_X11_remember lk_X11_143 ⟨Nat.le_of_ble_eq_true rfl, Nat.le_of_ble_eq_true rfl⟩ ⟨Nat.le_of_ble_eq_true rfl, Nat.le_of_ble_eq_true rfl⟩ (Nat.le_of_ble_eq_true rfl) ?_
    exact cc1 p1
  · refine L_iconst C (v := 0) dX11_fill_36 rfl ?_
    exact L_irI C dX11_fill_37 rfl (rr2 p1)
set_option maxRecDepth 4000 in
theorem k_X11_fill_42 {G : mG} {E : mE} {B : mB} {μ : mM} (C : Cx G mX11_fill E) {x1 : Int32} (kk1 : Wm G mX11_fill E B μ 44 [(0, .ref (gb G + 0)), (1, .int x1), (2, .int x1)] []) : Wm G mX11_fill E B μ 42 [(0, .ref (gb G + 0)), (1, .int x1)] [] := by
  refine L_iload_n C (i := 1) dX11_fill_42 rfl rfl ?_
  refine L_istore_n C (i := 2) dX11_fill_43 rfl (Nat.le_of_ble_eq_true rfl) ?_
  exact kk1
set_option maxRecDepth 4000 in
theorem k_X11_fill_44 {G : mG} {E : mE} {Q : Int32 → mM → Prop} {μ : mM} (C : Cx G mX11_fill E) {x1 : Int32} {x2 : Int32} (kk1 : 64 ≤ x2 → Wm G mX11_fill E (bm G mX11_fill E (pI Q)) μ 88 [(0, .ref (gb G + 0)), (1, .int x1)] []) (cc2 : ¬ 64 ≤ x2 → CtI G mX2_openCount [.ref (gb G + 22)] μ (fun r μ' => Wm G mX11_fill E (bm G mX11_fill E (pI Q)) μ' 57 [(0, .ref (gb G + 0)), (1, .int x1), (2, .int x2)] [.int r])) : Wm G mX11_fill E (bm G mX11_fill E (pI Q)) μ 44 [(0, .ref (gb G + 0)), (1, .int x1), (2, .int x2)] [] := by
  refine L_iload_n C (i := 2) dX11_fill_44 rfl rfl ?_
  refine L_bipush C (v := 64) dX11_fill_45 rfl ?_
  refine L_icmp_ge C (tgt := 88) dX11_fill_47 rfl (fun p1 => ?_) (fun p1 => ?_)
  · refine L_sub [0, 1] rfl ?_
    exact kk1 p1
  · refine L_aload_n C (i := 0) dX11_fill_50 rfl rfl ?_
    refine L_getC C (c' := 22) dX11_fill_51 sh_0 fl_X11_33 rfl rfl ?_
    refine L_invV0i C dX11_fill_54 sh_22 cal_X2_openCount lk_X11_169 ⟨Nat.le_of_ble_eq_true rfl, Nat.le_of_ble_eq_true rfl⟩ ⟨Nat.le_of_ble_eq_true rfl, Nat.le_of_ble_eq_true rfl⟩ (Nat.le_of_ble_eq_true rfl) ?_
    exact cc2 p1
set_option maxRecDepth 4000 in
theorem k_X11_fill_57 {G : mG} {E : mE} {Q : Int32 → mM → Prop} {μ : mM} (C : Cx G mX11_fill E) {x1 : Int32} {x2 : Int32} {sx0 : Int32} (kk1 : sx0 ≤ 0 → Wm G mX11_fill E (bm G mX11_fill E (pI Q)) μ 88 [(0, .ref (gb G + 0)), (1, .int x1)] []) (cc2 : ¬ sx0 ≤ 0 → CtI G mX6_makeRow [.ref (gb G + 31), .ref (gb G + 15), .ref (gb G + 22)] μ (fun r μ' => Wm G mX11_fill E (bm G mX11_fill E (pI Q)) μ' 79 [(0, .ref (gb G + 0)), (1, .int x1), (2, .int x2)] [.int r, .ref (gb G + 0)])) : Wm G mX11_fill E (bm G mX11_fill E (pI Q)) μ 57 [(0, .ref (gb G + 0)), (1, .int x1), (2, .int x2)] [.int sx0] := by
  refine L_if_le C (tgt := 88) dX11_fill_57 rfl (fun p1 => ?_) (fun p1 => ?_)
  · refine L_sub [0, 1] rfl ?_
    exact kk1 p1
  · refine L_aload_n C (i := 0) dX11_fill_60 rfl rfl ?_
    refine L_aload_n C (i := 0) dX11_fill_61 rfl rfl ?_
    refine L_getC C (c' := 31) dX11_fill_62 sh_0 fl_X11_40 rfl rfl ?_
    refine L_aload_n C (i := 0) dX11_fill_65 rfl rfl ?_
    refine L_getC C (c' := 14) dX11_fill_66 sh_0 fl_X11_26 rfl rfl ?_
    refine L_getC C (c' := 15) dX11_fill_69 sh_14 fl_X11_77 rfl rfl ?_
    refine L_aload_n C (i := 0) dX11_fill_72 rfl rfl ?_
    refine L_getC C (c' := 22) dX11_fill_73 sh_0 fl_X11_33 rfl rfl ?_
    refine L_invV2i C dX11_fill_76 sh_31 cal_X6_makeRow lk_X11_181 ⟨Nat.le_of_ble_eq_true rfl, Nat.le_of_ble_eq_true rfl⟩ ⟨Nat.le_of_ble_eq_true rfl, Nat.le_of_ble_eq_true rfl⟩ (Nat.le_of_ble_eq_true rfl) ?_
    exact cc2 p1
set_option maxRecDepth 4000 in
theorem k_X11_fill_79 {G : mG} {E : mE} {Q : Int32 → mM → Prop} {μ : mM} (C : Cx G mX11_fill E) {x1 : Int32} {x2 : Int32} {sx1 : Int32} (cc1 : CtV G mX11_append [.ref (gb G + 0), .int sx1] μ (fun μ' => Wm G mX11_fill E (bm G mX11_fill E (pI Q)) μ' 82 [(0, .ref (gb G + 0)), (1, .int x1), (2, .int x2)] [])) : Wm G mX11_fill E (bm G mX11_fill E (pI Q)) μ 79 [(0, .ref (gb G + 0)), (1, .int x1), (2, .int x2)] [.int sx1, .ref (gb G + 0)] := by
  refine L_invV1v C dX11_fill_79 sh_0 cal_X11_append lk_X11_146 ⟨Nat.le_of_ble_eq_true rfl, Nat.le_of_ble_eq_true rfl⟩ ⟨Nat.le_of_ble_eq_true rfl, Nat.le_of_ble_eq_true rfl⟩ (Nat.le_of_ble_eq_true rfl) ?_
  exact cc1
set_option maxRecDepth 4000 in
theorem k_X11_fill_82 {G : mG} {E : mE} {B : mB} {μ : mM} (C : Cx G mX11_fill E) {x1 : Int32} {x2 : Int32} (kk1 : Wm G mX11_fill E B μ 44 [(0, .ref (gb G + 0)), (1, .int x1), (2, .int (x2 + (1 : Int32)))] []) : Wm G mX11_fill E B μ 82 [(0, .ref (gb G + 0)), (1, .int x1), (2, .int x2)] [] := by
  refine L_iinc C (v := 1) dX11_fill_82 rfl rfl (Nat.le_of_ble_eq_true rfl) ?_
  refine L_goto C (tgt := 44) dX11_fill_85 rfl ?_
  exact kk1
set_option maxRecDepth 4000 in
theorem k_X11_fill_88 {G : mG} {E : mE} {Q : Int32 → mM → Prop} {μ : mM} (C : Cx G mX11_fill E) {x1 : Int32} (rr1 : Q ((μ 19 0) - x1) μ) : Wm G mX11_fill E (bm G mX11_fill E (pI Q)) μ 88 [(0, .ref (gb G + 0)), (1, .int x1)] [] := by
  refine L_aload_n C (i := 0) dX11_fill_88 rfl rfl ?_
  refine L_getC C (c' := 14) dX11_fill_89 sh_0 fl_X11_26 rfl rfl ?_
  refine L_getC C (c' := 19) dX11_fill_92 sh_14 fl_X11_90 rfl rfl ?_
  refine L_getI C dX11_fill_95 sh_19 fl_X11_94 rfl ?_
  refine L_iload_n C (i := 1) dX11_fill_98 rfl rfl ?_
  refine L_isub C dX11_fill_99 ?_
  exact L_irI C dX11_fill_100 rfl (rr1)
set_option maxRecDepth 4000 in
theorem k_X1_sizeFor_0 {G : mG} {E : mE} {B : mB} {μ : mM} (C : Cx G mX1_sizeFor E) {x0 : Int32} (kk1 : Wm G mX1_sizeFor E B μ 2 [(0, .int x0), (1, .int 0)] []) : Wm G mX1_sizeFor E B μ 0 [(0, .int x0)] [] := by
  refine L_iconst C (v := 0) dX1_sizeFor_0 rfl ?_
  refine L_istore_n C (i := 1) dX1_sizeFor_1 rfl (Nat.le_of_ble_eq_true rfl) ?_
  exact kk1
theorem e_X1_sizeFor {G : mG} {Q : Int32 → mM → Prop} {μ : mM} {x0 : Int32} (k : ∀ E, Cx G mX1_sizeFor E → Wm G mX1_sizeFor E (bm G mX1_sizeFor E (pI Q)) μ 0 [(0, .int x0)] []) : CtI G mX1_sizeFor [.int x0] μ Q := CtI.of pn_X1 (Nat.le_of_ble_eq_true rfl) k
set_option maxRecDepth 4000 in
theorem k_X1_sizeFor_2 {G : mG} {E : mE} {Q : Int32 → mM → Prop} {μ : mM} (C : Cx G mX1_sizeFor E) {x0 : Int32} {x1 : Int32} (rr1 : 5 ≤ x1 → Q 0 μ) (ss2 : ¬ 5 ≤ x1 → vp_in x1 5) (kk3 : ¬ 5 ≤ x1 → ([2, 3, 4, 5, 7].getD x1.toNatClampNeg 0) < x0 → Wm G mX1_sizeFor E (bm G mX1_sizeFor E (pI Q)) μ 2 [(0, .int x0), (1, .int (x1 + (1 : Int32)))] []) (rr4 : ¬ 5 ≤ x1 → ¬ ([2, 3, 4, 5, 7].getD x1.toNatClampNeg 0) < x0 → Q ([2, 3, 4, 5, 7].getD x1.toNatClampNeg 0) μ) : Wm G mX1_sizeFor E (bm G mX1_sizeFor E (pI Q)) μ 2 [(0, .int x0), (1, .int x1)] [] := by
  refine L_iload_n C (i := 1) dX1_sizeFor_2 rfl rfl ?_
  refine L_gS C dX1_sizeFor_3 fw_X1_7 ?_
  refine L_lenS C dX1_sizeFor_6 ?_
  refine L_icmp_ge C (tgt := 31) dX1_sizeFor_7 rfl (fun p1 => ?_) (fun p1 => ?_)
  · refine L_iconst C (v := 0) dX1_sizeFor_31 rfl ?_
    exact L_irI C dX1_sizeFor_32 rfl (rr1 p1)
  · refine L_gS C dX1_sizeFor_10 fw_X1_7 ?_
    refine L_iload_n C (i := 1) dX1_sizeFor_13 rfl rfl ?_
    refine L_ldS C dX1_sizeFor_14 (ss2 p1) ?_
    refine L_iload_n C (i := 0) dX1_sizeFor_15 rfl rfl ?_
    refine L_icmp_lt C (tgt := 25) dX1_sizeFor_16 rfl (fun p2 => ?_) (fun p2 => ?_)
    · refine L_iinc C (v := 1) dX1_sizeFor_25 rfl rfl (Nat.le_of_ble_eq_true rfl) ?_
      refine L_goto C (tgt := 2) dX1_sizeFor_28 rfl ?_
      exact kk3 p1 p2
    · refine L_gS C dX1_sizeFor_19 fw_X1_7 ?_
      refine L_iload_n C (i := 1) dX1_sizeFor_22 rfl rfl ?_
      refine L_ldS C dX1_sizeFor_23 (ss2 p1) ?_
      exact L_irI C dX1_sizeFor_24 rfl (rr4 p1 p2)
set_option maxRecDepth 4000 in
theorem k_X4_fieldSize_0 {G : mG} {E : mE} {B : mB} {μ : mM} (C : Cx G mX4_fieldSize E) {c0 : Nat} (h0 : sh c0 = (0, 3)) (kk1 : Wm G mX4_fieldSize E B μ 9 [(0, .ref (gb G + c0)), (1, .int ((μ c0 0) - (1 : Int32))), (2, .int 0)] []) : Wm G mX4_fieldSize E B μ 0 [(0, .ref (gb G + c0))] [] := by
  refine L_aload_n C (i := 0) dX4_fieldSize_0 rfl rfl ?_
  refine L_getI C dX4_fieldSize_1 h0 fl_X4_21 rfl ?_
  refine L_iconst C (v := 1) dX4_fieldSize_4 rfl ?_
  refine L_isub C dX4_fieldSize_5 ?_
  refine L_istore_n C (i := 1) dX4_fieldSize_6 rfl (Nat.le_of_ble_eq_true rfl) ?_
  refine L_iconst C (v := 0) dX4_fieldSize_7 rfl ?_
  refine L_istore_n C (i := 2) dX4_fieldSize_8 rfl (Nat.le_of_ble_eq_true rfl) ?_
  exact kk1
theorem e_X4_fieldSize {G : mG} {Q : Int32 → mM → Prop} {μ : mM} {c0 : Nat} (h0 : sh c0 = (0, 3)) (k : ∀ E, Cx G mX4_fieldSize E → Wm G mX4_fieldSize E (bm G mX4_fieldSize E (pI Q)) μ 0 [(0, .ref (gb G + c0))] []) : CtI G mX4_fieldSize [.ref (gb G + c0)] μ Q := CtI.of pn_X4 (Nat.le_of_ble_eq_true rfl) k
set_option maxRecDepth 4000 in
theorem k_X4_fieldSize_9 {G : mG} {E : mE} {Q : Int32 → mM → Prop} {μ : mM} (C : Cx G mX4_fieldSize E) {c0 : Nat} (h0 : sh c0 = (0, 3)) {x1 : Int32} {x2 : Int32} (cc1 : (μ c0 0) ≤ x2 → CtI G mX1_sizeFor [.int x1] μ (fun r μ' => Wm G mX4_fieldSize E (bm G mX4_fieldSize E (pI Q)) μ' 38 [] [.int r])) (ss2 : ¬ (μ c0 0) ≤ x2 → vp_in x2 8) (kk3 : ¬ (μ c0 0) ≤ x2 → Wm G mX4_fieldSize E (bm G mX4_fieldSize E (pI Q)) μ 9 [(0, .ref (gb G + c0)), (1, .int (if x1 < (μ (c0 + 1) x2.toNatClampNeg) then (μ (c0 + 1) x2.toNatClampNeg) else x1)), (2, .int (x2 + (1 : Int32)))] []) : Wm G mX4_fieldSize E (bm G mX4_fieldSize E (pI Q)) μ 9 [(0, .ref (gb G + c0)), (1, .int x1), (2, .int x2)] [] := by
  refine L_iload_n C (i := 2) dX4_fieldSize_9 rfl rfl ?_
  refine L_aload_n C (i := 0) dX4_fieldSize_10 rfl rfl ?_
  refine L_getI C dX4_fieldSize_11 h0 fl_X4_21 rfl ?_
  refine L_icmp_ge C (tgt := 34) dX4_fieldSize_14 rfl (fun p1 => ?_) (fun p1 => ?_)
  · refine L_iload_n C (i := 1) dX4_fieldSize_34 rfl rfl ?_
    refine L_sub [] rfl ?_
    refine L_invS1i C dX4_fieldSize_35 cal_X1_sizeFor stc_X1_sizeFor lk_X4_53 ⟨Nat.le_of_ble_eq_true rfl, Nat.le_of_ble_eq_true rfl⟩ ⟨Nat.le_of_ble_eq_true rfl, Nat.le_of_ble_eq_true rfl⟩ (Nat.le_of_ble_eq_true rfl) ?_
    exact cc1 p1
  · refine L_iload_n C (i := 1) dX4_fieldSize_17 rfl rfl ?_
    refine L_aload_n C (i := 0) dX4_fieldSize_18 rfl rfl ?_
    refine L_getC C (c' := (c0 + 1)) dX4_fieldSize_19 h0 fl_X4_9 rfl rfl ?_
    refine L_iload_n C (i := 2) dX4_fieldSize_22 rfl rfl ?_
    refine L_iald C dX4_fieldSize_23 (shd_3_1 h0) (ss2 p1) ?_
    refine L_max C dX4_fieldSize_24 lk_X4_48 mmax_stat math_ini mmax_code (Nat.le_of_ble_eq_true rfl) (Nat.le_of_ble_eq_true rfl) (Nat.le_of_ble_eq_true rfl) ⟨Nat.le_of_ble_eq_true rfl, Nat.le_of_ble_eq_true rfl⟩ ?_
    refine L_istore_n C (i := 1) dX4_fieldSize_27 rfl (Nat.le_of_ble_eq_true rfl) ?_
    refine L_iinc C (v := 1) dX4_fieldSize_28 rfl rfl (Nat.le_of_ble_eq_true rfl) ?_
    refine L_goto C (tgt := 9) dX4_fieldSize_31 rfl ?_
    exact kk3 p1
set_option maxRecDepth 4000 in
theorem k_X4_fieldSize_38 {G : mG} {E : mE} {Q : Int32 → mM → Prop} {μ : mM} (C : Cx G mX4_fieldSize E) {sx0 : Int32} (rr1 : Q sx0 μ) : Wm G mX4_fieldSize E (bm G mX4_fieldSize E (pI Q)) μ 38 [] [.int sx0] := by
  exact L_irI C dX4_fieldSize_38 rfl (rr1)
set_option maxRecDepth 4000 in
theorem k_X1_power_0 {G : mG} {E : mE} {B : mB} {μ : mM} (C : Cx G mX1_power E) {x0 : Int32} {x1 : Int32} (kk1 : Wm G mX1_power E B μ 4 [(0, .int x0), (1, .int x1), (2, .int 1), (3, .int 0)] []) : Wm G mX1_power E B μ 0 [(0, .int x0), (1, .int x1)] [] := by
  refine L_iconst C (v := 1) dX1_power_0 rfl ?_
  refine L_istore_n C (i := 2) dX1_power_1 rfl (Nat.le_of_ble_eq_true rfl) ?_
  refine L_iconst C (v := 0) dX1_power_2 rfl ?_
  refine L_istore_n C (i := 3) dX1_power_3 rfl (Nat.le_of_ble_eq_true rfl) ?_
  exact kk1
theorem e_X1_power {G : mG} {Q : Int32 → mM → Prop} {μ : mM} {x0 : Int32} {x1 : Int32} (k : ∀ E, Cx G mX1_power E → Wm G mX1_power E (bm G mX1_power E (pI Q)) μ 0 [(0, .int x0), (1, .int x1)] []) : CtI G mX1_power [.int x0, .int x1] μ Q := CtI.of pn_X1 (Nat.le_of_ble_eq_true rfl) k
set_option maxRecDepth 4000 in
theorem k_X1_power_4 {G : mG} {E : mE} {Q : Int32 → mM → Prop} {μ : mM} (C : Cx G mX1_power E) {x0 : Int32} {x1 : Int32} {x2 : Int32} {x3 : Int32} (rr1 : x1 ≤ x3 → Q x2 μ) (kk2 : ¬ x1 ≤ x3 → Wm G mX1_power E (bm G mX1_power E (pI Q)) μ 4 [(0, .int x0), (1, .int x1), (2, .int (x2 * x0)), (3, .int (x3 + (1 : Int32)))] []) : Wm G mX1_power E (bm G mX1_power E (pI Q)) μ 4 [(0, .int x0), (1, .int x1), (2, .int x2), (3, .int x3)] [] := by
  refine L_iload_n C (i := 3) dX1_power_4 rfl rfl ?_
  refine L_iload_n C (i := 1) dX1_power_5 rfl rfl ?_
  refine L_icmp_ge C (tgt := 19) dX1_power_6 rfl (fun p1 => ?_) (fun p1 => ?_)
  · refine L_iload_n C (i := 2) dX1_power_19 rfl rfl ?_
    exact L_irI C dX1_power_20 rfl (rr1 p1)
  · refine L_iload_n C (i := 2) dX1_power_9 rfl rfl ?_
    refine L_iload_n C (i := 0) dX1_power_10 rfl rfl ?_
    refine L_imul C dX1_power_11 ?_
    refine L_istore_n C (i := 2) dX1_power_12 rfl (Nat.le_of_ble_eq_true rfl) ?_
    refine L_iinc C (v := 1) dX1_power_13 rfl rfl (Nat.le_of_ble_eq_true rfl) ?_
    refine L_goto C (tgt := 4) dX1_power_16 rfl ?_
    exact kk2 p1
set_option maxRecDepth 4000 in
theorem k_X1_times_0 {G : mG} {E : mE} {Q : Int32 → mM → Prop} {μ : mM} (C : Cx G mX1_times E) {x0 : Int32} {x1 : Int32} {x2 : Int32} (dd1 : ¬ x2 = 4 → ¬ x2 = 0) (rr2 : ¬ x2 = 4 → Q ((x0 * x1) - (x0 * x1) / x2 * x2) μ) (ss3 : x2 = 4 → vp_in (((x0 &&& (3 : Int32)) * (4 : Int32)) + (x1 &&& (3 : Int32))) 16) (rr4 : x2 = 4 → Q ([0, 0, 0, 0, 0, 1, 2, 3, 0, 2, 3, 1, 0, 3, 1, 2].getD (((x0 &&& (3 : Int32)) * (4 : Int32)) + (x1 &&& (3 : Int32))).toNatClampNeg 0) μ) : Wm G mX1_times E (bm G mX1_times E (pI Q)) μ 0 [(0, .int x0), (1, .int x1), (2, .int x2)] [] := by
  refine L_iload_n C (i := 2) dX1_times_0 rfl rfl ?_
  refine L_iconst C (v := 4) dX1_times_1 rfl ?_
  refine L_icmp_ne C (tgt := 21) dX1_times_2 rfl (fun p1 => ?_) (fun p1 => ?_)
  · refine L_iload_n C (i := 0) dX1_times_21 rfl rfl ?_
    refine L_iload_n C (i := 1) dX1_times_22 rfl rfl ?_
    refine L_imul C dX1_times_23 ?_
    refine L_iload_n C (i := 2) dX1_times_24 rfl rfl ?_
    refine L_irem C dX1_times_25 (dd1 p1) ?_
    exact L_irI C dX1_times_26 rfl (rr2 p1)
  · refine L_gT C dX1_times_5 fw_X1_20 ?_
    refine L_iload_n C (i := 0) dX1_times_8 rfl rfl ?_
    refine L_iconst C (v := 3) dX1_times_9 rfl ?_
    refine L_iand C dX1_times_10 ?_
    refine L_iconst C (v := 4) dX1_times_11 rfl ?_
    refine L_imul C dX1_times_12 ?_
    refine L_iload_n C (i := 1) dX1_times_13 rfl rfl ?_
    refine L_iconst C (v := 3) dX1_times_14 rfl ?_
    refine L_iand C dX1_times_15 ?_
    refine L_iadd C dX1_times_16 ?_
    refine L_ldT C dX1_times_17 (ss3 p1) ?_
    refine L_goto C (tgt := 26) dX1_times_18 rfl ?_
    exact L_irI C dX1_times_26 rfl (rr4 p1)
theorem a_X1_times {G : mG} {Q : Int32 → mM → Prop} {μ : mM} {x0 : Int32} {x1 : Int32} {x2 : Int32} (dd1 : ¬ x2 = 4 → ¬ x2 = 0) (rr2 : ¬ x2 = 4 → Q ((x0 * x1) - (x0 * x1) / x2 * x2) μ) (ss3 : x2 = 4 → vp_in (((x0 &&& (3 : Int32)) * (4 : Int32)) + (x1 &&& (3 : Int32))) 16) (rr4 : x2 = 4 → Q ([0, 0, 0, 0, 0, 1, 2, 3, 0, 2, 3, 1, 0, 3, 1, 2].getD (((x0 &&& (3 : Int32)) * (4 : Int32)) + (x1 &&& (3 : Int32))).toNatClampNeg 0) μ) : CtI G mX1_times [.int x0, .int x1, .int x2] μ Q :=
  CtI.of pn_X1 (Nat.le_of_ble_eq_true rfl) (fun E C => k_X1_times_0 C dd1 rr2 ss3 rr4)
set_option maxRecDepth 4000 in
theorem k_X1_plus_0 {G : mG} {E : mE} {Q : Int32 → mM → Prop} {μ : mM} (C : Cx G mX1_plus E) {x0 : Int32} {x1 : Int32} {x2 : Int32} (dd1 : ¬ x2 = 4 → ¬ x2 = 0) (rr2 : ¬ x2 = 4 → Q ((x0 + x1) - (x0 + x1) / x2 * x2) μ) (rr3 : x2 = 4 → Q (x0 ^^^ x1) μ) : Wm G mX1_plus E (bm G mX1_plus E (pI Q)) μ 0 [(0, .int x0), (1, .int x1), (2, .int x2)] [] := by
  refine L_iload_n C (i := 2) dX1_plus_0 rfl rfl ?_
  refine L_iconst C (v := 4) dX1_plus_1 rfl ?_
  refine L_icmp_ne C (tgt := 11) dX1_plus_2 rfl (fun p1 => ?_) (fun p1 => ?_)
  · refine L_iload_n C (i := 0) dX1_plus_11 rfl rfl ?_
    refine L_iload_n C (i := 1) dX1_plus_12 rfl rfl ?_
    refine L_iadd C dX1_plus_13 ?_
    refine L_iload_n C (i := 2) dX1_plus_14 rfl rfl ?_
    refine L_irem C dX1_plus_15 (dd1 p1) ?_
    exact L_irI C dX1_plus_16 rfl (rr2 p1)
  · refine L_iload_n C (i := 0) dX1_plus_5 rfl rfl ?_
    refine L_iload_n C (i := 1) dX1_plus_6 rfl rfl ?_
    refine L_ixor C dX1_plus_7 ?_
    refine L_goto C (tgt := 16) dX1_plus_8 rfl ?_
    exact L_irI C dX1_plus_16 rfl (rr3 p1)
theorem a_X1_plus {G : mG} {Q : Int32 → mM → Prop} {μ : mM} {x0 : Int32} {x1 : Int32} {x2 : Int32} (dd1 : ¬ x2 = 4 → ¬ x2 = 0) (rr2 : ¬ x2 = 4 → Q ((x0 + x1) - (x0 + x1) / x2 * x2) μ) (rr3 : x2 = 4 → Q (x0 ^^^ x1) μ) : CtI G mX1_plus [.int x0, .int x1, .int x2] μ Q :=
  CtI.of pn_X1 (Nat.le_of_ble_eq_true rfl) (fun E C => k_X1_plus_0 C dd1 rr2 rr3)
set_option maxRecDepth 4000 in
theorem k_X1_valueAt_0 {G : mG} {E : mE} {B : mB} {μ : mM} (C : Cx G mX1_valueAt E) {x0 : Int32} {x1 : Int32} {x2 : Int32} {x3 : Int32} (kk1 : Wm G mX1_valueAt E B μ 9 [(0, .int x0), (2, .int x2), (3, .int x3), (4, .int x1), (5, .int 0), (6, .int 0)] []) : Wm G mX1_valueAt E B μ 0 [(0, .int x0), (1, .int x1), (2, .int x2), (3, .int x3)] [] := by
  refine L_iload_n C (i := 1) dX1_valueAt_0 rfl rfl ?_
  refine L_istore C dX1_valueAt_1 (Nat.le_of_ble_eq_true rfl) ?_
  refine L_iconst C (v := 0) dX1_valueAt_3 rfl ?_
  refine L_istore C dX1_valueAt_4 (Nat.le_of_ble_eq_true rfl) ?_
  refine L_iconst C (v := 0) dX1_valueAt_6 rfl ?_
  refine L_istore C dX1_valueAt_7 (Nat.le_of_ble_eq_true rfl) ?_
  refine L_sub [0, 2, 3, 4, 5, 6] rfl ?_
  exact kk1
theorem e_X1_valueAt {G : mG} {Q : Int32 → mM → Prop} {μ : mM} {x0 : Int32} {x1 : Int32} {x2 : Int32} {x3 : Int32} (k : ∀ E, Cx G mX1_valueAt E → Wm G mX1_valueAt E (bm G mX1_valueAt E (pI Q)) μ 0 [(0, .int x0), (1, .int x1), (2, .int x2), (3, .int x3)] []) : CtI G mX1_valueAt [.int x0, .int x1, .int x2, .int x3] μ Q := CtI.of pn_X1 (Nat.le_of_ble_eq_true rfl) k
set_option maxRecDepth 4000 in
theorem k_X1_valueAt_9 {G : mG} {E : mE} {Q : Int32 → mM → Prop} {μ : mM} (C : Cx G mX1_valueAt E) {x0 : Int32} {x2 : Int32} {x3 : Int32} {x4 : Int32} {x5 : Int32} {x6 : Int32} (rr1 : (x2 ≤ x6 ∨ (¬ x2 ≤ x6 ∧ x3 ≤ 0)) → Q x5 μ) (dd2 : ¬ x2 ≤ x6 → ¬ x3 ≤ 0 → (¬ x3 = 4 ∨ ¬ x3 = 4 ∨ x3 = 4) → ¬ x3 = 0) (ss3 : ¬ x2 ≤ x6 → ¬ x3 ≤ 0 → x3 = 4 → vp_in (((x5 &&& (3 : Int32)) * (4 : Int32)) + (x0 &&& (3 : Int32))) 16) (kk4 : ¬ x2 ≤ x6 → ¬ x3 ≤ 0 → ¬ x3 = 4 → ¬ x3 = 4 → Wm G mX1_valueAt E (bm G mX1_valueAt E (pI Q)) μ 9 [(0, .int x0), (2, .int x2), (3, .int x3), (4, .int (x4 / x3)), (5, .int ((((x5 * x0) - (x5 * x0) / x3 * x3) + (x4 - x4 / x3 * x3)) - (((x5 * x0) - (x5 * x0) / x3 * x3) + (x4 - x4 / x3 * x3)) / x3 * x3)), (6, .int (x6 + (1 : Int32)))] []) (kk5 : ¬ x2 ≤ x6 → ¬ x3 ≤ 0 → ¬ x3 = 4 → x3 = 4 → Wm G mX1_valueAt E (bm G mX1_valueAt E (pI Q)) μ 9 [(0, .int x0), (2, .int x2), (3, .int x3), (4, .int (x4 / x3)), (5, .int (((x5 * x0) - (x5 * x0) / x3 * x3) ^^^ (x4 - x4 / x3 * x3))), (6, .int (x6 + (1 : Int32)))] []) (kk6 : ¬ x2 ≤ x6 → ¬ x3 ≤ 0 → x3 = 4 → ¬ x3 = 4 → Wm G mX1_valueAt E (bm G mX1_valueAt E (pI Q)) μ 9 [(0, .int x0), (2, .int x2), (3, .int x3), (4, .int (x4 / x3)), (5, .int ((([0, 0, 0, 0, 0, 1, 2, 3, 0, 2, 3, 1, 0, 3, 1, 2].getD (((x5 &&& (3 : Int32)) * (4 : Int32)) + (x0 &&& (3 : Int32))).toNatClampNeg 0) + (x4 - x4 / x3 * x3)) - (([0, 0, 0, 0, 0, 1, 2, 3, 0, 2, 3, 1, 0, 3, 1, 2].getD (((x5 &&& (3 : Int32)) * (4 : Int32)) + (x0 &&& (3 : Int32))).toNatClampNeg 0) + (x4 - x4 / x3 * x3)) / x3 * x3)), (6, .int (x6 + (1 : Int32)))] []) (kk7 : ¬ x2 ≤ x6 → ¬ x3 ≤ 0 → x3 = 4 → x3 = 4 → Wm G mX1_valueAt E (bm G mX1_valueAt E (pI Q)) μ 9 [(0, .int x0), (2, .int x2), (3, .int x3), (4, .int (x4 / x3)), (5, .int (([0, 0, 0, 0, 0, 1, 2, 3, 0, 2, 3, 1, 0, 3, 1, 2].getD (((x5 &&& (3 : Int32)) * (4 : Int32)) + (x0 &&& (3 : Int32))).toNatClampNeg 0) ^^^ (x4 - x4 / x3 * x3))), (6, .int (x6 + (1 : Int32)))] []) : Wm G mX1_valueAt E (bm G mX1_valueAt E (pI Q)) μ 9 [(0, .int x0), (2, .int x2), (3, .int x3), (4, .int x4), (5, .int x5), (6, .int x6)] [] := by
  refine L_iload C dX1_valueAt_9 rfl ?_
  refine L_iload_n C (i := 2) dX1_valueAt_11 rfl rfl ?_
  refine L_icmp_ge C (tgt := 48) dX1_valueAt_12 rfl (fun p1 => ?_) (fun p1 => ?_)
  · refine L_iload C dX1_valueAt_48 rfl ?_
    exact L_irI C dX1_valueAt_50 rfl (rr1 (Or.inl p1))
  · refine L_iload_n C (i := 3) dX1_valueAt_15 rfl rfl ?_
    refine L_if_le C (tgt := 48) dX1_valueAt_16 rfl (fun p2 => ?_) (fun p2 => ?_)
    · refine L_iload C dX1_valueAt_48 rfl ?_
      exact L_irI C dX1_valueAt_50 rfl (rr1 (Or.inr ⟨p1, p2⟩))
    · refine L_iload C dX1_valueAt_19 rfl ?_
      refine L_iload_n C (i := 0) dX1_valueAt_21 rfl rfl ?_
      refine L_iload_n C (i := 3) dX1_valueAt_22 rfl rfl ?_
      refine L_invS3i C dX1_valueAt_23 cal_X1_times stc_X1_times lk_X1_13 ⟨Nat.le_of_ble_eq_true rfl, Nat.le_of_ble_eq_true rfl⟩ ⟨Nat.le_of_ble_eq_true rfl, Nat.le_of_ble_eq_true rfl⟩ (Nat.le_of_ble_eq_true rfl) (a_X1_times (fun p3 => dd2 p1 p2 (Or.inl p3)) (fun p4 => ?_) (fun p5 => ss3 p1 p2 p5) (fun p6 => ?_))
      · refine L_iload C dX1_valueAt_26 rfl ?_
        refine L_iload_n C (i := 3) dX1_valueAt_28 rfl rfl ?_
        refine L_irem C dX1_valueAt_29 (dd2 p1 p2 (Or.inr (Or.inl p4))) ?_
        refine L_iload_n C (i := 3) dX1_valueAt_30 rfl rfl ?_
        refine L_invS3i C dX1_valueAt_31 cal_X1_plus stc_X1_plus lk_X1_17 ⟨Nat.le_of_ble_eq_true rfl, Nat.le_of_ble_eq_true rfl⟩ ⟨Nat.le_of_ble_eq_true rfl, Nat.le_of_ble_eq_true rfl⟩ (Nat.le_of_ble_eq_true rfl) (a_X1_plus (fun p7 => dd2 p1 p2 (Or.inr (Or.inl p4))) (fun p8 => ?_) (fun p9 => ?_))
        · refine L_istore C dX1_valueAt_34 (Nat.le_of_ble_eq_true rfl) ?_
          refine L_iload C dX1_valueAt_36 rfl ?_
          refine L_iload_n C (i := 3) dX1_valueAt_38 rfl rfl ?_
          refine L_idiv C dX1_valueAt_39 (dd2 p1 p2 (Or.inr (Or.inl p4))) ?_
          refine L_istore C dX1_valueAt_40 (Nat.le_of_ble_eq_true rfl) ?_
          refine L_iinc C (v := 1) dX1_valueAt_42 rfl rfl (Nat.le_of_ble_eq_true rfl) ?_
          refine L_goto C (tgt := 9) dX1_valueAt_45 rfl ?_
          exact kk4 p1 p2 p4 p8
        · refine L_istore C dX1_valueAt_34 (Nat.le_of_ble_eq_true rfl) ?_
          refine L_iload C dX1_valueAt_36 rfl ?_
          refine L_iload_n C (i := 3) dX1_valueAt_38 rfl rfl ?_
          refine L_idiv C dX1_valueAt_39 (dd2 p1 p2 (Or.inr (Or.inl p4))) ?_
          refine L_istore C dX1_valueAt_40 (Nat.le_of_ble_eq_true rfl) ?_
          refine L_iinc C (v := 1) dX1_valueAt_42 rfl rfl (Nat.le_of_ble_eq_true rfl) ?_
          refine L_goto C (tgt := 9) dX1_valueAt_45 rfl ?_
          exact kk5 p1 p2 p4 p9
      · refine L_iload C dX1_valueAt_26 rfl ?_
        refine L_iload_n C (i := 3) dX1_valueAt_28 rfl rfl ?_
        refine L_irem C dX1_valueAt_29 (dd2 p1 p2 (Or.inr (Or.inr p6))) ?_
        refine L_iload_n C (i := 3) dX1_valueAt_30 rfl rfl ?_
        refine L_invS3i C dX1_valueAt_31 cal_X1_plus stc_X1_plus lk_X1_17 ⟨Nat.le_of_ble_eq_true rfl, Nat.le_of_ble_eq_true rfl⟩ ⟨Nat.le_of_ble_eq_true rfl, Nat.le_of_ble_eq_true rfl⟩ (Nat.le_of_ble_eq_true rfl) (a_X1_plus (fun p10 => dd2 p1 p2 (Or.inr (Or.inr p6))) (fun p11 => ?_) (fun p12 => ?_))
        · refine L_istore C dX1_valueAt_34 (Nat.le_of_ble_eq_true rfl) ?_
          refine L_iload C dX1_valueAt_36 rfl ?_
          refine L_iload_n C (i := 3) dX1_valueAt_38 rfl rfl ?_
          refine L_idiv C dX1_valueAt_39 (dd2 p1 p2 (Or.inr (Or.inr p6))) ?_
          refine L_istore C dX1_valueAt_40 (Nat.le_of_ble_eq_true rfl) ?_
          refine L_iinc C (v := 1) dX1_valueAt_42 rfl rfl (Nat.le_of_ble_eq_true rfl) ?_
          refine L_goto C (tgt := 9) dX1_valueAt_45 rfl ?_
          exact kk6 p1 p2 p6 p11
        · refine L_istore C dX1_valueAt_34 (Nat.le_of_ble_eq_true rfl) ?_
          refine L_iload C dX1_valueAt_36 rfl ?_
          refine L_iload_n C (i := 3) dX1_valueAt_38 rfl rfl ?_
          refine L_idiv C dX1_valueAt_39 (dd2 p1 p2 (Or.inr (Or.inr p6))) ?_
          refine L_istore C dX1_valueAt_40 (Nat.le_of_ble_eq_true rfl) ?_
          refine L_iinc C (v := 1) dX1_valueAt_42 rfl rfl (Nat.le_of_ble_eq_true rfl) ?_
          refine L_goto C (tgt := 9) dX1_valueAt_45 rfl ?_
          exact kk7 p1 p2 p6 p12
set_option maxRecDepth 4000 in
theorem k_X1_lastOf_0 {G : mG} {E : mE} {Q : Int32 → mM → Prop} {μ : mM} (C : Cx G mX1_lastOf E) {x0 : Int32} {x1 : Int32} (rr1 : x1 ≤ 0 → Q 0 μ) (dd2 : ¬ x1 ≤ 0 → ¬ x1 = 0) (rr3 : ¬ x1 ≤ 0 → Q (x0 - x0 / x1 * x1) μ) : Wm G mX1_lastOf E (bm G mX1_lastOf E (pI Q)) μ 0 [(0, .int x0), (1, .int x1)] [] := by
  refine L_iload_n C (i := 1) dX1_lastOf_0 rfl rfl ?_
  refine L_if_le C (tgt := 10) dX1_lastOf_1 rfl (fun p1 => ?_) (fun p1 => ?_)
  · refine L_iconst C (v := 0) dX1_lastOf_10 rfl ?_
    exact L_irI C dX1_lastOf_11 rfl (rr1 p1)
  · refine L_iload_n C (i := 0) dX1_lastOf_4 rfl rfl ?_
    refine L_iload_n C (i := 1) dX1_lastOf_5 rfl rfl ?_
    refine L_irem C dX1_lastOf_6 (dd2 p1) ?_
    refine L_goto C (tgt := 11) dX1_lastOf_7 rfl ?_
    exact L_irI C dX1_lastOf_11 rfl (rr3 p1)
theorem a_X1_lastOf {G : mG} {Q : Int32 → mM → Prop} {μ : mM} {x0 : Int32} {x1 : Int32} (rr1 : x1 ≤ 0 → Q 0 μ) (dd2 : ¬ x1 ≤ 0 → ¬ x1 = 0) (rr3 : ¬ x1 ≤ 0 → Q (x0 - x0 / x1 * x1) μ) : CtI G mX1_lastOf [.int x0, .int x1] μ Q :=
  CtI.of pn_X1 (Nat.le_of_ble_eq_true rfl) (fun E C => k_X1_lastOf_0 C rr1 dd2 rr3)
set_option maxRecDepth 4000 in
theorem k_X4_rowOfPolynomial_0 {G : mG} {E : mE} {B : mB} {μ : mM} (C : Cx G mX4_rowOfPolynomial E) {c0 : Nat} (h0 : sh c0 = (0, 3)) {x1 : Int32} {x2 : Int32} (kk1 : Wm G mX4_rowOfPolynomial E B μ 5 [(0, .ref (gb G + c0)), (1, .int x1), (2, .int x2), (3, .int 0), (4, .int 0)] []) : Wm G mX4_rowOfPolynomial E B μ 0 [(0, .ref (gb G + c0)), (1, .int x1), (2, .int x2)] [] := by
  refine L_iconst C (v := 0) dX4_rowOfPolynomial_0 rfl ?_
  refine L_istore_n C (i := 3) dX4_rowOfPolynomial_1 rfl (Nat.le_of_ble_eq_true rfl) ?_
  refine L_iconst C (v := 0) dX4_rowOfPolynomial_2 rfl ?_
  refine L_istore C dX4_rowOfPolynomial_3 (Nat.le_of_ble_eq_true rfl) ?_
  exact kk1
theorem e_X4_rowOfPolynomial {G : mG} {Q : Int32 → mM → Prop} {μ : mM} {c0 : Nat} (h0 : sh c0 = (0, 3)) {x1 : Int32} {x2 : Int32} (k : ∀ E, Cx G mX4_rowOfPolynomial E → Wm G mX4_rowOfPolynomial E (bm G mX4_rowOfPolynomial E (pI Q)) μ 0 [(0, .ref (gb G + c0)), (1, .int x1), (2, .int x2)] []) : CtI G mX4_rowOfPolynomial [.ref (gb G + c0), .int x1, .int x2] μ Q := CtI.of pn_X4 (Nat.le_of_ble_eq_true rfl) k
set_option maxRecDepth 4000 in
theorem k_X4_rowOfPolynomial_5 {G : mG} {E : mE} {Q : Int32 → mM → Prop} {μ : mM} (C : Cx G mX4_rowOfPolynomial E) {c0 : Nat} (h0 : sh c0 = (0, 3)) {x1 : Int32} {x2 : Int32} {x3 : Int32} {x4 : Int32} (rr1 : (μ c0 0) ≤ x4 → Q x3 μ) (dd2 : ¬ (μ c0 0) ≤ x4 → x2 ≤ x4 → ¬ x2 ≤ 0 → ¬ x2 = 0) (ss3 : ¬ (μ c0 0) ≤ x4 → x2 ≤ x4 → vp_in x4 8) (kk4 : ¬ (μ c0 0) ≤ x4 → x2 ≤ x4 → x2 ≤ 0 → ∀ v1 : Int32, (((μ (c0 + 1) x4.toNatClampNeg) ≤ 0 ∧ v1 = x3) ∨ (¬ (μ (c0 + 1) x4.toNatClampNeg) ≤ 0 ∧ v1 = (x3 ||| ((1 : Int32) <<< ((((4 : Int32) * x4) + (0 : Int32)) &&& 31))))) → Wm G mX4_rowOfPolynomial E (bm G mX4_rowOfPolynomial E (pI Q)) μ 5 [(0, .ref (gb G + c0)), (1, .int x1), (2, .int x2), (3, .int v1), (4, .int (x4 + (1 : Int32)))] []) (kk5 : ¬ (μ c0 0) ≤ x4 → x2 ≤ x4 → ¬ x2 ≤ 0 → ∀ v2 : Int32, (((μ (c0 + 1) x4.toNatClampNeg) ≤ (x1 - x1 / x2 * x2) ∧ v2 = x3) ∨ (¬ (μ (c0 + 1) x4.toNatClampNeg) ≤ (x1 - x1 / x2 * x2) ∧ v2 = (x3 ||| ((1 : Int32) <<< ((((4 : Int32) * x4) + (x1 - x1 / x2 * x2)) &&& 31))))) → Wm G mX4_rowOfPolynomial E (bm G mX4_rowOfPolynomial E (pI Q)) μ 5 [(0, .ref (gb G + c0)), (1, .int x1), (2, .int x2), (3, .int v2), (4, .int (x4 + (1 : Int32)))] []) (cc6 : ¬ (μ c0 0) ≤ x4 → ¬ x2 ≤ x4 → CtI G mX1_valueAt [.int x4, .int x1, .int (μ c0 1), .int x2] μ (fun r μ' => Wm G mX4_rowOfPolynomial E (bm G mX4_rowOfPolynomial E (pI Q)) μ' 31 [(0, .ref (gb G + c0)), (1, .int x1), (2, .int x2), (3, .int x3), (4, .int x4)] [.int r])) : Wm G mX4_rowOfPolynomial E (bm G mX4_rowOfPolynomial E (pI Q)) μ 5 [(0, .ref (gb G + c0)), (1, .int x1), (2, .int x2), (3, .int x3), (4, .int x4)] [] := by
  refine L_iload C dX4_rowOfPolynomial_5 rfl ?_
  refine L_aload_n C (i := 0) dX4_rowOfPolynomial_7 rfl rfl ?_
  refine L_getI C dX4_rowOfPolynomial_8 h0 fl_X4_21 rfl ?_
  refine L_icmp_ge C (tgt := 71) dX4_rowOfPolynomial_11 rfl (fun p1 => ?_) (fun p1 => ?_)
  · refine L_iload_n C (i := 3) dX4_rowOfPolynomial_71 rfl rfl ?_
    exact L_irI C dX4_rowOfPolynomial_72 rfl (rr1 p1)
  · refine L_iload C dX4_rowOfPolynomial_14 rfl ?_
    refine L_iload_n C (i := 2) dX4_rowOfPolynomial_16 rfl rfl ?_
    refine L_icmp_ge C (tgt := 34) dX4_rowOfPolynomial_17 rfl (fun p2 => ?_) (fun p2 => ?_)
    · refine L_iload_n C (i := 1) dX4_rowOfPolynomial_34 rfl rfl ?_
      refine L_iload_n C (i := 2) dX4_rowOfPolynomial_35 rfl rfl ?_
      refine L_invS2i C dX4_rowOfPolynomial_36 cal_X1_lastOf stc_X1_lastOf lk_X4_62 ⟨Nat.le_of_ble_eq_true rfl, Nat.le_of_ble_eq_true rfl⟩ ⟨Nat.le_of_ble_eq_true rfl, Nat.le_of_ble_eq_true rfl⟩ (Nat.le_of_ble_eq_true rfl) (a_X1_lastOf (fun p3 => ?_) (fun p4 => dd2 p1 p2 p4) (fun p5 => ?_))
      · refine L_istore C dX4_rowOfPolynomial_39 (Nat.le_of_ble_eq_true rfl) ?_
        refine L_iload C dX4_rowOfPolynomial_41 rfl ?_
        refine L_aload_n C (i := 0) dX4_rowOfPolynomial_43 rfl rfl ?_
        refine L_getC C (c' := (c0 + 1)) dX4_rowOfPolynomial_44 h0 fl_X4_9 rfl rfl ?_
        refine L_iload C dX4_rowOfPolynomial_47 rfl ?_
        refine L_iald C dX4_rowOfPolynomial_49 (shd_3_1 h0) (ss3 p1 p2) ?_
        refine phi (fun v1 : Int32 => Wm G mX4_rowOfPolynomial E (bm G mX4_rowOfPolynomial E (pI Q)) μ 65 [(0, .ref (gb G + c0)), (1, .int x1), (2, .int x2), (3, .int v1), (4, .int x4)] []) (fun v1 : Int32 => ((μ (c0 + 1) x4.toNatClampNeg) ≤ 0 ∧ v1 = x3) ∨ (¬ (μ (c0 + 1) x4.toNatClampNeg) ≤ 0 ∧ v1 = (x3 ||| ((1 : Int32) <<< ((((4 : Int32) * x4) + (0 : Int32)) &&& 31))))) (fun H => ?_) (fun v1 hv1 => ?_)
        · refine L_icmp_ge C (tgt := 65) dX4_rowOfPolynomial_50 rfl (fun p6 => ?_) (fun p6 => ?_)
          · refine L_sub [0, 1, 2, 3, 4] rfl ?_
            exact H _ (Or.inl ⟨p6, rfl⟩)
          · refine L_iload_n C (i := 3) dX4_rowOfPolynomial_53 rfl rfl ?_
            refine L_iconst C (v := 1) dX4_rowOfPolynomial_54 rfl ?_
            refine L_iconst C (v := 4) dX4_rowOfPolynomial_55 rfl ?_
            refine L_iload C dX4_rowOfPolynomial_56 rfl ?_
            refine L_imul C dX4_rowOfPolynomial_58 ?_
            refine L_iload C dX4_rowOfPolynomial_59 rfl ?_
            refine L_iadd C dX4_rowOfPolynomial_61 ?_
            refine L_ishl C dX4_rowOfPolynomial_62 ?_
            refine L_ior C dX4_rowOfPolynomial_63 ?_
            refine L_istore_n C (i := 3) dX4_rowOfPolynomial_64 rfl (Nat.le_of_ble_eq_true rfl) ?_
            refine L_sub [0, 1, 2, 3, 4] rfl ?_
            exact H _ (Or.inr ⟨p6, rfl⟩)
        refine L_iinc C (v := 1) dX4_rowOfPolynomial_65 rfl rfl (Nat.le_of_ble_eq_true rfl) ?_
        refine L_goto C (tgt := 5) dX4_rowOfPolynomial_68 rfl ?_
        exact kk4 p1 p2 p3 v1 hv1
      · refine L_istore C dX4_rowOfPolynomial_39 (Nat.le_of_ble_eq_true rfl) ?_
        refine L_iload C dX4_rowOfPolynomial_41 rfl ?_
        refine L_aload_n C (i := 0) dX4_rowOfPolynomial_43 rfl rfl ?_
        refine L_getC C (c' := (c0 + 1)) dX4_rowOfPolynomial_44 h0 fl_X4_9 rfl rfl ?_
        refine L_iload C dX4_rowOfPolynomial_47 rfl ?_
        refine L_iald C dX4_rowOfPolynomial_49 (shd_3_1 h0) (ss3 p1 p2) ?_
        refine phi (fun v2 : Int32 => Wm G mX4_rowOfPolynomial E (bm G mX4_rowOfPolynomial E (pI Q)) μ 65 [(0, .ref (gb G + c0)), (1, .int x1), (2, .int x2), (3, .int v2), (4, .int x4)] []) (fun v2 : Int32 => ((μ (c0 + 1) x4.toNatClampNeg) ≤ (x1 - x1 / x2 * x2) ∧ v2 = x3) ∨ (¬ (μ (c0 + 1) x4.toNatClampNeg) ≤ (x1 - x1 / x2 * x2) ∧ v2 = (x3 ||| ((1 : Int32) <<< ((((4 : Int32) * x4) + (x1 - x1 / x2 * x2)) &&& 31))))) (fun H => ?_) (fun v2 hv2 => ?_)
        · refine L_icmp_ge C (tgt := 65) dX4_rowOfPolynomial_50 rfl (fun p7 => ?_) (fun p7 => ?_)
          · refine L_sub [0, 1, 2, 3, 4] rfl ?_
            exact H _ (Or.inl ⟨p7, rfl⟩)
          · refine L_iload_n C (i := 3) dX4_rowOfPolynomial_53 rfl rfl ?_
            refine L_iconst C (v := 1) dX4_rowOfPolynomial_54 rfl ?_
            refine L_iconst C (v := 4) dX4_rowOfPolynomial_55 rfl ?_
            refine L_iload C dX4_rowOfPolynomial_56 rfl ?_
            refine L_imul C dX4_rowOfPolynomial_58 ?_
            refine L_iload C dX4_rowOfPolynomial_59 rfl ?_
            refine L_iadd C dX4_rowOfPolynomial_61 ?_
            refine L_ishl C dX4_rowOfPolynomial_62 ?_
            refine L_ior C dX4_rowOfPolynomial_63 ?_
            refine L_istore_n C (i := 3) dX4_rowOfPolynomial_64 rfl (Nat.le_of_ble_eq_true rfl) ?_
            refine L_sub [0, 1, 2, 3, 4] rfl ?_
            exact H _ (Or.inr ⟨p7, rfl⟩)
        refine L_iinc C (v := 1) dX4_rowOfPolynomial_65 rfl rfl (Nat.le_of_ble_eq_true rfl) ?_
        refine L_goto C (tgt := 5) dX4_rowOfPolynomial_68 rfl ?_
        exact kk5 p1 p2 p5 v2 hv2
    · refine L_iload C dX4_rowOfPolynomial_20 rfl ?_
      refine L_iload_n C (i := 1) dX4_rowOfPolynomial_22 rfl rfl ?_
      refine L_aload_n C (i := 0) dX4_rowOfPolynomial_23 rfl rfl ?_
      refine L_getI C dX4_rowOfPolynomial_24 h0 fl_X4_25 rfl ?_
      refine L_iload_n C (i := 2) dX4_rowOfPolynomial_27 rfl rfl ?_
      refine L_invS4i C dX4_rowOfPolynomial_28 cal_X1_valueAt stc_X1_valueAt lk_X4_58 ⟨Nat.le_of_ble_eq_true rfl, Nat.le_of_ble_eq_true rfl⟩ ⟨Nat.le_of_ble_eq_true rfl, Nat.le_of_ble_eq_true rfl⟩ (Nat.le_of_ble_eq_true rfl) ?_
      exact cc6 p1 p2
set_option maxRecDepth 4000 in
theorem k_X4_rowOfPolynomial_31 {G : mG} {E : mE} {B : mB} {μ : mM} (C : Cx G mX4_rowOfPolynomial E) {c0 : Nat} (h0 : sh c0 = (0, 3)) {x1 : Int32} {x2 : Int32} {x3 : Int32} {x4 : Int32} {sx0 : Int32} (ss1 : vp_in x4 8) (kk2 : ∀ v1 : Int32, (((μ (c0 + 1) x4.toNatClampNeg) ≤ sx0 ∧ v1 = x3) ∨ (¬ (μ (c0 + 1) x4.toNatClampNeg) ≤ sx0 ∧ v1 = (x3 ||| ((1 : Int32) <<< ((((4 : Int32) * x4) + sx0) &&& 31))))) → Wm G mX4_rowOfPolynomial E B μ 5 [(0, .ref (gb G + c0)), (1, .int x1), (2, .int x2), (3, .int v1), (4, .int (x4 + (1 : Int32)))] []) : Wm G mX4_rowOfPolynomial E B μ 31 [(0, .ref (gb G + c0)), (1, .int x1), (2, .int x2), (3, .int x3), (4, .int x4)] [.int sx0] := by
  refine L_goto C (tgt := 39) dX4_rowOfPolynomial_31 rfl ?_
  refine L_istore C dX4_rowOfPolynomial_39 (Nat.le_of_ble_eq_true rfl) ?_
  refine L_iload C dX4_rowOfPolynomial_41 rfl ?_
  refine L_aload_n C (i := 0) dX4_rowOfPolynomial_43 rfl rfl ?_
  refine L_getC C (c' := (c0 + 1)) dX4_rowOfPolynomial_44 h0 fl_X4_9 rfl rfl ?_
  refine L_iload C dX4_rowOfPolynomial_47 rfl ?_
  refine L_iald C dX4_rowOfPolynomial_49 (shd_3_1 h0) (ss1) ?_
  refine phi (fun v1 : Int32 => Wm G mX4_rowOfPolynomial E B μ 65 [(0, .ref (gb G + c0)), (1, .int x1), (2, .int x2), (3, .int v1), (4, .int x4)] []) (fun v1 : Int32 => ((μ (c0 + 1) x4.toNatClampNeg) ≤ sx0 ∧ v1 = x3) ∨ (¬ (μ (c0 + 1) x4.toNatClampNeg) ≤ sx0 ∧ v1 = (x3 ||| ((1 : Int32) <<< ((((4 : Int32) * x4) + sx0) &&& 31))))) (fun H => ?_) (fun v1 hv1 => ?_)
  · refine L_icmp_ge C (tgt := 65) dX4_rowOfPolynomial_50 rfl (fun p1 => ?_) (fun p1 => ?_)
    · refine L_sub [0, 1, 2, 3, 4] rfl ?_
      exact H _ (Or.inl ⟨p1, rfl⟩)
    · refine L_iload_n C (i := 3) dX4_rowOfPolynomial_53 rfl rfl ?_
      refine L_iconst C (v := 1) dX4_rowOfPolynomial_54 rfl ?_
      refine L_iconst C (v := 4) dX4_rowOfPolynomial_55 rfl ?_
      refine L_iload C dX4_rowOfPolynomial_56 rfl ?_
      refine L_imul C dX4_rowOfPolynomial_58 ?_
      refine L_iload C dX4_rowOfPolynomial_59 rfl ?_
      refine L_iadd C dX4_rowOfPolynomial_61 ?_
      refine L_ishl C dX4_rowOfPolynomial_62 ?_
      refine L_ior C dX4_rowOfPolynomial_63 ?_
      refine L_istore_n C (i := 3) dX4_rowOfPolynomial_64 rfl (Nat.le_of_ble_eq_true rfl) ?_
      refine L_sub [0, 1, 2, 3, 4] rfl ?_
      exact H _ (Or.inr ⟨p1, rfl⟩)
  refine L_iinc C (v := 1) dX4_rowOfPolynomial_65 rfl rfl (Nat.le_of_ble_eq_true rfl) ?_
  refine L_goto C (tgt := 5) dX4_rowOfPolynomial_68 rfl ?_
  exact kk2 v1 hv1
set_option maxRecDepth 4000 in
theorem k_X11_field_0 {G : mG} {E : mE} {Q : Int32 → mM → Prop} {μ : mM} (C : Cx G mX11_field E)  (rr1 : (μ 15 0) ≤ 0 → Q (-1) μ) (cc2 : ¬ (μ 15 0) ≤ 0 → CtI G mX4_fieldSize [.ref (gb G + 15)] μ (fun r μ' => Wm G mX11_field E (bm G mX11_field E (pI Q)) μ' 19 [(0, .ref (gb G + 0))] [.int r])) : Wm G mX11_field E (bm G mX11_field E (pI Q)) μ 0 [(0, .ref (gb G + 0))] [] := by
  refine L_aload_n C (i := 0) dX11_field_0 rfl rfl ?_
  refine L_invV0i C dX11_field_1 sh_0 cal_X11_hasPlan lk_X11_165 ⟨Nat.le_of_ble_eq_true rfl, Nat.le_of_ble_eq_true rfl⟩ ⟨Nat.le_of_ble_eq_true rfl, Nat.le_of_ble_eq_true rfl⟩ (Nat.le_of_ble_eq_true rfl) (a_X11_hasPlan (fun p1 => ?_) (fun p2 => ?_))
  · refine L_if_ne C (tgt := 9) dX11_field_4 rfl (fun p3 => absurd p3 (by decide)) (fun p3 => ?_)
    refine L_iconst C (v := (-1)) dX11_field_7 rfl ?_
    exact L_irI C dX11_field_8 rfl (rr1 p1)
  · refine L_if_ne C (tgt := 9) dX11_field_4 rfl (fun p4 => ?_) (fun p4 => absurd p4 (by decide))
    refine L_aload_n C (i := 0) dX11_field_9 rfl rfl ?_
    refine L_getC C (c' := 14) dX11_field_10 sh_0 fl_X11_26 rfl rfl ?_
    refine L_getC C (c' := 15) dX11_field_13 sh_14 fl_X11_77 rfl rfl ?_
    refine L_invV0i C dX11_field_16 sh_15 cal_X4_fieldSize lk_X11_189 ⟨Nat.le_of_ble_eq_true rfl, Nat.le_of_ble_eq_true rfl⟩ ⟨Nat.le_of_ble_eq_true rfl, Nat.le_of_ble_eq_true rfl⟩ (Nat.le_of_ble_eq_true rfl) ?_
    exact cc2 p2
theorem e_X11_field {G : mG} {Q : Int32 → mM → Prop} {μ : mM}  (k : ∀ E, Cx G mX11_field E → Wm G mX11_field E (bm G mX11_field E (pI Q)) μ 0 [(0, .ref (gb G + 0))] []) : CtI G mX11_field [.ref (gb G + 0)] μ Q := CtI.of pn_X11 (Nat.le_of_ble_eq_true rfl) k
set_option maxRecDepth 4000 in
theorem k_X11_field_19 {G : mG} {E : mE} {Q : Int32 → mM → Prop} {μ : mM} (C : Cx G mX11_field E) {sx0 : Int32} (cc1 : CtI G mX1_power [.int sx0, .int (μ 15 1)] μ (fun r μ' => Wm G mX11_field E (bm G mX11_field E (pI Q)) μ' 34 [(0, .ref (gb G + 0)), (1, .int sx0)] [.int r])) : Wm G mX11_field E (bm G mX11_field E (pI Q)) μ 19 [(0, .ref (gb G + 0))] [.int sx0] := by
  refine L_istore_n C (i := 1) dX11_field_19 rfl (Nat.le_of_ble_eq_true rfl) ?_
  refine L_iload_n C (i := 1) dX11_field_20 rfl rfl ?_
  refine L_aload_n C (i := 0) dX11_field_21 rfl rfl ?_
  refine L_getC C (c' := 14) dX11_field_22 sh_0 fl_X11_26 rfl rfl ?_
  refine L_getC C (c' := 15) dX11_field_25 sh_14 fl_X11_77 rfl rfl ?_
  refine L_getI C dX11_field_28 sh_15 fl_X11_192 rfl ?_
  refine L_invS2i C dX11_field_31 cal_X1_power stc_X1_power lk_X11_195 ⟨Nat.le_of_ble_eq_true rfl, Nat.le_of_ble_eq_true rfl⟩ ⟨Nat.le_of_ble_eq_true rfl, Nat.le_of_ble_eq_true rfl⟩ (Nat.le_of_ble_eq_true rfl) ?_
  exact cc1
set_option maxRecDepth 4000 in
theorem k_X11_field_34 {G : mG} {E : mE} {Q : Int32 → mM → Prop} {μ : mM} (C : Cx G mX11_field E) {x1 : Int32} {sx0 : Int32} (rr1 : (x1 = 0 ∨ (¬ x1 = 0 ∧ ¬ sx0 ≤ 64)) → Q (-2) μ) (kk2 : ¬ x1 = 0 → sx0 ≤ 64 → Wm G mX11_field E (bm G mX11_field E (pI Q)) μ 50 [(0, .ref (gb G + 0)), (1, .int x1), (2, .int sx0), (3, .int 0)] []) : Wm G mX11_field E (bm G mX11_field E (pI Q)) μ 34 [(0, .ref (gb G + 0)), (1, .int x1)] [.int sx0] := by
  refine L_istore_n C (i := 2) dX11_field_34 rfl (Nat.le_of_ble_eq_true rfl) ?_
  refine L_iload_n C (i := 1) dX11_field_35 rfl rfl ?_
  refine L_if_eq C (tgt := 45) dX11_field_36 rfl (fun p1 => ?_) (fun p1 => ?_)
  · refine L_bipush C (v := (-2)) dX11_field_45 rfl ?_
    exact L_irI C dX11_field_47 rfl (rr1 (Or.inl p1))
  · refine L_iload_n C (i := 2) dX11_field_39 rfl rfl ?_
    refine L_bipush C (v := 64) dX11_field_40 rfl ?_
    refine L_icmp_le C (tgt := 48) dX11_field_42 rfl (fun p2 => ?_) (fun p2 => ?_)
    · refine L_iconst C (v := 0) dX11_field_48 rfl ?_
      refine L_istore_n C (i := 3) dX11_field_49 rfl (Nat.le_of_ble_eq_true rfl) ?_
      exact kk2 p1 p2
    · refine L_bipush C (v := (-2)) dX11_field_45 rfl ?_
      exact L_irI C dX11_field_47 rfl (rr1 (Or.inr ⟨p1, p2⟩))
set_option maxRecDepth 4000 in
theorem k_X11_field_50 {G : mG} {E : mE} {Q : Int32 → mM → Prop} {μ : mM} (C : Cx G mX11_field E) {x1 : Int32} {x2 : Int32} {x3 : Int32} (cc1 : x2 ≤ x3 → CtV G mX11_remember [.ref (gb G + 0)] μ (fun μ' => Wm G mX11_field E (bm G mX11_field E (pI Q)) μ' 93 [(0, .ref (gb G + 0)), (1, .int x1), (2, .int x2)] [])) (cc2 : ¬ x2 ≤ x3 → CtI G mX4_rowOfPolynomial [.ref (gb G + 15), .int x3, .int x1] μ (fun r μ' => Wm G mX11_field E (bm G mX11_field E (pI Q)) μ' 74 [(0, .ref (gb G + 0)), (1, .int x1), (2, .int x2), (3, .int x3)] [.int r, .ref (gb G + 15)])) : Wm G mX11_field E (bm G mX11_field E (pI Q)) μ 50 [(0, .ref (gb G + 0)), (1, .int x1), (2, .int x2), (3, .int x3)] [] := by
  refine L_iload_n C (i := 3) dX11_field_50 rfl rfl ?_
  refine L_iload_n C (i := 2) dX11_field_51 rfl rfl ?_
  refine L_icmp_ge C (tgt := 89) dX11_field_52 rfl (fun p1 => ?_) (fun p1 => ?_)
  · refine L_aload_n C (i := 0) dX11_field_89 rfl rfl ?_
    refine L_sub [0, 1, 2] rfl ?_
    refine L_invV0v C dX11_field_90 sh_0 cal_X11_remember lk_X11_143 ⟨Nat.le_of_ble_eq_true rfl, Nat.le_of_ble_eq_true rfl⟩ ⟨Nat.le_of_ble_eq_true rfl, Nat.le_of_ble_eq_true rfl⟩ (Nat.le_of_ble_eq_true rfl) ?_
    exact cc1 p1
  · refine L_aload_n C (i := 0) dX11_field_55 rfl rfl ?_
    refine L_getC C (c' := 14) dX11_field_56 sh_0 fl_X11_26 rfl rfl ?_
    refine L_getC C (c' := 15) dX11_field_59 sh_14 fl_X11_77 rfl rfl ?_
    refine L_aload_n C (i := 0) dX11_field_62 rfl rfl ?_
    refine L_getC C (c' := 14) dX11_field_63 sh_0 fl_X11_26 rfl rfl ?_
    refine L_getC C (c' := 15) dX11_field_66 sh_14 fl_X11_77 rfl rfl ?_
    refine L_iload_n C (i := 3) dX11_field_69 rfl rfl ?_
    refine L_iload_n C (i := 1) dX11_field_70 rfl rfl ?_
    refine L_invV2i C dX11_field_71 sh_15 cal_X4_rowOfPolynomial lk_X11_200 ⟨Nat.le_of_ble_eq_true rfl, Nat.le_of_ble_eq_true rfl⟩ ⟨Nat.le_of_ble_eq_true rfl, Nat.le_of_ble_eq_true rfl⟩ (Nat.le_of_ble_eq_true rfl) ?_
    exact cc2 p1
set_option maxRecDepth 4000 in
theorem k_X11_field_74 {G : mG} {E : mE} {Q : Int32 → mM → Prop} {μ : mM} (C : Cx G mX11_field E) {x1 : Int32} {x2 : Int32} {x3 : Int32} {sx1 : Int32} (cc1 : CtI G mX4_allows [.ref (gb G + 15), .int sx1] μ (fun r μ' => Wm G mX11_field E (bm G mX11_field E (pI Q)) μ' 77 [(0, .ref (gb G + 0)), (1, .int x1), (2, .int x2), (3, .int x3)] [.int r])) : Wm G mX11_field E (bm G mX11_field E (pI Q)) μ 74 [(0, .ref (gb G + 0)), (1, .int x1), (2, .int x2), (3, .int x3)] [.int sx1, .ref (gb G + 15)] := by
  refine L_invV1i C dX11_field_74 sh_15 cal_X4_allows lk_X11_140 ⟨Nat.le_of_ble_eq_true rfl, Nat.le_of_ble_eq_true rfl⟩ ⟨Nat.le_of_ble_eq_true rfl, Nat.le_of_ble_eq_true rfl⟩ (Nat.le_of_ble_eq_true rfl) ?_
  exact cc1
set_option maxRecDepth 4000 in
theorem k_X11_field_77 {G : mG} {E : mE} {Q : Int32 → mM → Prop} {μ : mM} (C : Cx G mX11_field E) {x1 : Int32} {x2 : Int32} {x3 : Int32} {sx0 : Int32} (kk1 : ¬ sx0 = 0 → Wm G mX11_field E (bm G mX11_field E (pI Q)) μ 50 [(0, .ref (gb G + 0)), (1, .int x1), (2, .int x2), (3, .int (x3 + (1 : Int32)))] []) (rr2 : sx0 = 0 → Q (-2) μ) : Wm G mX11_field E (bm G mX11_field E (pI Q)) μ 77 [(0, .ref (gb G + 0)), (1, .int x1), (2, .int x2), (3, .int x3)] [.int sx0] := by
  refine L_if_ne C (tgt := 83) dX11_field_77 rfl (fun p1 => ?_) (fun p1 => ?_)
  · refine L_iinc C (v := 1) dX11_field_83 rfl rfl (Nat.le_of_ble_eq_true rfl) ?_
    refine L_goto C (tgt := 50) dX11_field_86 rfl ?_
    exact kk1 p1
  · refine L_bipush C (v := (-2)) dX11_field_80 rfl ?_
    exact L_irI C dX11_field_82 rfl (rr2 p1)
set_option maxRecDepth 4000 in
theorem k_X11_field_93 {G : mG} {E : mE} {B : mB} {μ : mM} (C : Cx G mX11_field E) {x1 : Int32} {x2 : Int32} (kk1 : Wm G mX11_field E B (ms μ 19 0 0) 106 [(0, .ref (gb G + 0)), (1, .int x1), (2, .int x2), (3, .int 0)] []) : Wm G mX11_field E B μ 93 [(0, .ref (gb G + 0)), (1, .int x1), (2, .int x2)] [] := by
  refine L_aload_n C (i := 0) dX11_field_93 rfl rfl ?_
  refine L_getC C (c' := 14) dX11_field_94 sh_0 fl_X11_26 rfl rfl ?_
  refine L_getC C (c' := 19) dX11_field_97 sh_14 fl_X11_90 rfl rfl ?_
  refine L_iconst C (v := 0) dX11_field_100 rfl ?_
  refine L_putI C dX11_field_101 sh_19 fl_X11_94 rfl rfl rfl ?_
  refine L_iconst C (v := 0) dX11_field_104 rfl ?_
  refine L_istore_n C (i := 3) dX11_field_105 rfl (Nat.le_of_ble_eq_true rfl) ?_
  exact kk1
set_option maxRecDepth 4000 in
theorem k_X11_field_106 {G : mG} {E : mE} {Q : Int32 → mM → Prop} {μ : mM} (C : Cx G mX11_field E) {x1 : Int32} {x2 : Int32} {x3 : Int32} (cc1 : x2 ≤ x3 → CtV G mX2_recount [.ref (gb G + 22), .ref (gb G + 19)] μ (fun μ' => Wm G mX11_field E (bm G mX11_field E (pI Q)) μ' 153 [(1, .int x1)] [])) (cc2 : ¬ x2 ≤ x3 → CtI G mX4_rowOfPolynomial [.ref (gb G + 15), .int x3, .int x1] μ (fun r μ' => Wm G mX11_field E (bm G mX11_field E (pI Q)) μ' 130 [(0, .ref (gb G + 0)), (1, .int x1), (2, .int x2), (3, .int x3)] [.int r, .ref (gb G + 19)])) : Wm G mX11_field E (bm G mX11_field E (pI Q)) μ 106 [(0, .ref (gb G + 0)), (1, .int x1), (2, .int x2), (3, .int x3)] [] := by
  refine L_iload_n C (i := 3) dX11_field_106 rfl rfl ?_
  refine L_iload_n C (i := 2) dX11_field_107 rfl rfl ?_
  refine L_icmp_ge C (tgt := 139) dX11_field_108 rfl (fun p1 => ?_) (fun p1 => ?_)
  · refine L_aload_n C (i := 0) dX11_field_139 rfl rfl ?_
    refine L_getC C (c' := 22) dX11_field_140 sh_0 fl_X11_33 rfl rfl ?_
    refine L_aload_n C (i := 0) dX11_field_143 rfl rfl ?_
    refine L_getC C (c' := 14) dX11_field_144 sh_0 fl_X11_26 rfl rfl ?_
    refine L_getC C (c' := 19) dX11_field_147 sh_14 fl_X11_90 rfl rfl ?_
    refine L_sub [1] rfl ?_
    refine L_invV1v C dX11_field_150 sh_22 cal_X2_recount lk_X11_204 ⟨Nat.le_of_ble_eq_true rfl, Nat.le_of_ble_eq_true rfl⟩ ⟨Nat.le_of_ble_eq_true rfl, Nat.le_of_ble_eq_true rfl⟩ (Nat.le_of_ble_eq_true rfl) ?_
    exact cc1 p1
  · refine L_aload_n C (i := 0) dX11_field_111 rfl rfl ?_
    refine L_getC C (c' := 14) dX11_field_112 sh_0 fl_X11_26 rfl rfl ?_
    refine L_getC C (c' := 19) dX11_field_115 sh_14 fl_X11_90 rfl rfl ?_
    refine L_aload_n C (i := 0) dX11_field_118 rfl rfl ?_
    refine L_getC C (c' := 14) dX11_field_119 sh_0 fl_X11_26 rfl rfl ?_
    refine L_getC C (c' := 15) dX11_field_122 sh_14 fl_X11_77 rfl rfl ?_
    refine L_iload_n C (i := 3) dX11_field_125 rfl rfl ?_
    refine L_iload_n C (i := 1) dX11_field_126 rfl rfl ?_
    refine L_invV2i C dX11_field_127 sh_15 cal_X4_rowOfPolynomial lk_X11_200 ⟨Nat.le_of_ble_eq_true rfl, Nat.le_of_ble_eq_true rfl⟩ ⟨Nat.le_of_ble_eq_true rfl, Nat.le_of_ble_eq_true rfl⟩ (Nat.le_of_ble_eq_true rfl) ?_
    exact cc2 p1
set_option maxRecDepth 4000 in
theorem k_X11_field_130 {G : mG} {E : mE} {Q : Int32 → mM → Prop} {μ : mM} (C : Cx G mX11_field E) {x1 : Int32} {x2 : Int32} {x3 : Int32} {sx1 : Int32} (cc1 : CtV G mX7_append [.ref (gb G + 19), .int sx1] μ (fun μ' => Wm G mX11_field E (bm G mX11_field E (pI Q)) μ' 133 [(0, .ref (gb G + 0)), (1, .int x1), (2, .int x2), (3, .int x3)] [])) : Wm G mX11_field E (bm G mX11_field E (pI Q)) μ 130 [(0, .ref (gb G + 0)), (1, .int x1), (2, .int x2), (3, .int x3)] [.int sx1, .ref (gb G + 19)] := by
  refine L_invV1v C dX11_field_130 sh_19 cal_X7_append lk_X11_203 ⟨Nat.le_of_ble_eq_true rfl, Nat.le_of_ble_eq_true rfl⟩ ⟨Nat.le_of_ble_eq_true rfl, Nat.le_of_ble_eq_true rfl⟩ (Nat.le_of_ble_eq_true rfl) ?_
  exact cc1
set_option maxRecDepth 4000 in
theorem k_X11_field_133 {G : mG} {E : mE} {B : mB} {μ : mM} (C : Cx G mX11_field E) {x1 : Int32} {x2 : Int32} {x3 : Int32} (kk1 : Wm G mX11_field E B μ 106 [(0, .ref (gb G + 0)), (1, .int x1), (2, .int x2), (3, .int (x3 + (1 : Int32)))] []) : Wm G mX11_field E B μ 133 [(0, .ref (gb G + 0)), (1, .int x1), (2, .int x2), (3, .int x3)] [] := by
  refine L_iinc C (v := 1) dX11_field_133 rfl rfl (Nat.le_of_ble_eq_true rfl) ?_
  refine L_goto C (tgt := 106) dX11_field_136 rfl ?_
  exact kk1
set_option maxRecDepth 4000 in
theorem k_X11_field_153 {G : mG} {E : mE} {Q : Int32 → mM → Prop} {μ : mM} (C : Cx G mX11_field E) {x1 : Int32} (rr1 : Q x1 μ) : Wm G mX11_field E (bm G mX11_field E (pI Q)) μ 153 [(1, .int x1)] [] := by
  refine L_iload_n C (i := 1) dX11_field_153 rfl rfl ?_
  exact L_irI C dX11_field_154 rfl (rr1)
set_option maxRecDepth 4000 in
theorem k_X5_mixesIfWider_0 {G : mG} {E : mE} {Q : Int32 → mM → Prop} {μ : mM} (C : Cx G mX5_mixesIfWider E) {c1 : Nat} (h1 : sh c1 = (0, 3)) {x2 : Int32} (cc1 : CtV G mX4_copyFrom [.ref (gb G + 4), .ref (gb G + c1)] μ (fun μ' => Wm G mX5_mixesIfWider E (bm G mX5_mixesIfWider E (pI Q)) μ' 8 [(0, .ref (gb G + 3)), (2, .int x2)] [])) : Wm G mX5_mixesIfWider E (bm G mX5_mixesIfWider E (pI Q)) μ 0 [(0, .ref (gb G + 3)), (1, .ref (gb G + c1)), (2, .int x2)] [] := by
  refine L_aload_n C (i := 0) dX5_mixesIfWider_0 rfl rfl ?_
  refine L_getC C (c' := 4) dX5_mixesIfWider_1 sh_3 fl_X5_12 rfl rfl ?_
  refine L_aload_n C (i := 1) dX5_mixesIfWider_4 rfl rfl ?_
  refine L_sub [0, 2] rfl ?_
  refine L_invV1v C dX5_mixesIfWider_5 sh_4 cal_X4_copyFrom lk_X5_73 ⟨Nat.le_of_ble_eq_true rfl, Nat.le_of_ble_eq_true rfl⟩ ⟨Nat.le_of_ble_eq_true rfl, Nat.le_of_ble_eq_true rfl⟩ (Nat.le_of_ble_eq_true rfl) ?_
  exact cc1
theorem e_X5_mixesIfWider {G : mG} {Q : Int32 → mM → Prop} {μ : mM} {c1 : Nat} (h1 : sh c1 = (0, 3)) {x2 : Int32} (k : ∀ E, Cx G mX5_mixesIfWider E → Wm G mX5_mixesIfWider E (bm G mX5_mixesIfWider E (pI Q)) μ 0 [(0, .ref (gb G + 3)), (1, .ref (gb G + c1)), (2, .int x2)] []) : CtI G mX5_mixesIfWider [.ref (gb G + 3), .ref (gb G + c1), .int x2] μ Q := CtI.of pn_X5 (Nat.le_of_ble_eq_true rfl) k
set_option maxRecDepth 4000 in
theorem k_X5_mixesIfWider_8 {G : mG} {E : mE} {Q : Int32 → mM → Prop} {μ : mM} (C : Cx G mX5_mixesIfWider E) {x2 : Int32} (cc1 : CtV G mX4_addColumn [.ref (gb G + 4), .int x2] μ (fun μ' => Wm G mX5_mixesIfWider E (bm G mX5_mixesIfWider E (pI Q)) μ' 16 [(0, .ref (gb G + 3))] [])) : Wm G mX5_mixesIfWider E (bm G mX5_mixesIfWider E (pI Q)) μ 8 [(0, .ref (gb G + 3)), (2, .int x2)] [] := by
  refine L_aload_n C (i := 0) dX5_mixesIfWider_8 rfl rfl ?_
  refine L_getC C (c' := 4) dX5_mixesIfWider_9 sh_3 fl_X5_12 rfl rfl ?_
  refine L_iload_n C (i := 2) dX5_mixesIfWider_12 rfl rfl ?_
  refine L_sub [0] rfl ?_
  refine L_invV1v C dX5_mixesIfWider_13 sh_4 cal_X4_addColumn lk_X5_77 ⟨Nat.le_of_ble_eq_true rfl, Nat.le_of_ble_eq_true rfl⟩ ⟨Nat.le_of_ble_eq_true rfl, Nat.le_of_ble_eq_true rfl⟩ (Nat.le_of_ble_eq_true rfl) ?_
  exact cc1
set_option maxRecDepth 4000 in
theorem k_X5_mixesIfWider_16 {G : mG} {E : mE} {Q : Int32 → mM → Prop} {μ : mM} (C : Cx G mX5_mixesIfWider E)  (cc1 : CtI G mX5_mixesOf [.ref (gb G + 3), .ref (gb G + 4)] μ (fun r μ' => Wm G mX5_mixesIfWider E (bm G mX5_mixesIfWider E (pI Q)) μ' 24 [] [.int r])) : Wm G mX5_mixesIfWider E (bm G mX5_mixesIfWider E (pI Q)) μ 16 [(0, .ref (gb G + 3))] [] := by
  refine L_aload_n C (i := 0) dX5_mixesIfWider_16 rfl rfl ?_
  refine L_aload_n C (i := 0) dX5_mixesIfWider_17 rfl rfl ?_
  refine L_getC C (c' := 4) dX5_mixesIfWider_18 sh_3 fl_X5_12 rfl rfl ?_
  refine L_sub [] rfl ?_
  refine L_invV1i C dX5_mixesIfWider_21 sh_3 cal_X5_mixesOf lk_X5_61 ⟨Nat.le_of_ble_eq_true rfl, Nat.le_of_ble_eq_true rfl⟩ ⟨Nat.le_of_ble_eq_true rfl, Nat.le_of_ble_eq_true rfl⟩ (Nat.le_of_ble_eq_true rfl) ?_
  exact cc1
set_option maxRecDepth 4000 in
theorem k_X5_mixesIfWider_24 {G : mG} {E : mE} {Q : Int32 → mM → Prop} {μ : mM} (C : Cx G mX5_mixesIfWider E) {sx0 : Int32} (rr1 : Q sx0 μ) : Wm G mX5_mixesIfWider E (bm G mX5_mixesIfWider E (pI Q)) μ 24 [] [.int sx0] := by
  exact L_irI C dX5_mixesIfWider_24 rfl (rr1)
set_option maxRecDepth 4000 in
theorem k_X11_widen_0 {G : mG} {E : mE} {Q : Int32 → mM → Prop} {μ : mM} (C : Cx G mX11_widen E) {x1 : Int32} (rr1 : ((μ 15 0) ≤ 0 ∨ (¬ (μ 15 0) ≤ 0 ∧ (x1 < 2 ∨ (¬ x1 < 2 ∧ (4 < x1 ∨ (¬ 4 < x1 ∧ 8 ≤ (μ 15 0))))))) → Q (-1) μ) (cc2 : ¬ (μ 15 0) ≤ 0 → ¬ x1 < 2 → ¬ 4 < x1 → ¬ 8 ≤ (μ 15 0) → CtI G mX5_mixesIfWider [.ref (gb G + 3), .ref (gb G + 15), .int x1] μ (fun r μ' => Wm G mX11_widen E (bm G mX11_widen E (pI Q)) μ' 47 [(0, .ref (gb G + 0)), (1, .int x1)] [.int r])) : Wm G mX11_widen E (bm G mX11_widen E (pI Q)) μ 0 [(0, .ref (gb G + 0)), (1, .int x1)] [] := by
  refine L_aload_n C (i := 0) dX11_widen_0 rfl rfl ?_
  refine L_invV0i C dX11_widen_1 sh_0 cal_X11_hasPlan lk_X11_165 ⟨Nat.le_of_ble_eq_true rfl, Nat.le_of_ble_eq_true rfl⟩ ⟨Nat.le_of_ble_eq_true rfl, Nat.le_of_ble_eq_true rfl⟩ (Nat.le_of_ble_eq_true rfl) (a_X11_hasPlan (fun p1 => ?_) (fun p2 => ?_))
  · refine L_if_eq C (tgt := 53) dX11_widen_4 rfl (fun p3 => ?_) (fun p3 => absurd p3 (by decide))
    refine L_iconst C (v := (-1)) dX11_widen_53 rfl ?_
    exact L_irI C dX11_widen_54 rfl (rr1 (Or.inl p1))
  · refine L_if_eq C (tgt := 53) dX11_widen_4 rfl (fun p4 => absurd p4 (by decide)) (fun p4 => ?_)
    refine L_iload_n C (i := 1) dX11_widen_7 rfl rfl ?_
    refine L_iconst C (v := 2) dX11_widen_8 rfl ?_
    refine L_icmp_lt C (tgt := 53) dX11_widen_9 rfl (fun p5 => ?_) (fun p5 => ?_)
    · refine L_iconst C (v := (-1)) dX11_widen_53 rfl ?_
      exact L_irI C dX11_widen_54 rfl (rr1 (Or.inr ⟨p2, (Or.inl p5)⟩))
    · refine L_iload_n C (i := 1) dX11_widen_12 rfl rfl ?_
      refine L_iconst C (v := 4) dX11_widen_13 rfl ?_
      refine L_icmp_gt C (tgt := 53) dX11_widen_14 rfl (fun p6 => ?_) (fun p6 => ?_)
      · refine L_iconst C (v := (-1)) dX11_widen_53 rfl ?_
        exact L_irI C dX11_widen_54 rfl (rr1 (Or.inr ⟨p2, (Or.inr ⟨p5, (Or.inl p6)⟩)⟩))
      · refine L_aload_n C (i := 0) dX11_widen_17 rfl rfl ?_
        refine L_getC C (c' := 14) dX11_widen_18 sh_0 fl_X11_26 rfl rfl ?_
        refine L_getC C (c' := 15) dX11_widen_21 sh_14 fl_X11_77 rfl rfl ?_
        refine L_getI C dX11_widen_24 sh_15 fl_X11_208 rfl ?_
        refine L_bipush C (v := 8) dX11_widen_27 rfl ?_
        refine L_icmp_ge C (tgt := 53) dX11_widen_29 rfl (fun p7 => ?_) (fun p7 => ?_)
        · refine L_iconst C (v := (-1)) dX11_widen_53 rfl ?_
          exact L_irI C dX11_widen_54 rfl (rr1 (Or.inr ⟨p2, (Or.inr ⟨p5, (Or.inr ⟨p6, p7⟩)⟩)⟩))
        · refine L_aload_n C (i := 0) dX11_widen_32 rfl rfl ?_
          refine L_getC C (c' := 3) dX11_widen_33 sh_0 fl_X11_19 rfl rfl ?_
          refine L_aload_n C (i := 0) dX11_widen_36 rfl rfl ?_
          refine L_getC C (c' := 14) dX11_widen_37 sh_0 fl_X11_26 rfl rfl ?_
          refine L_getC C (c' := 15) dX11_widen_40 sh_14 fl_X11_77 rfl rfl ?_
          refine L_iload_n C (i := 1) dX11_widen_43 rfl rfl ?_
          refine L_invV2i C dX11_widen_44 sh_3 cal_X5_mixesIfWider lk_X11_211 ⟨Nat.le_of_ble_eq_true rfl, Nat.le_of_ble_eq_true rfl⟩ ⟨Nat.le_of_ble_eq_true rfl, Nat.le_of_ble_eq_true rfl⟩ (Nat.le_of_ble_eq_true rfl) ?_
          exact cc2 p2 p5 p6 p7
theorem e_X11_widen {G : mG} {Q : Int32 → mM → Prop} {μ : mM} {x1 : Int32} (k : ∀ E, Cx G mX11_widen E → Wm G mX11_widen E (bm G mX11_widen E (pI Q)) μ 0 [(0, .ref (gb G + 0)), (1, .int x1)] []) : CtI G mX11_widen [.ref (gb G + 0), .int x1] μ Q := CtI.of pn_X11 (Nat.le_of_ble_eq_true rfl) k
set_option maxRecDepth 4000 in
theorem k_X11_widen_47 {G : mG} {E : mE} {Q : Int32 → mM → Prop} {μ : mM} (C : Cx G mX11_widen E) {x1 : Int32} {sx0 : Int32} (cc1 : sx0 ≤ 1200 → CtV G mX11_remember [.ref (gb G + 0)] μ (fun μ' => Wm G mX11_widen E (bm G mX11_widen E (pI Q)) μ' 59 [(0, .ref (gb G + 0)), (1, .int x1)] [])) (rr2 : ¬ sx0 ≤ 1200 → Q (-1) μ) : Wm G mX11_widen E (bm G mX11_widen E (pI Q)) μ 47 [(0, .ref (gb G + 0)), (1, .int x1)] [.int sx0] := by
  refine L_sipush C (v := 1200) dX11_widen_47 rfl ?_
  refine L_icmp_le C (tgt := 55) dX11_widen_50 rfl (fun p1 => ?_) (fun p1 => ?_)
  · refine L_aload_n C (i := 0) dX11_widen_55 rfl rfl ?_
    refine L_invV0v C dX11_widen_56 sh_0 cal_X11_remember lk_X11_143 ⟨Nat.le_of_ble_eq_true rfl, Nat.le_of_ble_eq_true rfl⟩ ⟨Nat.le_of_ble_eq_true rfl, Nat.le_of_ble_eq_true rfl⟩ (Nat.le_of_ble_eq_true rfl) ?_
    exact cc1 p1
  · refine L_iconst C (v := (-1)) dX11_widen_53 rfl ?_
    exact L_irI C dX11_widen_54 rfl (rr2 p1)
set_option maxRecDepth 4000 in
theorem k_X11_widen_59 {G : mG} {E : mE} {Q : Int32 → mM → Prop} {μ : mM} (C : Cx G mX11_widen E) {x1 : Int32} (cc1 : CtV G mX4_addColumn [.ref (gb G + 15), .int x1] μ (fun μ' => Wm G mX11_widen E (bm G mX11_widen E (pI Q)) μ' 70 [(0, .ref (gb G + 0))] [])) : Wm G mX11_widen E (bm G mX11_widen E (pI Q)) μ 59 [(0, .ref (gb G + 0)), (1, .int x1)] [] := by
  refine L_aload_n C (i := 0) dX11_widen_59 rfl rfl ?_
  refine L_getC C (c' := 14) dX11_widen_60 sh_0 fl_X11_26 rfl rfl ?_
  refine L_getC C (c' := 15) dX11_widen_63 sh_14 fl_X11_77 rfl rfl ?_
  refine L_iload_n C (i := 1) dX11_widen_66 rfl rfl ?_
  refine L_sub [0] rfl ?_
  refine L_invV1v C dX11_widen_67 sh_15 cal_X4_addColumn lk_X11_215 ⟨Nat.le_of_ble_eq_true rfl, Nat.le_of_ble_eq_true rfl⟩ ⟨Nat.le_of_ble_eq_true rfl, Nat.le_of_ble_eq_true rfl⟩ (Nat.le_of_ble_eq_true rfl) ?_
  exact cc1
set_option maxRecDepth 4000 in
theorem k_X11_widen_70 {G : mG} {E : mE} {Q : Int32 → mM → Prop} {μ : mM} (C : Cx G mX11_widen E)  (cc1 : CtV G mX11_rebuild [.ref (gb G + 0)] μ (fun μ' => Wm G mX11_widen E (bm G mX11_widen E (pI Q)) μ' 74 [(0, .ref (gb G + 0))] [])) : Wm G mX11_widen E (bm G mX11_widen E (pI Q)) μ 70 [(0, .ref (gb G + 0))] [] := by
  refine L_aload_n C (i := 0) dX11_widen_70 rfl rfl ?_
  refine L_invV0v C dX11_widen_71 sh_0 cal_X11_rebuild lk_X11_100 ⟨Nat.le_of_ble_eq_true rfl, Nat.le_of_ble_eq_true rfl⟩ ⟨Nat.le_of_ble_eq_true rfl, Nat.le_of_ble_eq_true rfl⟩ (Nat.le_of_ble_eq_true rfl) ?_
  exact cc1
set_option maxRecDepth 4000 in
theorem k_X11_widen_74 {G : mG} {E : mE} {Q : Int32 → mM → Prop} {μ : mM} (C : Cx G mX11_widen E)  (ss1 : vp_in (μ 23 0) 57) (rr2 : Q (if 1200 < (μ 25 (μ 23 0).toNatClampNeg) then 1200 else (μ 25 (μ 23 0).toNatClampNeg)) μ) : Wm G mX11_widen E (bm G mX11_widen E (pI Q)) μ 74 [(0, .ref (gb G + 0))] [] := by
  refine L_aload_n C (i := 0) dX11_widen_74 rfl rfl ?_
  refine L_getC C (c' := 22) dX11_widen_75 sh_0 fl_X11_33 rfl rfl ?_
  refine L_invV0i C dX11_widen_78 sh_22 cal_X2_size lk_X11_103 ⟨Nat.le_of_ble_eq_true rfl, Nat.le_of_ble_eq_true rfl⟩ ⟨Nat.le_of_ble_eq_true rfl, Nat.le_of_ble_eq_true rfl⟩ (Nat.le_of_ble_eq_true rfl) (a_X2_size (ss1) (?_))
  · exact L_irI C dX11_widen_81 rfl (rr2)
set_option maxRecDepth 4000 in
theorem k_X2_openIn_0 {G : mG} {E : mE} {B : mB} {μ : mM} (C : Cx G mX2_openIn E) {x1 : Int32} (kk1 : Wm G mX2_openIn E B μ 4 [(0, .ref (gb G + 22)), (1, .int x1), (2, .int 0), (3, .int 0)] []) : Wm G mX2_openIn E B μ 0 [(0, .ref (gb G + 22)), (1, .int x1)] [] := by
  refine L_iconst C (v := 0) dX2_openIn_0 rfl ?_
  refine L_istore_n C (i := 2) dX2_openIn_1 rfl (Nat.le_of_ble_eq_true rfl) ?_
  refine L_iconst C (v := 0) dX2_openIn_2 rfl ?_
  refine L_istore_n C (i := 3) dX2_openIn_3 rfl (Nat.le_of_ble_eq_true rfl) ?_
  exact kk1
theorem e_X2_openIn {G : mG} {Q : Int32 → mM → Prop} {μ : mM} {x1 : Int32} (k : ∀ E, Cx G mX2_openIn E → Wm G mX2_openIn E (bm G mX2_openIn E (pI Q)) μ 0 [(0, .ref (gb G + 22)), (1, .int x1)] []) : CtI G mX2_openIn [.ref (gb G + 22), .int x1] μ Q := CtI.of pn_X2 (Nat.le_of_ble_eq_true rfl) k
set_option maxRecDepth 4000 in
theorem k_X2_openIn_4 {G : mG} {E : mE} {Q : Int32 → mM → Prop} {μ : mM} (C : Cx G mX2_openIn E) {x1 : Int32} {x2 : Int32} {x3 : Int32} (rr1 : (μ 23 0) ≤ x3 → Q x2 μ) (cc2 : ¬ (μ 23 0) ≤ x3 → CtI G mX0_numberIn [.ref (gb G + 23), .int x3, .int x1] μ (fun r μ' => Wm G mX2_openIn E (bm G mX2_openIn E (pI Q)) μ' 24 [(0, .ref (gb G + 22)), (1, .int x1), (2, .int x2), (3, .int x3)] [.int r])) : Wm G mX2_openIn E (bm G mX2_openIn E (pI Q)) μ 4 [(0, .ref (gb G + 22)), (1, .int x1), (2, .int x2), (3, .int x3)] [] := by
  refine L_iload_n C (i := 3) dX2_openIn_4 rfl rfl ?_
  refine L_aload_n C (i := 0) dX2_openIn_5 rfl rfl ?_
  refine L_getC C (c' := 23) dX2_openIn_6 sh_22 fl_X2_12 rfl rfl ?_
  refine L_getI C dX2_openIn_9 sh_23 fl_X2_31 rfl ?_
  refine L_icmp_ge C (tgt := 50) dX2_openIn_12 rfl (fun p1 => ?_) (fun p1 => ?_)
  · refine L_iload_n C (i := 2) dX2_openIn_50 rfl rfl ?_
    exact L_irI C dX2_openIn_51 rfl (rr1 p1)
  · refine L_aload_n C (i := 0) dX2_openIn_15 rfl rfl ?_
    refine L_getC C (c' := 23) dX2_openIn_16 sh_22 fl_X2_12 rfl rfl ?_
    refine L_iload_n C (i := 3) dX2_openIn_19 rfl rfl ?_
    refine L_iload_n C (i := 1) dX2_openIn_20 rfl rfl ?_
    refine L_invV2i C dX2_openIn_21 sh_23 cal_X0_numberIn lk_X2_101 ⟨Nat.le_of_ble_eq_true rfl, Nat.le_of_ble_eq_true rfl⟩ ⟨Nat.le_of_ble_eq_true rfl, Nat.le_of_ble_eq_true rfl⟩ (Nat.le_of_ble_eq_true rfl) ?_
    exact cc2 p1
set_option maxRecDepth 4000 in
theorem k_X2_openIn_24 {G : mG} {E : mE} {Q : Int32 → mM → Prop} {μ : mM} (C : Cx G mX2_openIn E) {x1 : Int32} {x2 : Int32} {x3 : Int32} {sx0 : Int32} (ss1 : ¬ sx0 = (-1) → vp_in sx0 1200) (kk2 : ∀ v1 : Int32, (((sx0 = (-1) ∨ (¬ sx0 = (-1) ∧ (¬ (μ 30 sx0.toNatClampNeg) = 0 ∨ ((μ 30 sx0.toNatClampNeg) = 0 ∧ (μ 29 sx0.toNatClampNeg) = 0)))) ∧ v1 = x2) ∨ (¬ sx0 = (-1) ∧ (μ 30 sx0.toNatClampNeg) = 0 ∧ ¬ (μ 29 sx0.toNatClampNeg) = 0 ∧ v1 = (x2 + (1 : Int32)))) → Wm G mX2_openIn E (bm G mX2_openIn E (pI Q)) μ 4 [(0, .ref (gb G + 22)), (1, .int x1), (2, .int v1), (3, .int (x3 + (1 : Int32)))] []) : Wm G mX2_openIn E (bm G mX2_openIn E (pI Q)) μ 24 [(0, .ref (gb G + 22)), (1, .int x1), (2, .int x2), (3, .int x3)] [.int sx0] := by
  refine L_istore C dX2_openIn_24 (Nat.le_of_ble_eq_true rfl) ?_
  refine L_iload C dX2_openIn_26 rfl ?_
  refine L_iconst C (v := (-1)) dX2_openIn_28 rfl ?_
  refine phi (fun v1 : Int32 => Wm G mX2_openIn E (bm G mX2_openIn E (pI Q)) μ 44 [(0, .ref (gb G + 22)), (1, .int x1), (2, .int v1), (3, .int x3)] []) (fun v1 : Int32 => ((sx0 = (-1) ∨ (¬ sx0 = (-1) ∧ (¬ (μ 30 sx0.toNatClampNeg) = 0 ∨ ((μ 30 sx0.toNatClampNeg) = 0 ∧ (μ 29 sx0.toNatClampNeg) = 0)))) ∧ v1 = x2) ∨ (¬ sx0 = (-1) ∧ (μ 30 sx0.toNatClampNeg) = 0 ∧ ¬ (μ 29 sx0.toNatClampNeg) = 0 ∧ v1 = (x2 + (1 : Int32)))) (fun H => ?_) (fun v1 hv1 => ?_)
  · refine L_icmp_eq C (tgt := 44) dX2_openIn_29 rfl (fun p1 => ?_) (fun p1 => ?_)
    · refine L_sub [0, 1, 2, 3] rfl ?_
      exact H _ (Or.inl ⟨(Or.inl p1), rfl⟩)
    · refine L_aload_n C (i := 0) dX2_openIn_32 rfl rfl ?_
      refine L_iload C dX2_openIn_33 rfl ?_
      refine L_invV1i C dX2_openIn_35 sh_22 cal_X2_isOpen lk_X2_104 ⟨Nat.le_of_ble_eq_true rfl, Nat.le_of_ble_eq_true rfl⟩ ⟨Nat.le_of_ble_eq_true rfl, Nat.le_of_ble_eq_true rfl⟩ (Nat.le_of_ble_eq_true rfl) (a_X2_isOpen (ss1 p1) (fun p2 => ?_) (fun p3 p4 => ?_))
      · refine L_if_eq C (tgt := 44) dX2_openIn_38 rfl (fun p5 => ?_) (fun p5 => absurd p5 (by decide))
        refine L_sub [0, 1, 2, 3] rfl ?_
        exact H _ (Or.inl ⟨(Or.inr ⟨p1, p2⟩), rfl⟩)
      · refine L_if_eq C (tgt := 44) dX2_openIn_38 rfl (fun p6 => absurd p6 (by decide)) (fun p6 => ?_)
        refine L_iinc C (v := 1) dX2_openIn_41 rfl rfl (Nat.le_of_ble_eq_true rfl) ?_
        refine L_sub [0, 1, 2, 3] rfl ?_
        exact H _ (Or.inr ⟨p1, p3, p4, rfl⟩)
  refine L_iinc C (v := 1) dX2_openIn_44 rfl rfl (Nat.le_of_ble_eq_true rfl) ?_
  refine L_goto C (tgt := 4) dX2_openIn_47 rfl ?_
  exact kk2 v1 hv1
set_option maxRecDepth 4000 in
theorem k_X11_settleCell_0 {G : mG} {E : mE} {Q : mM → Prop} {μ : mM} (C : Cx G mX11_settleCell E) {x1 : Int32} {x2 : Int32} (ss1 : vp_in x1 64) (cc2 : CtI G mX4_levelsLeft [.ref (gb G + 15), .int (μ 20 x1.toNatClampNeg), .int x2] μ (fun r μ' => Wm G mX11_settleCell E (bm G mX11_settleCell E (pV Q)) μ' 25 [(0, .ref (gb G + 0)), (1, .int x1), (2, .int x2), (3, .int (μ 20 x1.toNatClampNeg))] [.int r])) : Wm G mX11_settleCell E (bm G mX11_settleCell E (pV Q)) μ 0 [(0, .ref (gb G + 0)), (1, .int x1), (2, .int x2)] [] := by
  refine L_aload_n C (i := 0) dX11_settleCell_0 rfl rfl ?_
  refine L_getC C (c' := 14) dX11_settleCell_1 sh_0 fl_X11_26 rfl rfl ?_
  refine L_getC C (c' := 19) dX11_settleCell_4 sh_14 fl_X11_90 rfl rfl ?_
  refine L_getC C (c' := 20) dX11_settleCell_7 sh_19 fl_X11_152 rfl rfl ?_
  refine L_iload_n C (i := 1) dX11_settleCell_10 rfl rfl ?_
  refine L_iald C dX11_settleCell_11 sh_20 (ss1) ?_
  refine L_istore_n C (i := 3) dX11_settleCell_12 rfl (Nat.le_of_ble_eq_true rfl) ?_
  refine L_aload_n C (i := 0) dX11_settleCell_13 rfl rfl ?_
  refine L_getC C (c' := 14) dX11_settleCell_14 sh_0 fl_X11_26 rfl rfl ?_
  refine L_getC C (c' := 15) dX11_settleCell_17 sh_14 fl_X11_77 rfl rfl ?_
  refine L_iload_n C (i := 3) dX11_settleCell_20 rfl rfl ?_
  refine L_iload_n C (i := 2) dX11_settleCell_21 rfl rfl ?_
  refine L_invV2i C dX11_settleCell_22 sh_15 cal_X4_levelsLeft lk_X11_228 ⟨Nat.le_of_ble_eq_true rfl, Nat.le_of_ble_eq_true rfl⟩ ⟨Nat.le_of_ble_eq_true rfl, Nat.le_of_ble_eq_true rfl⟩ (Nat.le_of_ble_eq_true rfl) ?_
  exact cc2
theorem e_X11_settleCell {G : mG} {Q : mM → Prop} {μ : mM} {x1 : Int32} {x2 : Int32} (k : ∀ E, Cx G mX11_settleCell E → Wm G mX11_settleCell E (bm G mX11_settleCell E (pV Q)) μ 0 [(0, .ref (gb G + 0)), (1, .int x1), (2, .int x2)] []) : CtV G mX11_settleCell [.ref (gb G + 0), .int x1, .int x2] μ Q := CtV.of pn_X11 (Nat.le_of_ble_eq_true rfl) k
set_option maxRecDepth 4000 in
theorem k_X11_settleCell_25 {G : mG} {E : mE} {B : mB} {μ : mM} (C : Cx G mX11_settleCell E) {x1 : Int32} {x2 : Int32} {x3 : Int32} {sx0 : Int32} (kk1 : Wm G mX11_settleCell E B μ 36 [(0, .ref (gb G + 0)), (1, .int x1), (2, .int x2), (3, .int x3), (4, .int sx0), (5, .int x3), (6, .int (-1)), (7, .int 0)] []) : Wm G mX11_settleCell E B μ 25 [(0, .ref (gb G + 0)), (1, .int x1), (2, .int x2), (3, .int x3)] [.int sx0] := by
  refine L_istore C dX11_settleCell_25 (Nat.le_of_ble_eq_true rfl) ?_
  refine L_iload_n C (i := 3) dX11_settleCell_27 rfl rfl ?_
  refine L_istore C dX11_settleCell_28 (Nat.le_of_ble_eq_true rfl) ?_
  refine L_iconst C (v := (-1)) dX11_settleCell_30 rfl ?_
  refine L_istore C dX11_settleCell_31 (Nat.le_of_ble_eq_true rfl) ?_
  refine L_iconst C (v := 0) dX11_settleCell_33 rfl ?_
  refine L_istore C dX11_settleCell_34 (Nat.le_of_ble_eq_true rfl) ?_
  exact kk1
set_option maxRecDepth 4000 in
theorem k_X11_settleCell_36 {G : mG} {E : mE} {Q : mM → Prop} {μ : mM} (C : Cx G mX11_settleCell E) {x1 : Int32} {x2 : Int32} {x3 : Int32} {x4 : Int32} {x5 : Int32} {x6 : Int32} {x7 : Int32} (cc1 : 4 ≤ x7 → CtV G mX2_change [.ref (gb G + 22), .int x3, .int x5] μ (fun μ' => Wm G mX11_settleCell E (bm G mX11_settleCell E (pV Q)) μ' 106 [(0, .ref (gb G + 0)), (1, .int x1), (5, .int x5)] [])) (kk2 : ¬ 4 ≤ x7 → (x4 &&& ((1 : Int32) <<< (x7 &&& 31))) = 0 → Wm G mX11_settleCell E (bm G mX11_settleCell E (pV Q)) μ 36 [(0, .ref (gb G + 0)), (1, .int x1), (2, .int x2), (3, .int x3), (4, .int x4), (5, .int x5), (6, .int x6), (7, .int (x7 + (1 : Int32)))] []) (cc3 : ¬ 4 ≤ x7 → ¬ (x4 &&& ((1 : Int32) <<< (x7 &&& 31))) = 0 → CtI G mX2_openIn [.ref (gb G + 22), .int (x3 ||| ((1 : Int32) <<< ((((4 : Int32) * x2) + x7) &&& 31)))] μ (fun r μ' => Wm G mX11_settleCell E (bm G mX11_settleCell E (pV Q)) μ' 73 [(0, .ref (gb G + 0)), (1, .int x1), (2, .int x2), (3, .int x3), (4, .int x4), (5, .int x5), (6, .int x6), (7, .int x7), (8, .int (x3 ||| ((1 : Int32) <<< ((((4 : Int32) * x2) + x7) &&& 31))))] [.int r])) : Wm G mX11_settleCell E (bm G mX11_settleCell E (pV Q)) μ 36 [(0, .ref (gb G + 0)), (1, .int x1), (2, .int x2), (3, .int x3), (4, .int x4), (5, .int x5), (6, .int x6), (7, .int x7)] [] := by
  refine L_iload C dX11_settleCell_36 rfl ?_
  refine L_iconst C (v := 4) dX11_settleCell_38 rfl ?_
  refine L_icmp_ge C (tgt := 96) dX11_settleCell_39 rfl (fun p1 => ?_) (fun p1 => ?_)
  · refine L_aload_n C (i := 0) dX11_settleCell_96 rfl rfl ?_
    refine L_getC C (c' := 22) dX11_settleCell_97 sh_0 fl_X11_33 rfl rfl ?_
    refine L_iload_n C (i := 3) dX11_settleCell_100 rfl rfl ?_
    refine L_iload C dX11_settleCell_101 rfl ?_
    refine L_sub [0, 1, 5] rfl ?_
    refine L_invV2v C dX11_settleCell_103 sh_22 cal_X2_change lk_X11_158 ⟨Nat.le_of_ble_eq_true rfl, Nat.le_of_ble_eq_true rfl⟩ ⟨Nat.le_of_ble_eq_true rfl, Nat.le_of_ble_eq_true rfl⟩ (Nat.le_of_ble_eq_true rfl) ?_
    exact cc1 p1
  · refine L_iload C dX11_settleCell_42 rfl ?_
    refine L_iconst C (v := 1) dX11_settleCell_44 rfl ?_
    refine L_iload C dX11_settleCell_45 rfl ?_
    refine L_ishl C dX11_settleCell_47 ?_
    refine L_iand C dX11_settleCell_48 ?_
    refine L_if_eq C (tgt := 90) dX11_settleCell_49 rfl (fun p2 => ?_) (fun p2 => ?_)
    · refine L_iinc C (v := 1) dX11_settleCell_90 rfl rfl (Nat.le_of_ble_eq_true rfl) ?_
      refine L_goto C (tgt := 36) dX11_settleCell_93 rfl ?_
      exact kk2 p1 p2
    · refine L_iload_n C (i := 3) dX11_settleCell_52 rfl rfl ?_
      refine L_iconst C (v := 1) dX11_settleCell_53 rfl ?_
      refine L_iconst C (v := 4) dX11_settleCell_54 rfl ?_
      refine L_iload_n C (i := 2) dX11_settleCell_55 rfl rfl ?_
      refine L_imul C dX11_settleCell_56 ?_
      refine L_iload C dX11_settleCell_57 rfl ?_
      refine L_iadd C dX11_settleCell_59 ?_
      refine L_ishl C dX11_settleCell_60 ?_
      refine L_ior C dX11_settleCell_61 ?_
      refine L_istore C dX11_settleCell_62 (Nat.le_of_ble_eq_true rfl) ?_
      refine L_aload_n C (i := 0) dX11_settleCell_64 rfl rfl ?_
      refine L_getC C (c' := 22) dX11_settleCell_65 sh_0 fl_X11_33 rfl rfl ?_
      refine L_iload C dX11_settleCell_68 rfl ?_
      refine L_invV1i C dX11_settleCell_70 sh_22 cal_X2_openIn lk_X11_303 ⟨Nat.le_of_ble_eq_true rfl, Nat.le_of_ble_eq_true rfl⟩ ⟨Nat.le_of_ble_eq_true rfl, Nat.le_of_ble_eq_true rfl⟩ (Nat.le_of_ble_eq_true rfl) ?_
      exact cc3 p1 p2
set_option maxRecDepth 4000 in
theorem k_X11_settleCell_73 {G : mG} {E : mE} {B : mB} {μ : mM} (C : Cx G mX11_settleCell E) {x1 : Int32} {x2 : Int32} {x3 : Int32} {x4 : Int32} {x5 : Int32} {x6 : Int32} {x7 : Int32} {x8 : Int32} {sx0 : Int32} (kk1 : sx0 ≤ x6 → Wm G mX11_settleCell E B μ 36 [(0, .ref (gb G + 0)), (1, .int x1), (2, .int x2), (3, .int x3), (4, .int x4), (5, .int x5), (6, .int x6), (7, .int (x7 + (1 : Int32)))] []) (kk2 : ¬ sx0 ≤ x6 → Wm G mX11_settleCell E B μ 36 [(0, .ref (gb G + 0)), (1, .int x1), (2, .int x2), (3, .int x3), (4, .int x4), (5, .int x8), (6, .int sx0), (7, .int (x7 + (1 : Int32)))] []) : Wm G mX11_settleCell E B μ 73 [(0, .ref (gb G + 0)), (1, .int x1), (2, .int x2), (3, .int x3), (4, .int x4), (5, .int x5), (6, .int x6), (7, .int x7), (8, .int x8)] [.int sx0] := by
  refine L_istore C dX11_settleCell_73 (Nat.le_of_ble_eq_true rfl) ?_
  refine L_iload C dX11_settleCell_75 rfl ?_
  refine L_iload C dX11_settleCell_77 rfl ?_
  refine L_icmp_le C (tgt := 90) dX11_settleCell_79 rfl (fun p1 => ?_) (fun p1 => ?_)
  · refine L_iinc C (v := 1) dX11_settleCell_90 rfl rfl (Nat.le_of_ble_eq_true rfl) ?_
    refine L_goto C (tgt := 36) dX11_settleCell_93 rfl ?_
    refine L_sub [0, 1, 2, 3, 4, 5, 6, 7] rfl ?_
    exact kk1 p1
  · refine L_iload C dX11_settleCell_82 rfl ?_
    refine L_istore C dX11_settleCell_84 (Nat.le_of_ble_eq_true rfl) ?_
    refine L_iload C dX11_settleCell_86 rfl ?_
    refine L_istore C dX11_settleCell_88 (Nat.le_of_ble_eq_true rfl) ?_
    refine L_iinc C (v := 1) dX11_settleCell_90 rfl rfl (Nat.le_of_ble_eq_true rfl) ?_
    refine L_goto C (tgt := 36) dX11_settleCell_93 rfl ?_
    refine L_sub [0, 1, 2, 3, 4, 5, 6, 7] rfl ?_
    exact kk2 p1
set_option maxRecDepth 4000 in
theorem k_X11_settleCell_106 {G : mG} {E : mE} {Q : mM → Prop} {μ : mM} (C : Cx G mX11_settleCell E) {x1 : Int32} {x5 : Int32} (ss1 : vp_in x1 64) (rr2 : Q (ms μ 20 x1.toNatClampNeg x5)) : Wm G mX11_settleCell E (bm G mX11_settleCell E (pV Q)) μ 106 [(0, .ref (gb G + 0)), (1, .int x1), (5, .int x5)] [] := by
  refine L_aload_n C (i := 0) dX11_settleCell_106 rfl rfl ?_
  refine L_getC C (c' := 14) dX11_settleCell_107 sh_0 fl_X11_26 rfl rfl ?_
  refine L_getC C (c' := 19) dX11_settleCell_110 sh_14 fl_X11_90 rfl rfl ?_
  refine L_getC C (c' := 20) dX11_settleCell_113 sh_19 fl_X11_152 rfl rfl ?_
  refine L_iload_n C (i := 1) dX11_settleCell_116 rfl rfl ?_
  refine L_iload C dX11_settleCell_117 rfl ?_
  refine L_iast C dX11_settleCell_119 sh_20 (ss1) ?_
  exact L_irV C dX11_settleCell_120 rfl (rr2)
set_option maxRecDepth 4000 in
theorem k_X11_settle_0 {G : mG} {E : mE} {Q : Int32 → mM → Prop} {μ : mM} (C : Cx G mX11_settle E)  (rr1 : (μ 15 0) ≤ 0 → Q (-1) μ) (cc2 : ¬ (μ 15 0) ≤ 0 → CtV G mX11_remember [.ref (gb G + 0)] μ (fun μ' => Wm G mX11_settle E (bm G mX11_settle E (pI Q)) μ' 13 [(0, .ref (gb G + 0))] [])) : Wm G mX11_settle E (bm G mX11_settle E (pI Q)) μ 0 [(0, .ref (gb G + 0))] [] := by
  refine L_aload_n C (i := 0) dX11_settle_0 rfl rfl ?_
  refine L_invV0i C dX11_settle_1 sh_0 cal_X11_hasPlan lk_X11_165 ⟨Nat.le_of_ble_eq_true rfl, Nat.le_of_ble_eq_true rfl⟩ ⟨Nat.le_of_ble_eq_true rfl, Nat.le_of_ble_eq_true rfl⟩ (Nat.le_of_ble_eq_true rfl) (a_X11_hasPlan (fun p1 => ?_) (fun p2 => ?_))
  · refine L_if_ne C (tgt := 9) dX11_settle_4 rfl (fun p3 => absurd p3 (by decide)) (fun p3 => ?_)
    refine L_iconst C (v := (-1)) dX11_settle_7 rfl ?_
    exact L_irI C dX11_settle_8 rfl (rr1 p1)
  · refine L_if_ne C (tgt := 9) dX11_settle_4 rfl (fun p4 => ?_) (fun p4 => absurd p4 (by decide))
    refine L_aload_n C (i := 0) dX11_settle_9 rfl rfl ?_
    refine L_invV0v C dX11_settle_10 sh_0 cal_X11_remember lk_X11_143 ⟨Nat.le_of_ble_eq_true rfl, Nat.le_of_ble_eq_true rfl⟩ ⟨Nat.le_of_ble_eq_true rfl, Nat.le_of_ble_eq_true rfl⟩ (Nat.le_of_ble_eq_true rfl) ?_
    exact cc2 p2
theorem e_X11_settle {G : mG} {Q : Int32 → mM → Prop} {μ : mM}  (k : ∀ E, Cx G mX11_settle E → Wm G mX11_settle E (bm G mX11_settle E (pI Q)) μ 0 [(0, .ref (gb G + 0))] []) : CtI G mX11_settle [.ref (gb G + 0)] μ Q := CtI.of pn_X11 (Nat.le_of_ble_eq_true rfl) k
set_option maxRecDepth 4000 in
theorem k_X11_settle_13 {G : mG} {E : mE} {B : mB} {μ : mM} (C : Cx G mX11_settle E)  (kk1 : Wm G mX11_settle E B μ 17 [(0, .ref (gb G + 0)), (1, .int 0), (2, .int 0)] []) : Wm G mX11_settle E B μ 13 [(0, .ref (gb G + 0))] [] := by
  refine L_iconst C (v := 0) dX11_settle_13 rfl ?_
  refine L_istore_n C (i := 1) dX11_settle_14 rfl (Nat.le_of_ble_eq_true rfl) ?_
  refine L_iconst C (v := 0) dX11_settle_15 rfl ?_
  refine L_istore_n C (i := 2) dX11_settle_16 rfl (Nat.le_of_ble_eq_true rfl) ?_
  exact kk1
set_option maxRecDepth 4000 in
theorem k_X11_settle_17 {G : mG} {E : mE} {Q : Int32 → mM → Prop} {μ : mM} (C : Cx G mX11_settle E) {x1 : Int32} {x2 : Int32} (rr1 : (μ 19 0) ≤ x2 → Q x1 μ) (kk2 : ¬ (μ 19 0) ≤ x2 → Wm G mX11_settle E (bm G mX11_settle E (pI Q)) μ 33 [(0, .ref (gb G + 0)), (1, .int x1), (2, .int x2), (3, .int 0)] []) : Wm G mX11_settle E (bm G mX11_settle E (pI Q)) μ 17 [(0, .ref (gb G + 0)), (1, .int x1), (2, .int x2)] [] := by
  refine L_iload_n C (i := 2) dX11_settle_17 rfl rfl ?_
  refine L_aload_n C (i := 0) dX11_settle_18 rfl rfl ?_
  refine L_getC C (c' := 14) dX11_settle_19 sh_0 fl_X11_26 rfl rfl ?_
  refine L_getC C (c' := 19) dX11_settle_22 sh_14 fl_X11_90 rfl rfl ?_
  refine L_getI C dX11_settle_25 sh_19 fl_X11_94 rfl ?_
  refine L_icmp_ge C (tgt := 88) dX11_settle_28 rfl (fun p1 => ?_) (fun p1 => ?_)
  · refine L_iload_n C (i := 1) dX11_settle_88 rfl rfl ?_
    exact L_irI C dX11_settle_89 rfl (rr1 p1)
  · refine L_iconst C (v := 0) dX11_settle_31 rfl ?_
    refine L_istore_n C (i := 3) dX11_settle_32 rfl (Nat.le_of_ble_eq_true rfl) ?_
    exact kk2 p1
set_option maxRecDepth 4000 in
theorem k_X11_settle_33 {G : mG} {E : mE} {Q : Int32 → mM → Prop} {μ : mM} (C : Cx G mX11_settle E) {x1 : Int32} {x2 : Int32} {x3 : Int32} (kk1 : (μ 15 0) ≤ x3 → Wm G mX11_settle E (bm G mX11_settle E (pI Q)) μ 17 [(0, .ref (gb G + 0)), (1, .int x1), (2, .int (x2 + (1 : Int32)))] []) (ss2 : ¬ (μ 15 0) ≤ x3 → vp_in x2 64) (kk3 : ¬ (μ 15 0) ≤ x3 → ¬ ((iush (μ 20 x2.toNatClampNeg) ((4 : Int32) * x3)) &&& (15 : Int32)) = 0 → ¬ ((((iush (μ 20 x2.toNatClampNeg) ((4 : Int32) * x3)) &&& (15 : Int32)) >>> ((1 : Int32) &&& 31)) - (((iush (μ 20 x2.toNatClampNeg) ((4 : Int32) * x3)) &&& (15 : Int32)) >>> ((3 : Int32) &&& 31))) = (-1) → Wm G mX11_settle E (bm G mX11_settle E (pI Q)) μ 33 [(0, .ref (gb G + 0)), (1, .int x1), (2, .int x2), (3, .int (x3 + (1 : Int32)))] []) (cc4 : ¬ (μ 15 0) ≤ x3 → ((¬ ((iush (μ 20 x2.toNatClampNeg) ((4 : Int32) * x3)) &&& (15 : Int32)) = 0 ∧ ((((iush (μ 20 x2.toNatClampNeg) ((4 : Int32) * x3)) &&& (15 : Int32)) >>> ((1 : Int32) &&& 31)) - (((iush (μ 20 x2.toNatClampNeg) ((4 : Int32) * x3)) &&& (15 : Int32)) >>> ((3 : Int32) &&& 31))) = (-1)) ∨ ((iush (μ 20 x2.toNatClampNeg) ((4 : Int32) * x3)) &&& (15 : Int32)) = 0) → CtV G mX11_settleCell [.ref (gb G + 0), .int x2, .int x3] μ (fun μ' => Wm G mX11_settle E (bm G mX11_settle E (pI Q)) μ' 73 [(0, .ref (gb G + 0)), (1, .int x1), (2, .int x2), (3, .int x3)] [])) : Wm G mX11_settle E (bm G mX11_settle E (pI Q)) μ 33 [(0, .ref (gb G + 0)), (1, .int x1), (2, .int x2), (3, .int x3)] [] := by
  refine L_iload_n C (i := 3) dX11_settle_33 rfl rfl ?_
  refine L_aload_n C (i := 0) dX11_settle_34 rfl rfl ?_
  refine L_getC C (c' := 14) dX11_settle_35 sh_0 fl_X11_26 rfl rfl ?_
  refine L_getC C (c' := 15) dX11_settle_38 sh_14 fl_X11_77 rfl rfl ?_
  refine L_getI C dX11_settle_41 sh_15 fl_X11_208 rfl ?_
  refine L_icmp_ge C (tgt := 82) dX11_settle_44 rfl (fun p1 => ?_) (fun p1 => ?_)
  · refine L_iinc C (v := 1) dX11_settle_82 rfl rfl (Nat.le_of_ble_eq_true rfl) ?_
    refine L_goto C (tgt := 17) dX11_settle_85 rfl ?_
    refine L_sub [0, 1, 2] rfl ?_
    exact kk1 p1
  · refine L_aload_n C (i := 0) dX11_settle_47 rfl rfl ?_
    refine L_getC C (c' := 14) dX11_settle_48 sh_0 fl_X11_26 rfl rfl ?_
    refine L_getC C (c' := 19) dX11_settle_51 sh_14 fl_X11_90 rfl rfl ?_
    refine L_getC C (c' := 20) dX11_settle_54 sh_19 fl_X11_152 rfl rfl ?_
    refine L_iload_n C (i := 2) dX11_settle_57 rfl rfl ?_
    refine L_iald C dX11_settle_58 sh_20 (ss2 p1) ?_
    refine L_iload_n C (i := 3) dX11_settle_59 rfl rfl ?_
    refine L_invS2i C dX11_settle_60 cal_X11_levelIn stc_X11_levelIn lk_X11_155 ⟨Nat.le_of_ble_eq_true rfl, Nat.le_of_ble_eq_true rfl⟩ ⟨Nat.le_of_ble_eq_true rfl, Nat.le_of_ble_eq_true rfl⟩ (Nat.le_of_ble_eq_true rfl) (a_X11_levelIn (fun p2 => ?_) (fun p3 => ?_))
    · refine L_iconst C (v := (-1)) dX11_settle_63 rfl ?_
      refine L_icmp_ne C (tgt := 76) dX11_settle_64 rfl (fun p4 => ?_) (fun p4 => ?_)
      · refine L_iinc C (v := 1) dX11_settle_76 rfl rfl (Nat.le_of_ble_eq_true rfl) ?_
        refine L_goto C (tgt := 33) dX11_settle_79 rfl ?_
        exact kk3 p1 p2 p4
      · refine L_aload_n C (i := 0) dX11_settle_67 rfl rfl ?_
        refine L_iload_n C (i := 2) dX11_settle_68 rfl rfl ?_
        refine L_iload_n C (i := 3) dX11_settle_69 rfl rfl ?_
        refine L_invV2v C dX11_settle_70 sh_0 cal_X11_settleCell lk_X11_218 ⟨Nat.le_of_ble_eq_true rfl, Nat.le_of_ble_eq_true rfl⟩ ⟨Nat.le_of_ble_eq_true rfl, Nat.le_of_ble_eq_true rfl⟩ (Nat.le_of_ble_eq_true rfl) ?_
        exact cc4 p1 (Or.inl ⟨p2, p4⟩)
    · refine L_iconst C (v := (-1)) dX11_settle_63 rfl ?_
      refine L_icmp_ne C (tgt := 76) dX11_settle_64 rfl (fun p5 => absurd p5 (by decide)) (fun p5 => ?_)
      refine L_aload_n C (i := 0) dX11_settle_67 rfl rfl ?_
      refine L_iload_n C (i := 2) dX11_settle_68 rfl rfl ?_
      refine L_iload_n C (i := 3) dX11_settle_69 rfl rfl ?_
      refine L_invV2v C dX11_settle_70 sh_0 cal_X11_settleCell lk_X11_218 ⟨Nat.le_of_ble_eq_true rfl, Nat.le_of_ble_eq_true rfl⟩ ⟨Nat.le_of_ble_eq_true rfl, Nat.le_of_ble_eq_true rfl⟩ (Nat.le_of_ble_eq_true rfl) ?_
      exact cc4 p1 (Or.inr p3)
set_option maxRecDepth 4000 in
theorem k_X11_settle_73 {G : mG} {E : mE} {B : mB} {μ : mM} (C : Cx G mX11_settle E) {x1 : Int32} {x2 : Int32} {x3 : Int32} (kk1 : Wm G mX11_settle E B μ 33 [(0, .ref (gb G + 0)), (1, .int (x1 + (1 : Int32))), (2, .int x2), (3, .int (x3 + (1 : Int32)))] []) : Wm G mX11_settle E B μ 73 [(0, .ref (gb G + 0)), (1, .int x1), (2, .int x2), (3, .int x3)] [] := by
  refine L_iinc C (v := 1) dX11_settle_73 rfl rfl (Nat.le_of_ble_eq_true rfl) ?_
  refine L_iinc C (v := 1) dX11_settle_76 rfl rfl (Nat.le_of_ble_eq_true rfl) ?_
  refine L_goto C (tgt := 33) dX11_settle_79 rfl ?_
  exact kk1
set_option maxRecDepth 4000 in
theorem k_X2_hadBesides_0 {G : mG} {E : mE} {B : mB} {μ : mM} (C : Cx G mX2_hadBesides E) {x1 : Int32} (kk1 : Wm G mX2_hadBesides E B μ 2 [(0, .ref (gb G + 22)), (1, .int x1), (2, .int 0)] []) : Wm G mX2_hadBesides E B μ 0 [(0, .ref (gb G + 22)), (1, .int x1)] [] := by
  refine L_iconst C (v := 0) dX2_hadBesides_0 rfl ?_
  refine L_istore_n C (i := 2) dX2_hadBesides_1 rfl (Nat.le_of_ble_eq_true rfl) ?_
  exact kk1
theorem e_X2_hadBesides {G : mG} {Q : Int32 → mM → Prop} {μ : mM} {x1 : Int32} (k : ∀ E, Cx G mX2_hadBesides E → Wm G mX2_hadBesides E (bm G mX2_hadBesides E (pI Q)) μ 0 [(0, .ref (gb G + 22)), (1, .int x1)] []) : CtI G mX2_hadBesides [.ref (gb G + 22), .int x1] μ Q := CtI.of pn_X2 (Nat.le_of_ble_eq_true rfl) k
set_option maxRecDepth 4000 in
theorem k_X2_hadBesides_2 {G : mG} {E : mE} {Q : Int32 → mM → Prop} {μ : mM} (C : Cx G mX2_hadBesides E) {x1 : Int32} {x2 : Int32} (rr1 : (μ 23 0) ≤ x2 → Q 1 μ) (cc2 : ¬ (μ 23 0) ≤ x2 → CtI G mX0_numberIn [.ref (gb G + 23), .int x2, .int x1] μ (fun r μ' => Wm G mX2_hadBesides E (bm G mX2_hadBesides E (pI Q)) μ' 22 [(0, .ref (gb G + 22)), (1, .int x1), (2, .int x2)] [.int r])) : Wm G mX2_hadBesides E (bm G mX2_hadBesides E (pI Q)) μ 2 [(0, .ref (gb G + 22)), (1, .int x1), (2, .int x2)] [] := by
  refine L_iload_n C (i := 2) dX2_hadBesides_2 rfl rfl ?_
  refine L_aload_n C (i := 0) dX2_hadBesides_3 rfl rfl ?_
  refine L_getC C (c' := 23) dX2_hadBesides_4 sh_22 fl_X2_12 rfl rfl ?_
  refine L_getI C dX2_hadBesides_7 sh_23 fl_X2_31 rfl ?_
  refine L_icmp_ge C (tgt := 46) dX2_hadBesides_10 rfl (fun p1 => ?_) (fun p1 => ?_)
  · refine L_iconst C (v := 1) dX2_hadBesides_46 rfl ?_
    exact L_irZ C dX2_hadBesides_47 rfl (by decide) (rr1 p1)
  · refine L_aload_n C (i := 0) dX2_hadBesides_13 rfl rfl ?_
    refine L_getC C (c' := 23) dX2_hadBesides_14 sh_22 fl_X2_12 rfl rfl ?_
    refine L_iload_n C (i := 2) dX2_hadBesides_17 rfl rfl ?_
    refine L_iload_n C (i := 1) dX2_hadBesides_18 rfl rfl ?_
    refine L_invV2i C dX2_hadBesides_19 sh_23 cal_X0_numberIn lk_X2_101 ⟨Nat.le_of_ble_eq_true rfl, Nat.le_of_ble_eq_true rfl⟩ ⟨Nat.le_of_ble_eq_true rfl, Nat.le_of_ble_eq_true rfl⟩ (Nat.le_of_ble_eq_true rfl) ?_
    exact cc2 p1
set_option maxRecDepth 4000 in
theorem k_X2_hadBesides_22 {G : mG} {E : mE} {Q : Int32 → mM → Prop} {μ : mM} (C : Cx G mX2_hadBesides E) {x1 : Int32} {x2 : Int32} {sx0 : Int32} (kk1 : (sx0 = (-1) ∨ (¬ sx0 = (-1) ∧ 2 ≤ (μ 30 sx0.toNatClampNeg))) → Wm G mX2_hadBesides E (bm G mX2_hadBesides E (pI Q)) μ 2 [(0, .ref (gb G + 22)), (1, .int x1), (2, .int (x2 + (1 : Int32)))] []) (ss2 : ¬ sx0 = (-1) → vp_in sx0 1200) (rr3 : ¬ sx0 = (-1) → ¬ 2 ≤ (μ 30 sx0.toNatClampNeg) → Q 0 μ) : Wm G mX2_hadBesides E (bm G mX2_hadBesides E (pI Q)) μ 22 [(0, .ref (gb G + 22)), (1, .int x1), (2, .int x2)] [.int sx0] := by
  refine L_istore_n C (i := 3) dX2_hadBesides_22 rfl (Nat.le_of_ble_eq_true rfl) ?_
  refine L_iload_n C (i := 3) dX2_hadBesides_23 rfl rfl ?_
  refine L_iconst C (v := (-1)) dX2_hadBesides_24 rfl ?_
  refine L_icmp_eq C (tgt := 40) dX2_hadBesides_25 rfl (fun p1 => ?_) (fun p1 => ?_)
  · refine L_iinc C (v := 1) dX2_hadBesides_40 rfl rfl (Nat.le_of_ble_eq_true rfl) ?_
    refine L_goto C (tgt := 2) dX2_hadBesides_43 rfl ?_
    refine L_sub [0, 1, 2] rfl ?_
    exact kk1 (Or.inl p1)
  · refine L_aload_n C (i := 0) dX2_hadBesides_28 rfl rfl ?_
    refine L_getC C (c' := 30) dX2_hadBesides_29 sh_22 fl_X2_25 rfl rfl ?_
    refine L_iload_n C (i := 3) dX2_hadBesides_32 rfl rfl ?_
    refine L_iald C dX2_hadBesides_33 sh_30 (ss2 p1) ?_
    refine L_iconst C (v := 2) dX2_hadBesides_34 rfl ?_
    refine L_icmp_ge C (tgt := 40) dX2_hadBesides_35 rfl (fun p2 => ?_) (fun p2 => ?_)
    · refine L_iinc C (v := 1) dX2_hadBesides_40 rfl rfl (Nat.le_of_ble_eq_true rfl) ?_
      refine L_goto C (tgt := 2) dX2_hadBesides_43 rfl ?_
      refine L_sub [0, 1, 2] rfl ?_
      exact kk1 (Or.inr ⟨p1, p2⟩)
    · refine L_iconst C (v := 0) dX2_hadBesides_38 rfl ?_
      exact L_irZ C dX2_hadBesides_39 rfl (by decide) (rr3 p1 p2)
set_option maxRecDepth 4000 in
theorem k_X11_thin_0 {G : mG} {E : mE} {Q : Int32 → mM → Prop} {μ : mM} (C : Cx G mX11_thin E)  (rr1 : (μ 15 0) ≤ 0 → Q (-1) μ) (cc2 : ¬ (μ 15 0) ≤ 0 → CtV G mX11_remember [.ref (gb G + 0)] μ (fun μ' => Wm G mX11_thin E (bm G mX11_thin E (pI Q)) μ' 13 [(0, .ref (gb G + 0))] [])) : Wm G mX11_thin E (bm G mX11_thin E (pI Q)) μ 0 [(0, .ref (gb G + 0))] [] := by
  refine L_aload_n C (i := 0) dX11_thin_0 rfl rfl ?_
  refine L_invV0i C dX11_thin_1 sh_0 cal_X11_hasPlan lk_X11_165 ⟨Nat.le_of_ble_eq_true rfl, Nat.le_of_ble_eq_true rfl⟩ ⟨Nat.le_of_ble_eq_true rfl, Nat.le_of_ble_eq_true rfl⟩ (Nat.le_of_ble_eq_true rfl) (a_X11_hasPlan (fun p1 => ?_) (fun p2 => ?_))
  · refine L_if_ne C (tgt := 9) dX11_thin_4 rfl (fun p3 => absurd p3 (by decide)) (fun p3 => ?_)
    refine L_iconst C (v := (-1)) dX11_thin_7 rfl ?_
    exact L_irI C dX11_thin_8 rfl (rr1 p1)
  · refine L_if_ne C (tgt := 9) dX11_thin_4 rfl (fun p4 => ?_) (fun p4 => absurd p4 (by decide))
    refine L_aload_n C (i := 0) dX11_thin_9 rfl rfl ?_
    refine L_invV0v C dX11_thin_10 sh_0 cal_X11_remember lk_X11_143 ⟨Nat.le_of_ble_eq_true rfl, Nat.le_of_ble_eq_true rfl⟩ ⟨Nat.le_of_ble_eq_true rfl, Nat.le_of_ble_eq_true rfl⟩ (Nat.le_of_ble_eq_true rfl) ?_
    exact cc2 p2
theorem e_X11_thin {G : mG} {Q : Int32 → mM → Prop} {μ : mM}  (k : ∀ E, Cx G mX11_thin E → Wm G mX11_thin E (bm G mX11_thin E (pI Q)) μ 0 [(0, .ref (gb G + 0))] []) : CtI G mX11_thin [.ref (gb G + 0)] μ Q := CtI.of pn_X11 (Nat.le_of_ble_eq_true rfl) k
set_option maxRecDepth 4000 in
theorem k_X11_thin_13 {G : mG} {E : mE} {B : mB} {μ : mM} (C : Cx G mX11_thin E)  (kk1 : Wm G mX11_thin E B μ 28 [(0, .ref (gb G + 0)), (1, .int (μ 19 0)), (2, .int ((μ 19 0) - (1 : Int32)))] []) : Wm G mX11_thin E B μ 13 [(0, .ref (gb G + 0))] [] := by
  refine L_aload_n C (i := 0) dX11_thin_13 rfl rfl ?_
  refine L_getC C (c' := 14) dX11_thin_14 sh_0 fl_X11_26 rfl rfl ?_
  refine L_getC C (c' := 19) dX11_thin_17 sh_14 fl_X11_90 rfl rfl ?_
  refine L_getI C dX11_thin_20 sh_19 fl_X11_94 rfl ?_
  refine L_istore_n C (i := 1) dX11_thin_23 rfl (Nat.le_of_ble_eq_true rfl) ?_
  refine L_iload_n C (i := 1) dX11_thin_24 rfl rfl ?_
  refine L_iconst C (v := 1) dX11_thin_25 rfl ?_
  refine L_isub C dX11_thin_26 ?_
  refine L_istore_n C (i := 2) dX11_thin_27 rfl (Nat.le_of_ble_eq_true rfl) ?_
  exact kk1
set_option maxRecDepth 4000 in
theorem k_X11_thin_28 {G : mG} {E : mE} {Q : Int32 → mM → Prop} {μ : mM} (C : Cx G mX11_thin E) {x1 : Int32} {x2 : Int32} (rr1 : x2 < 0 → Q (x1 - (μ 19 0)) μ) (ss2 : ¬ x2 < 0 → vp_in x2 64) (cc3 : ¬ x2 < 0 → CtI G mX2_hadBesides [.ref (gb G + 22), .int (μ 20 x2.toNatClampNeg)] μ (fun r μ' => Wm G mX11_thin E (bm G mX11_thin E (pI Q)) μ' 51 [(0, .ref (gb G + 0)), (1, .int x1), (2, .int x2)] [.int r])) : Wm G mX11_thin E (bm G mX11_thin E (pI Q)) μ 28 [(0, .ref (gb G + 0)), (1, .int x1), (2, .int x2)] [] := by
  refine L_iload_n C (i := 2) dX11_thin_28 rfl rfl ?_
  refine L_if_lt C (tgt := 65) dX11_thin_29 rfl (fun p1 => ?_) (fun p1 => ?_)
  · refine L_iload_n C (i := 1) dX11_thin_65 rfl rfl ?_
    refine L_aload_n C (i := 0) dX11_thin_66 rfl rfl ?_
    refine L_getC C (c' := 14) dX11_thin_67 sh_0 fl_X11_26 rfl rfl ?_
    refine L_getC C (c' := 19) dX11_thin_70 sh_14 fl_X11_90 rfl rfl ?_
    refine L_getI C dX11_thin_73 sh_19 fl_X11_94 rfl ?_
    refine L_isub C dX11_thin_76 ?_
    exact L_irI C dX11_thin_77 rfl (rr1 p1)
  · refine L_aload_n C (i := 0) dX11_thin_32 rfl rfl ?_
    refine L_getC C (c' := 22) dX11_thin_33 sh_0 fl_X11_33 rfl rfl ?_
    refine L_aload_n C (i := 0) dX11_thin_36 rfl rfl ?_
    refine L_getC C (c' := 14) dX11_thin_37 sh_0 fl_X11_26 rfl rfl ?_
    refine L_getC C (c' := 19) dX11_thin_40 sh_14 fl_X11_90 rfl rfl ?_
    refine L_getC C (c' := 20) dX11_thin_43 sh_19 fl_X11_152 rfl rfl ?_
    refine L_iload_n C (i := 2) dX11_thin_46 rfl rfl ?_
    refine L_iald C dX11_thin_47 sh_20 (ss2 p1) ?_
    refine L_invV1i C dX11_thin_48 sh_22 cal_X2_hadBesides lk_X11_221 ⟨Nat.le_of_ble_eq_true rfl, Nat.le_of_ble_eq_true rfl⟩ ⟨Nat.le_of_ble_eq_true rfl, Nat.le_of_ble_eq_true rfl⟩ (Nat.le_of_ble_eq_true rfl) ?_
    exact cc3 p1
set_option maxRecDepth 4000 in
theorem k_X11_thin_51 {G : mG} {E : mE} {Q : Int32 → mM → Prop} {μ : mM} (C : Cx G mX11_thin E) {x1 : Int32} {x2 : Int32} {sx0 : Int32} (kk1 : sx0 = 0 → Wm G mX11_thin E (bm G mX11_thin E (pI Q)) μ 59 [(0, .ref (gb G + 0)), (1, .int x1), (2, .int x2)] []) (cc2 : ¬ sx0 = 0 → CtV G mX11_takeAway [.ref (gb G + 0), .int x2] μ (fun μ' => Wm G mX11_thin E (bm G mX11_thin E (pI Q)) μ' 59 [(0, .ref (gb G + 0)), (1, .int x1), (2, .int x2)] [])) : Wm G mX11_thin E (bm G mX11_thin E (pI Q)) μ 51 [(0, .ref (gb G + 0)), (1, .int x1), (2, .int x2)] [.int sx0] := by
  refine L_if_eq C (tgt := 59) dX11_thin_51 rfl (fun p1 => ?_) (fun p1 => ?_)
  · exact kk1 p1
  · refine L_aload_n C (i := 0) dX11_thin_54 rfl rfl ?_
    refine L_iload_n C (i := 2) dX11_thin_55 rfl rfl ?_
    refine L_invV1v C dX11_thin_56 sh_0 cal_X11_takeAway lk_X11_162 ⟨Nat.le_of_ble_eq_true rfl, Nat.le_of_ble_eq_true rfl⟩ ⟨Nat.le_of_ble_eq_true rfl, Nat.le_of_ble_eq_true rfl⟩ (Nat.le_of_ble_eq_true rfl) ?_
    exact cc2 p1
set_option maxRecDepth 4000 in
theorem k_X11_thin_59 {G : mG} {E : mE} {B : mB} {μ : mM} (C : Cx G mX11_thin E) {x1 : Int32} {x2 : Int32} (kk1 : Wm G mX11_thin E B μ 28 [(0, .ref (gb G + 0)), (1, .int x1), (2, .int (x2 + ((-1) : Int32)))] []) : Wm G mX11_thin E B μ 59 [(0, .ref (gb G + 0)), (1, .int x1), (2, .int x2)] [] := by
  refine L_iinc C (v := (-1)) dX11_thin_59 rfl rfl (Nat.le_of_ble_eq_true rfl) ?_
  refine L_goto C (tgt := 28) dX11_thin_62 rfl ?_
  exact kk1
set_option maxRecDepth 4000 in
theorem k_X3_start_0 {G : mG} {E : mE} {Q : mM → Prop} {μ : mM} (C : Cx G mX3_start E) {c1 : Nat} (h1 : sh c1 = (0, 6)) (ss1 : vp_in (μ 23 0) 57) (kk2 : Wm G mX3_start E (bm G mX3_start E (pV Q)) (ms μ 37 0 0) 16 [(0, .ref (gb G + 36)), (1, .ref (gb G + c1)), (2, .ref (gb G + 22)), (3, .int (if 1200 < (μ 25 (μ 23 0).toNatClampNeg) then 1200 else (μ 25 (μ 23 0).toNatClampNeg))), (4, .int 0)] []) : Wm G mX3_start E (bm G mX3_start E (pV Q)) μ 0 [(0, .ref (gb G + 36)), (1, .ref (gb G + c1)), (2, .ref (gb G + 22))] [] := by
  refine L_aload_n C (i := 0) dX3_start_0 rfl rfl ?_
  refine L_getC C (c' := 37) dX3_start_1 sh_36 fl_X3_12 rfl rfl ?_
  refine L_iconst C (v := 0) dX3_start_4 rfl ?_
  refine L_putI C dX3_start_5 sh_37 fl_X3_30 rfl rfl rfl ?_
  refine L_aload_n C (i := 2) dX3_start_8 rfl rfl ?_
  refine L_invV0i C dX3_start_9 sh_22 cal_X2_size lk_X3_56 ⟨Nat.le_of_ble_eq_true rfl, Nat.le_of_ble_eq_true rfl⟩ ⟨Nat.le_of_ble_eq_true rfl, Nat.le_of_ble_eq_true rfl⟩ (Nat.le_of_ble_eq_true rfl) (a_X2_size (ss1) (?_))
  · refine L_istore_n C (i := 3) dX3_start_12 rfl (Nat.le_of_ble_eq_true rfl) ?_
    refine L_iconst C (v := 0) dX3_start_13 rfl ?_
    refine L_istore C dX3_start_14 (Nat.le_of_ble_eq_true rfl) ?_
    exact kk2
theorem e_X3_start {G : mG} {Q : mM → Prop} {μ : mM} {c1 : Nat} (h1 : sh c1 = (0, 6)) (k : ∀ E, Cx G mX3_start E → Wm G mX3_start E (bm G mX3_start E (pV Q)) μ 0 [(0, .ref (gb G + 36)), (1, .ref (gb G + c1)), (2, .ref (gb G + 22))] []) : CtV G mX3_start [.ref (gb G + 36), .ref (gb G + c1), .ref (gb G + 22)] μ Q := CtV.of pn_X3 (Nat.le_of_ble_eq_true rfl) k
set_option maxRecDepth 4000 in
theorem k_X3_start_16 {G : mG} {E : mE} {B : mB} {μ : mM} (C : Cx G mX3_start E) {c1 : Nat} (h1 : sh c1 = (0, 6)) {x3 : Int32} {x4 : Int32} (kk1 : x3 ≤ x4 → Wm G mX3_start E B μ 39 [(0, .ref (gb G + 36)), (1, .ref (gb G + c1)), (2, .ref (gb G + 22)), (4, .int 0)] []) (ss2 : ¬ x3 ≤ x4 → vp_in x4 1200) (kk3 : ¬ x3 ≤ x4 → Wm G mX3_start E B (ms μ 41 x4.toNatClampNeg 0) 16 [(0, .ref (gb G + 36)), (1, .ref (gb G + c1)), (2, .ref (gb G + 22)), (3, .int x3), (4, .int (x4 + (1 : Int32)))] []) : Wm G mX3_start E B μ 16 [(0, .ref (gb G + 36)), (1, .ref (gb G + c1)), (2, .ref (gb G + 22)), (3, .int x3), (4, .int x4)] [] := by
  refine L_iload C dX3_start_16 rfl ?_
  refine L_iload_n C (i := 3) dX3_start_18 rfl rfl ?_
  refine L_icmp_ge C (tgt := 36) dX3_start_19 rfl (fun p1 => ?_) (fun p1 => ?_)
  · refine L_iconst C (v := 0) dX3_start_36 rfl ?_
    refine L_istore C dX3_start_37 (Nat.le_of_ble_eq_true rfl) ?_
    refine L_sub [0, 1, 2, 4] rfl ?_
    exact kk1 p1
  · refine L_aload_n C (i := 0) dX3_start_22 rfl rfl ?_
    refine L_getC C (c' := 41) dX3_start_23 sh_36 fl_X3_22 rfl rfl ?_
    refine L_iload C dX3_start_26 rfl ?_
    refine L_iconst C (v := 0) dX3_start_28 rfl ?_
    refine L_zast C dX3_start_29 sh_41 (ss2 p1) ?_
    refine L_iinc C (v := 1) dX3_start_30 rfl rfl (Nat.le_of_ble_eq_true rfl) ?_
    refine L_goto C (tgt := 16) dX3_start_33 rfl ?_
    exact kk3 p1
set_option maxRecDepth 4000 in
theorem k_X3_start_39 {G : mG} {E : mE} {Q : mM → Prop} {μ : mM} (C : Cx G mX3_start E) {c1 : Nat} (h1 : sh c1 = (0, 6)) {x4 : Int32} (rr1 : (μ c1 0) ≤ x4 → Q μ) (ss2 : ¬ (μ c1 0) ≤ x4 → vp_in x4 64) (kk3 : ¬ (μ c1 0) ≤ x4 → Wm G mX3_start E (bm G mX3_start E (pV Q)) (ms μ 40 x4.toNatClampNeg 0) 59 [(0, .ref (gb G + 36)), (1, .ref (gb G + c1)), (2, .ref (gb G + 22)), (4, .int x4), (5, .int 0)] []) : Wm G mX3_start E (bm G mX3_start E (pV Q)) μ 39 [(0, .ref (gb G + 36)), (1, .ref (gb G + c1)), (2, .ref (gb G + 22)), (4, .int x4)] [] := by
  refine L_iload C dX3_start_39 rfl ?_
  refine L_aload_n C (i := 1) dX3_start_41 rfl rfl ?_
  refine L_getI C dX3_start_42 h1 fl_X3_30 rfl ?_
  refine L_icmp_ge C (tgt := 118) dX3_start_45 rfl (fun p1 => ?_) (fun p1 => ?_)
  · exact L_irV C dX3_start_118 rfl (rr1 p1)
  · refine L_aload_n C (i := 0) dX3_start_48 rfl rfl ?_
    refine L_getC C (c' := 40) dX3_start_49 sh_36 fl_X3_18 rfl rfl ?_
    refine L_iload C dX3_start_52 rfl ?_
    refine L_iconst C (v := 0) dX3_start_54 rfl ?_
    refine L_iast C dX3_start_55 sh_40 (ss2 p1) ?_
    refine L_iconst C (v := 0) dX3_start_56 rfl ?_
    refine L_istore C dX3_start_57 (Nat.le_of_ble_eq_true rfl) ?_
    exact kk3 p1
set_option maxRecDepth 4000 in
theorem k_X3_start_59 {G : mG} {E : mE} {Q : mM → Prop} {μ : mM} (C : Cx G mX3_start E) {c1 : Nat} (h1 : sh c1 = (0, 6)) {x4 : Int32} {x5 : Int32} (kk1 : (μ 23 0) ≤ x5 → Wm G mX3_start E (bm G mX3_start E (pV Q)) μ 39 [(0, .ref (gb G + 36)), (1, .ref (gb G + c1)), (2, .ref (gb G + 22)), (4, .int (x4 + (1 : Int32)))] []) (ss2 : ¬ (μ 23 0) ≤ x5 → vp_in x4 64) (cc3 : ¬ (μ 23 0) ≤ x5 → CtI G mX0_numberIn [.ref (gb G + 23), .int x5, .int (μ (c1 + 1) x4.toNatClampNeg)] μ (fun r μ' => Wm G mX3_start E (bm G mX3_start E (pV Q)) μ' 95 [(0, .ref (gb G + 36)), (1, .ref (gb G + c1)), (2, .ref (gb G + 22)), (4, .int x4), (5, .int x5)] [.int r, .int (μ 40 x4.toNatClampNeg), .int x4, .ref (gb G + 40)])) : Wm G mX3_start E (bm G mX3_start E (pV Q)) μ 59 [(0, .ref (gb G + 36)), (1, .ref (gb G + c1)), (2, .ref (gb G + 22)), (4, .int x4), (5, .int x5)] [] := by
  refine L_iload C dX3_start_59 rfl ?_
  refine L_aload_n C (i := 2) dX3_start_61 rfl rfl ?_
  refine L_getC C (c' := 23) dX3_start_62 sh_22 fl_X3_61 rfl rfl ?_
  refine L_getI C dX3_start_65 sh_23 fl_X3_65 rfl ?_
  refine L_icmp_ge C (tgt := 112) dX3_start_68 rfl (fun p1 => ?_) (fun p1 => ?_)
  · refine L_iinc C (v := 1) dX3_start_112 rfl rfl (Nat.le_of_ble_eq_true rfl) ?_
    refine L_goto C (tgt := 39) dX3_start_115 rfl ?_
    refine L_sub [0, 1, 2, 3] rfl ?_
    exact kk1 p1
  · refine L_aload_n C (i := 0) dX3_start_71 rfl rfl ?_
    refine L_getC C (c' := 40) dX3_start_72 sh_36 fl_X3_18 rfl rfl ?_
    refine L_iload C dX3_start_75 rfl ?_
    refine L_dup2 C dX3_start_77 rfl rfl ?_
    refine L_iald C dX3_start_78 sh_40 (ss2 p1) ?_
    refine L_aload_n C (i := 2) dX3_start_79 rfl rfl ?_
    refine L_getC C (c' := 23) dX3_start_80 sh_22 fl_X3_61 rfl rfl ?_
    refine L_iload C dX3_start_83 rfl ?_
    refine L_aload_n C (i := 1) dX3_start_85 rfl rfl ?_
    refine L_getC C (c' := (c1 + 1)) dX3_start_86 h1 fl_X3_38 rfl rfl ?_
    refine L_iload C dX3_start_89 rfl ?_
    refine L_iald C dX3_start_91 (shd_6_1 h1) (ss2 p1) ?_
    refine L_invV2i C dX3_start_92 sh_23 cal_X0_numberIn lk_X3_68 ⟨Nat.le_of_ble_eq_true rfl, Nat.le_of_ble_eq_true rfl⟩ ⟨Nat.le_of_ble_eq_true rfl, Nat.le_of_ble_eq_true rfl⟩ (Nat.le_of_ble_eq_true rfl) ?_
    exact cc3 p1
set_option maxRecDepth 4000 in
theorem k_X3_start_95 {G : mG} {E : mE} {B : mB} {μ : mM} (C : Cx G mX3_start E) {c1 : Nat} (h1 : sh c1 = (0, 6)) {x4 : Int32} {x5 : Int32} {sx1 : Int32} {sx2 : Int32} {sx3 : Int32} (ss1 : ∀ v1 : Int32, ((sx3 = (-1) ∧ v1 = 0) ∨ (¬ sx3 = (-1) ∧ v1 = 1)) → vp_in sx1 64) (kk2 : ∀ v1 : Int32, ((sx3 = (-1) ∧ v1 = 0) ∨ (¬ sx3 = (-1) ∧ v1 = 1)) → Wm G mX3_start E B (ms μ 40 sx1.toNatClampNeg (sx2 + v1)) 59 [(0, .ref (gb G + 36)), (1, .ref (gb G + c1)), (2, .ref (gb G + 22)), (4, .int x4), (5, .int (x5 + (1 : Int32)))] []) : Wm G mX3_start E B μ 95 [(0, .ref (gb G + 36)), (1, .ref (gb G + c1)), (2, .ref (gb G + 22)), (4, .int x4), (5, .int x5)] [.int sx3, .int sx2, .int sx1, .ref (gb G + 40)] := by
  refine L_iconst C (v := (-1)) dX3_start_95 rfl ?_
  refine phi (fun v1 : Int32 => Wm G mX3_start E B μ 104 [(0, .ref (gb G + 36)), (1, .ref (gb G + c1)), (2, .ref (gb G + 22)), (4, .int x4), (5, .int x5)] [.int v1, .int sx2, .int sx1, .ref (gb G + 40)]) (fun v1 : Int32 => (sx3 = (-1) ∧ v1 = 0) ∨ (¬ sx3 = (-1) ∧ v1 = 1)) (fun H => ?_) (fun v1 hv1 => ?_)
  · refine L_icmp_eq C (tgt := 103) dX3_start_96 rfl (fun p1 => ?_) (fun p1 => ?_)
    · refine L_iconst C (v := 0) dX3_start_103 rfl ?_
      exact H _ (Or.inl ⟨p1, rfl⟩)
    · refine L_iconst C (v := 1) dX3_start_99 rfl ?_
      refine L_goto C (tgt := 104) dX3_start_100 rfl ?_
      exact H _ (Or.inr ⟨p1, rfl⟩)
  refine L_iadd C dX3_start_104 ?_
  refine L_iast C dX3_start_105 sh_40 (ss1 v1 hv1) ?_
  refine L_iinc C (v := 1) dX3_start_106 rfl rfl (Nat.le_of_ble_eq_true rfl) ?_
  refine L_goto C (tgt := 59) dX3_start_109 rfl ?_
  exact kk2 v1 hv1
set_option maxRecDepth 4000 in
theorem k_X3_bestOf_0 {G : mG} {E : mE} {B : mB} {μ : mM} (C : Cx G mX3_bestOf E) {c1 : Nat} (h1 : sh c1 = (0, 6)) (kk1 : Wm G mX3_bestOf E B μ 4 [(0, .ref (gb G + 36)), (1, .ref (gb G + c1)), (2, .int 0), (3, .int 1)] []) : Wm G mX3_bestOf E B μ 0 [(0, .ref (gb G + 36)), (1, .ref (gb G + c1))] [] := by
  refine L_iconst C (v := 0) dX3_bestOf_0 rfl ?_
  refine L_istore_n C (i := 2) dX3_bestOf_1 rfl (Nat.le_of_ble_eq_true rfl) ?_
  refine L_iconst C (v := 1) dX3_bestOf_2 rfl ?_
  refine L_istore_n C (i := 3) dX3_bestOf_3 rfl (Nat.le_of_ble_eq_true rfl) ?_
  exact kk1
theorem e_X3_bestOf {G : mG} {Q : Int32 → mM → Prop} {μ : mM} {c1 : Nat} (h1 : sh c1 = (0, 6)) (k : ∀ E, Cx G mX3_bestOf E → Wm G mX3_bestOf E (bm G mX3_bestOf E (pI Q)) μ 0 [(0, .ref (gb G + 36)), (1, .ref (gb G + c1))] []) : CtI G mX3_bestOf [.ref (gb G + 36), .ref (gb G + c1)] μ Q := CtI.of pn_X3 (Nat.le_of_ble_eq_true rfl) k
set_option maxRecDepth 4000 in
theorem k_X3_bestOf_4 {G : mG} {E : mE} {Q : Int32 → mM → Prop} {μ : mM} (C : Cx G mX3_bestOf E) {c1 : Nat} (h1 : sh c1 = (0, 6)) {x2 : Int32} {x3 : Int32} (rr1 : (μ c1 0) ≤ x3 → Q x2 μ) (ss2 : ¬ (μ c1 0) ≤ x3 → vp_in x3 64) (ss3 : ¬ (μ c1 0) ≤ x3 → vp_in x2 64) (kk4 : ¬ (μ c1 0) ≤ x3 → ∀ v1 : Int32, (((μ 40 x3.toNatClampNeg) ≤ (μ 40 x2.toNatClampNeg) ∧ v1 = x2) ∨ (¬ (μ 40 x3.toNatClampNeg) ≤ (μ 40 x2.toNatClampNeg) ∧ v1 = x3)) → Wm G mX3_bestOf E (bm G mX3_bestOf E (pI Q)) μ 4 [(0, .ref (gb G + 36)), (1, .ref (gb G + c1)), (2, .int v1), (3, .int (x3 + (1 : Int32)))] []) : Wm G mX3_bestOf E (bm G mX3_bestOf E (pI Q)) μ 4 [(0, .ref (gb G + 36)), (1, .ref (gb G + c1)), (2, .int x2), (3, .int x3)] [] := by
  refine L_iload_n C (i := 3) dX3_bestOf_4 rfl rfl ?_
  refine L_aload_n C (i := 1) dX3_bestOf_5 rfl rfl ?_
  refine L_getI C dX3_bestOf_6 h1 fl_X3_30 rfl ?_
  refine L_icmp_ge C (tgt := 35) dX3_bestOf_9 rfl (fun p1 => ?_) (fun p1 => ?_)
  · refine L_iload_n C (i := 2) dX3_bestOf_35 rfl rfl ?_
    exact L_irI C dX3_bestOf_36 rfl (rr1 p1)
  · refine L_aload_n C (i := 0) dX3_bestOf_12 rfl rfl ?_
    refine L_getC C (c' := 40) dX3_bestOf_13 sh_36 fl_X3_18 rfl rfl ?_
    refine L_iload_n C (i := 3) dX3_bestOf_16 rfl rfl ?_
    refine L_iald C dX3_bestOf_17 sh_40 (ss2 p1) ?_
    refine L_aload_n C (i := 0) dX3_bestOf_18 rfl rfl ?_
    refine L_getC C (c' := 40) dX3_bestOf_19 sh_36 fl_X3_18 rfl rfl ?_
    refine L_iload_n C (i := 2) dX3_bestOf_22 rfl rfl ?_
    refine L_iald C dX3_bestOf_23 sh_40 (ss3 p1) ?_
    refine phi (fun v1 : Int32 => Wm G mX3_bestOf E (bm G mX3_bestOf E (pI Q)) μ 29 [(0, .ref (gb G + 36)), (1, .ref (gb G + c1)), (2, .int v1), (3, .int x3)] []) (fun v1 : Int32 => ((μ 40 x3.toNatClampNeg) ≤ (μ 40 x2.toNatClampNeg) ∧ v1 = x2) ∨ (¬ (μ 40 x3.toNatClampNeg) ≤ (μ 40 x2.toNatClampNeg) ∧ v1 = x3)) (fun H => ?_) (fun v1 hv1 => ?_)
    · refine L_icmp_le C (tgt := 29) dX3_bestOf_24 rfl (fun p2 => ?_) (fun p2 => ?_)
      · exact H _ (Or.inl ⟨p2, rfl⟩)
      · refine L_iload_n C (i := 3) dX3_bestOf_27 rfl rfl ?_
        refine L_istore_n C (i := 2) dX3_bestOf_28 rfl (Nat.le_of_ble_eq_true rfl) ?_
        exact H _ (Or.inr ⟨p2, rfl⟩)
    refine L_iinc C (v := 1) dX3_bestOf_29 rfl rfl (Nat.le_of_ble_eq_true rfl) ?_
    refine L_goto C (tgt := 4) dX3_bestOf_32 rfl ?_
    exact kk4 p1 v1 hv1
set_option maxRecDepth 4000 in
theorem k_X3_markSeen_0 {G : mG} {E : mE} {B : mB} {μ : mM} (C : Cx G mX3_markSeen E) {c1 : Nat} (h1 : sh c1 = (0, 6)) {x3 : Int32} (kk1 : Wm G mX3_markSeen E B μ 3 [(0, .ref (gb G + 36)), (1, .ref (gb G + c1)), (2, .ref (gb G + 22)), (3, .int x3), (4, .int 0)] []) : Wm G mX3_markSeen E B μ 0 [(0, .ref (gb G + 36)), (1, .ref (gb G + c1)), (2, .ref (gb G + 22)), (3, .int x3)] [] := by
  refine L_iconst C (v := 0) dX3_markSeen_0 rfl ?_
  refine L_istore C dX3_markSeen_1 (Nat.le_of_ble_eq_true rfl) ?_
  exact kk1
theorem e_X3_markSeen {G : mG} {Q : mM → Prop} {μ : mM} {c1 : Nat} (h1 : sh c1 = (0, 6)) {x3 : Int32} (k : ∀ E, Cx G mX3_markSeen E → Wm G mX3_markSeen E (bm G mX3_markSeen E (pV Q)) μ 0 [(0, .ref (gb G + 36)), (1, .ref (gb G + c1)), (2, .ref (gb G + 22)), (3, .int x3)] []) : CtV G mX3_markSeen [.ref (gb G + 36), .ref (gb G + c1), .ref (gb G + 22), .int x3] μ Q := CtV.of pn_X3 (Nat.le_of_ble_eq_true rfl) k
set_option maxRecDepth 4000 in
theorem k_X3_markSeen_3 {G : mG} {E : mE} {Q : mM → Prop} {μ : mM} (C : Cx G mX3_markSeen E) {c1 : Nat} (h1 : sh c1 = (0, 6)) {x3 : Int32} {x4 : Int32} (rr1 : (μ 23 0) ≤ x4 → Q μ) (cc2 : ¬ (μ 23 0) ≤ x4 → CtI G mX0_numberIn [.ref (gb G + 23), .int x4, .int x3] μ (fun r μ' => Wm G mX3_markSeen E (bm G mX3_markSeen E (pV Q)) μ' 25 [(0, .ref (gb G + 36)), (1, .ref (gb G + c1)), (2, .ref (gb G + 22)), (3, .int x3), (4, .int x4)] [.int r])) : Wm G mX3_markSeen E (bm G mX3_markSeen E (pV Q)) μ 3 [(0, .ref (gb G + 36)), (1, .ref (gb G + c1)), (2, .ref (gb G + 22)), (3, .int x3), (4, .int x4)] [] := by
  refine L_iload C dX3_markSeen_3 rfl ?_
  refine L_aload_n C (i := 2) dX3_markSeen_5 rfl rfl ?_
  refine L_getC C (c' := 23) dX3_markSeen_6 sh_22 fl_X3_61 rfl rfl ?_
  refine L_getI C dX3_markSeen_9 sh_23 fl_X3_65 rfl ?_
  refine L_icmp_ge C (tgt := 116) dX3_markSeen_12 rfl (fun p1 => ?_) (fun p1 => ?_)
  · exact L_irV C dX3_markSeen_116 rfl (rr1 p1)
  · refine L_aload_n C (i := 2) dX3_markSeen_15 rfl rfl ?_
    refine L_getC C (c' := 23) dX3_markSeen_16 sh_22 fl_X3_61 rfl rfl ?_
    refine L_iload C dX3_markSeen_19 rfl ?_
    refine L_iload_n C (i := 3) dX3_markSeen_21 rfl rfl ?_
    refine L_invV2i C dX3_markSeen_22 sh_23 cal_X0_numberIn lk_X3_68 ⟨Nat.le_of_ble_eq_true rfl, Nat.le_of_ble_eq_true rfl⟩ ⟨Nat.le_of_ble_eq_true rfl, Nat.le_of_ble_eq_true rfl⟩ (Nat.le_of_ble_eq_true rfl) ?_
    exact cc2 p1
set_option maxRecDepth 4000 in
theorem k_X3_markSeen_25 {G : mG} {E : mE} {B : mB} {μ : mM} (C : Cx G mX3_markSeen E) {c1 : Nat} (h1 : sh c1 = (0, 6)) {x3 : Int32} {x4 : Int32} {sx0 : Int32} (kk1 : (sx0 = (-1) ∨ (¬ sx0 = (-1) ∧ ¬ (μ 41 sx0.toNatClampNeg) = 0)) → Wm G mX3_markSeen E B μ 3 [(0, .ref (gb G + 36)), (1, .ref (gb G + c1)), (2, .ref (gb G + 22)), (3, .int x3), (4, .int (x4 + (1 : Int32)))] []) (ss2 : ¬ sx0 = (-1) → vp_in sx0 1200) (kk3 : ¬ sx0 = (-1) → (μ 41 sx0.toNatClampNeg) = 0 → Wm G mX3_markSeen E B (ms μ 41 sx0.toNatClampNeg 1) 54 [(0, .ref (gb G + 36)), (1, .ref (gb G + c1)), (2, .ref (gb G + 22)), (3, .int x3), (4, .int x4), (5, .int sx0), (6, .int 0)] []) : Wm G mX3_markSeen E B μ 25 [(0, .ref (gb G + 36)), (1, .ref (gb G + c1)), (2, .ref (gb G + 22)), (3, .int x3), (4, .int x4)] [.int sx0] := by
  refine L_istore C dX3_markSeen_25 (Nat.le_of_ble_eq_true rfl) ?_
  refine L_iload C dX3_markSeen_27 rfl ?_
  refine L_iconst C (v := (-1)) dX3_markSeen_29 rfl ?_
  refine L_icmp_eq C (tgt := 110) dX3_markSeen_30 rfl (fun p1 => ?_) (fun p1 => ?_)
  · refine L_iinc C (v := 1) dX3_markSeen_110 rfl rfl (Nat.le_of_ble_eq_true rfl) ?_
    refine L_goto C (tgt := 3) dX3_markSeen_113 rfl ?_
    refine L_sub [0, 1, 2, 3, 4] rfl ?_
    exact kk1 (Or.inl p1)
  · refine L_aload_n C (i := 0) dX3_markSeen_33 rfl rfl ?_
    refine L_getC C (c' := 41) dX3_markSeen_34 sh_36 fl_X3_22 rfl rfl ?_
    refine L_iload C dX3_markSeen_37 rfl ?_
    refine L_zald C dX3_markSeen_39 sh_41 (ss2 p1) ?_
    refine L_if_ne C (tgt := 110) dX3_markSeen_40 rfl (fun p2 => ?_) (fun p2 => ?_)
    · refine L_iinc C (v := 1) dX3_markSeen_110 rfl rfl (Nat.le_of_ble_eq_true rfl) ?_
      refine L_goto C (tgt := 3) dX3_markSeen_113 rfl ?_
      refine L_sub [0, 1, 2, 3, 4] rfl ?_
      exact kk1 (Or.inr ⟨p1, p2⟩)
    · refine L_aload_n C (i := 0) dX3_markSeen_43 rfl rfl ?_
      refine L_getC C (c' := 41) dX3_markSeen_44 sh_36 fl_X3_22 rfl rfl ?_
      refine L_iload C dX3_markSeen_47 rfl ?_
      refine L_iconst C (v := 1) dX3_markSeen_49 rfl ?_
      refine L_zast C dX3_markSeen_50 sh_41 (ss2 p1) ?_
      refine L_iconst C (v := 0) dX3_markSeen_51 rfl ?_
      refine L_istore C dX3_markSeen_52 (Nat.le_of_ble_eq_true rfl) ?_
      exact kk3 p1 p2
set_option maxRecDepth 4000 in
theorem k_X3_markSeen_54 {G : mG} {E : mE} {B : mB} {μ : mM} (C : Cx G mX3_markSeen E) {c1 : Nat} (h1 : sh c1 = (0, 6)) {x3 : Int32} {x4 : Int32} {x5 : Int32} {x6 : Int32} (kk1 : (μ c1 0) ≤ x6 → Wm G mX3_markSeen E B μ 3 [(0, .ref (gb G + 36)), (1, .ref (gb G + c1)), (2, .ref (gb G + 22)), (3, .int x3), (4, .int (x4 + (1 : Int32)))] []) (ss2 : ¬ (μ c1 0) ≤ x6 → vp_in x6 64) (kk3 : ¬ (μ c1 0) ≤ x6 → ((μ 40 x6.toNatClampNeg) ≤ 0 ∨ (¬ (μ 40 x6.toNatClampNeg) ≤ 0 ∧ ¬ ((μ 28 x5.toNatClampNeg) &&& ((μ (c1 + 1) x6.toNatClampNeg) ^^^ ((-1) : Int32))) = 0)) → Wm G mX3_markSeen E B μ 54 [(0, .ref (gb G + 36)), (1, .ref (gb G + c1)), (2, .ref (gb G + 22)), (3, .int x3), (4, .int x4), (5, .int x5), (6, .int (x6 + (1 : Int32)))] []) (ss4 : ¬ (μ c1 0) ≤ x6 → ¬ (μ 40 x6.toNatClampNeg) ≤ 0 → vp_in x5 1200) (kk5 : ¬ (μ c1 0) ≤ x6 → ¬ (μ 40 x6.toNatClampNeg) ≤ 0 → ((μ 28 x5.toNatClampNeg) &&& ((μ (c1 + 1) x6.toNatClampNeg) ^^^ ((-1) : Int32))) = 0 → Wm G mX3_markSeen E B (ms μ 40 x6.toNatClampNeg ((μ 40 x6.toNatClampNeg) - (1 : Int32))) 54 [(0, .ref (gb G + 36)), (1, .ref (gb G + c1)), (2, .ref (gb G + 22)), (3, .int x3), (4, .int x4), (5, .int x5), (6, .int (x6 + (1 : Int32)))] []) : Wm G mX3_markSeen E B μ 54 [(0, .ref (gb G + 36)), (1, .ref (gb G + c1)), (2, .ref (gb G + 22)), (3, .int x3), (4, .int x4), (5, .int x5), (6, .int x6)] [] := by
  refine L_iload C dX3_markSeen_54 rfl ?_
  refine L_aload_n C (i := 1) dX3_markSeen_56 rfl rfl ?_
  refine L_getI C dX3_markSeen_57 h1 fl_X3_30 rfl ?_
  refine L_icmp_ge C (tgt := 110) dX3_markSeen_60 rfl (fun p1 => ?_) (fun p1 => ?_)
  · refine L_iinc C (v := 1) dX3_markSeen_110 rfl rfl (Nat.le_of_ble_eq_true rfl) ?_
    refine L_goto C (tgt := 3) dX3_markSeen_113 rfl ?_
    refine L_sub [0, 1, 2, 3, 4] rfl ?_
    exact kk1 p1
  · refine L_aload_n C (i := 0) dX3_markSeen_63 rfl rfl ?_
    refine L_getC C (c' := 40) dX3_markSeen_64 sh_36 fl_X3_18 rfl rfl ?_
    refine L_iload C dX3_markSeen_67 rfl ?_
    refine L_iald C dX3_markSeen_69 sh_40 (ss2 p1) ?_
    refine L_if_le C (tgt := 104) dX3_markSeen_70 rfl (fun p2 => ?_) (fun p2 => ?_)
    · refine L_iinc C (v := 1) dX3_markSeen_104 rfl rfl (Nat.le_of_ble_eq_true rfl) ?_
      refine L_goto C (tgt := 54) dX3_markSeen_107 rfl ?_
      exact kk3 p1 (Or.inl p2)
    · refine L_aload_n C (i := 2) dX3_markSeen_73 rfl rfl ?_
      refine L_getC C (c' := 28) dX3_markSeen_74 sh_22 fl_X3_72 rfl rfl ?_
      refine L_iload C dX3_markSeen_77 rfl ?_
      refine L_iald C dX3_markSeen_79 sh_28 (ss4 p1 p2) ?_
      refine L_aload_n C (i := 1) dX3_markSeen_80 rfl rfl ?_
      refine L_getC C (c' := (c1 + 1)) dX3_markSeen_81 h1 fl_X3_38 rfl rfl ?_
      refine L_iload C dX3_markSeen_84 rfl ?_
      refine L_iald C dX3_markSeen_86 (shd_6_1 h1) (ss2 p1) ?_
      refine L_iconst C (v := (-1)) dX3_markSeen_87 rfl ?_
      refine L_ixor C dX3_markSeen_88 ?_
      refine L_iand C dX3_markSeen_89 ?_
      refine L_if_ne C (tgt := 104) dX3_markSeen_90 rfl (fun p3 => ?_) (fun p3 => ?_)
      · refine L_iinc C (v := 1) dX3_markSeen_104 rfl rfl (Nat.le_of_ble_eq_true rfl) ?_
        refine L_goto C (tgt := 54) dX3_markSeen_107 rfl ?_
        exact kk3 p1 (Or.inr ⟨p2, p3⟩)
      · refine L_aload_n C (i := 0) dX3_markSeen_93 rfl rfl ?_
        refine L_getC C (c' := 40) dX3_markSeen_94 sh_36 fl_X3_18 rfl rfl ?_
        refine L_iload C dX3_markSeen_97 rfl ?_
        refine L_dup2 C dX3_markSeen_99 rfl rfl ?_
        refine L_iald C dX3_markSeen_100 sh_40 (ss2 p1) ?_
        refine L_iconst C (v := 1) dX3_markSeen_101 rfl ?_
        refine L_isub C dX3_markSeen_102 ?_
        refine L_iast C dX3_markSeen_103 sh_40 (ss2 p1) ?_
        refine L_iinc C (v := 1) dX3_markSeen_104 rfl rfl (Nat.le_of_ble_eq_true rfl) ?_
        refine L_goto C (tgt := 54) dX3_markSeen_107 rfl ?_
        exact kk5 p1 p2 p3
set_option maxRecDepth 4000 in
theorem k_X3_place_0 {G : mG} {E : mE} {Q : Int32 → mM → Prop} {μ : mM} (C : Cx G mX3_place E) {c1 : Nat} (h1 : sh c1 = (0, 6)) (cc1 : CtV G mX3_start [.ref (gb G + 36), .ref (gb G + c1), .ref (gb G + 22)] μ (fun μ' => Wm G mX3_place E (bm G mX3_place E (pI Q)) μ' 6 [(0, .ref (gb G + 36)), (1, .ref (gb G + c1)), (2, .ref (gb G + 22))] [])) : Wm G mX3_place E (bm G mX3_place E (pI Q)) μ 0 [(0, .ref (gb G + 36)), (1, .ref (gb G + c1)), (2, .ref (gb G + 22))] [] := by
  refine L_aload_n C (i := 0) dX3_place_0 rfl rfl ?_
  refine L_aload_n C (i := 1) dX3_place_1 rfl rfl ?_
  refine L_aload_n C (i := 2) dX3_place_2 rfl rfl ?_
  refine L_invV2v C dX3_place_3 sh_36 cal_X3_start lk_X3_26 ⟨Nat.le_of_ble_eq_true rfl, Nat.le_of_ble_eq_true rfl⟩ ⟨Nat.le_of_ble_eq_true rfl, Nat.le_of_ble_eq_true rfl⟩ (Nat.le_of_ble_eq_true rfl) ?_
  exact cc1
theorem e_X3_place {G : mG} {Q : Int32 → mM → Prop} {μ : mM} {c1 : Nat} (h1 : sh c1 = (0, 6)) (k : ∀ E, Cx G mX3_place E → Wm G mX3_place E (bm G mX3_place E (pI Q)) μ 0 [(0, .ref (gb G + 36)), (1, .ref (gb G + c1)), (2, .ref (gb G + 22))] []) : CtI G mX3_place [.ref (gb G + 36), .ref (gb G + c1), .ref (gb G + 22)] μ Q := CtI.of pn_X3 (Nat.le_of_ble_eq_true rfl) k
set_option maxRecDepth 4000 in
theorem k_X3_place_6 {G : mG} {E : mE} {B : mB} {μ : mM} (C : Cx G mX3_place E) {c1 : Nat} (h1 : sh c1 = (0, 6)) (kk1 : Wm G mX3_place E B μ 11 [(0, .ref (gb G + 36)), (1, .ref (gb G + c1)), (2, .ref (gb G + 22)), (3, .int 0), (4, .int 0)] []) : Wm G mX3_place E B μ 6 [(0, .ref (gb G + 36)), (1, .ref (gb G + c1)), (2, .ref (gb G + 22))] [] := by
  refine L_iconst C (v := 0) dX3_place_6 rfl ?_
  refine L_istore_n C (i := 3) dX3_place_7 rfl (Nat.le_of_ble_eq_true rfl) ?_
  refine L_iconst C (v := 0) dX3_place_8 rfl ?_
  refine L_istore C dX3_place_9 (Nat.le_of_ble_eq_true rfl) ?_
  exact kk1
set_option maxRecDepth 4000 in
theorem k_X3_place_11 {G : mG} {E : mE} {Q : Int32 → mM → Prop} {μ : mM} (C : Cx G mX3_place E) {c1 : Nat} (h1 : sh c1 = (0, 6)) {x3 : Int32} {x4 : Int32} (cc1 : (μ c1 0) ≤ x4 → CtV G mX7_copyFrom [.ref (gb G + c1), .ref (gb G + 37)] μ (fun μ' => Wm G mX3_place E (bm G mX3_place E (pI Q)) μ' 111 [(3, .int x3)] [])) (cc2 : ¬ (μ c1 0) ≤ x4 → CtI G mX3_bestOf [.ref (gb G + 36), .ref (gb G + c1)] μ (fun r μ' => Wm G mX3_place E (bm G mX3_place E (pI Q)) μ' 25 [(0, .ref (gb G + 36)), (1, .ref (gb G + c1)), (2, .ref (gb G + 22)), (3, .int x3), (4, .int x4)] [.int r])) : Wm G mX3_place E (bm G mX3_place E (pI Q)) μ 11 [(0, .ref (gb G + 36)), (1, .ref (gb G + c1)), (2, .ref (gb G + 22)), (3, .int x3), (4, .int x4)] [] := by
  refine L_iload C dX3_place_11 rfl ?_
  refine L_aload_n C (i := 1) dX3_place_13 rfl rfl ?_
  refine L_getI C dX3_place_14 h1 fl_X3_30 rfl ?_
  refine L_icmp_ge C (tgt := 103) dX3_place_17 rfl (fun p1 => ?_) (fun p1 => ?_)
  · refine L_aload_n C (i := 1) dX3_place_103 rfl rfl ?_
    refine L_aload_n C (i := 0) dX3_place_104 rfl rfl ?_
    refine L_getC C (c' := 37) dX3_place_105 sh_36 fl_X3_12 rfl rfl ?_
    refine L_sub [3] rfl ?_
    refine L_invV1v C dX3_place_108 h1 cal_X7_copyFrom lk_X3_52 ⟨Nat.le_of_ble_eq_true rfl, Nat.le_of_ble_eq_true rfl⟩ ⟨Nat.le_of_ble_eq_true rfl, Nat.le_of_ble_eq_true rfl⟩ (Nat.le_of_ble_eq_true rfl) ?_
    exact cc1 p1
  · refine L_aload_n C (i := 0) dX3_place_20 rfl rfl ?_
    refine L_aload_n C (i := 1) dX3_place_21 rfl rfl ?_
    refine L_invV1i C dX3_place_22 sh_36 cal_X3_bestOf lk_X3_34 ⟨Nat.le_of_ble_eq_true rfl, Nat.le_of_ble_eq_true rfl⟩ ⟨Nat.le_of_ble_eq_true rfl, Nat.le_of_ble_eq_true rfl⟩ (Nat.le_of_ble_eq_true rfl) ?_
    exact cc2 p1
set_option maxRecDepth 4000 in
theorem k_X3_place_25 {G : mG} {E : mE} {Q : Int32 → mM → Prop} {μ : mM} (C : Cx G mX3_place E) {c1 : Nat} (h1 : sh c1 = (0, 6)) {x3 : Int32} {x4 : Int32} {sx0 : Int32} (ss1 : vp_in sx0 64) (ss2 : ∀ v1 : Int32, (((μ 40 sx0.toNatClampNeg) ≤ 0 ∧ v1 = 0) ∨ (¬ (μ 40 sx0.toNatClampNeg) ≤ 0 ∧ v1 = 1)) → vp_in sx0 64) (cc3 : ∀ v1 : Int32, (((μ 40 sx0.toNatClampNeg) ≤ 0 ∧ v1 = 0) ∨ (¬ (μ 40 sx0.toNatClampNeg) ≤ 0 ∧ v1 = 1)) → CtV G mX7_append [.ref (gb G + 37), .int (μ (c1 + 1) sx0.toNatClampNeg)] μ (fun μ' => Wm G mX3_place E (bm G mX3_place E (pI Q)) μ' 59 [(0, .ref (gb G + 36)), (1, .ref (gb G + c1)), (2, .ref (gb G + 22)), (3, .int (x3 + v1)), (4, .int x4), (5, .int sx0)] [])) : Wm G mX3_place E (bm G mX3_place E (pI Q)) μ 25 [(0, .ref (gb G + 36)), (1, .ref (gb G + c1)), (2, .ref (gb G + 22)), (3, .int x3), (4, .int x4)] [.int sx0] := by
  refine L_istore C dX3_place_25 (Nat.le_of_ble_eq_true rfl) ?_
  refine L_iload_n C (i := 3) dX3_place_27 rfl rfl ?_
  refine L_aload_n C (i := 0) dX3_place_28 rfl rfl ?_
  refine L_getC C (c' := 40) dX3_place_29 sh_36 fl_X3_18 rfl rfl ?_
  refine L_iload C dX3_place_32 rfl ?_
  refine L_iald C dX3_place_34 sh_40 (ss1) ?_
  refine phi (fun v1 : Int32 => Wm G mX3_place E (bm G mX3_place E (pI Q)) μ 43 [(0, .ref (gb G + 36)), (1, .ref (gb G + c1)), (2, .ref (gb G + 22)), (4, .int x4), (5, .int sx0)] [.int v1, .int x3]) (fun v1 : Int32 => ((μ 40 sx0.toNatClampNeg) ≤ 0 ∧ v1 = 0) ∨ (¬ (μ 40 sx0.toNatClampNeg) ≤ 0 ∧ v1 = 1)) (fun H => ?_) (fun v1 hv1 => ?_)
  · refine L_if_le C (tgt := 42) dX3_place_35 rfl (fun p1 => ?_) (fun p1 => ?_)
    · refine L_iconst C (v := 0) dX3_place_42 rfl ?_
      refine L_sub [0, 1, 2, 4, 5] rfl ?_
      exact H _ (Or.inl ⟨p1, rfl⟩)
    · refine L_iconst C (v := 1) dX3_place_38 rfl ?_
      refine L_goto C (tgt := 43) dX3_place_39 rfl ?_
      refine L_sub [0, 1, 2, 4, 5] rfl ?_
      exact H _ (Or.inr ⟨p1, rfl⟩)
  refine L_iadd C dX3_place_43 ?_
  refine L_istore_n C (i := 3) dX3_place_44 rfl (Nat.le_of_ble_eq_true rfl) ?_
  refine L_aload_n C (i := 0) dX3_place_45 rfl rfl ?_
  refine L_getC C (c' := 37) dX3_place_46 sh_36 fl_X3_12 rfl rfl ?_
  refine L_aload_n C (i := 1) dX3_place_49 rfl rfl ?_
  refine L_getC C (c' := (c1 + 1)) dX3_place_50 h1 fl_X3_38 rfl rfl ?_
  refine L_iload C dX3_place_53 rfl ?_
  refine L_iald C dX3_place_55 (shd_6_1 h1) (ss2 v1 hv1) ?_
  refine L_invV1v C dX3_place_56 sh_37 cal_X7_append lk_X3_41 ⟨Nat.le_of_ble_eq_true rfl, Nat.le_of_ble_eq_true rfl⟩ ⟨Nat.le_of_ble_eq_true rfl, Nat.le_of_ble_eq_true rfl⟩ (Nat.le_of_ble_eq_true rfl) ?_
  exact cc3 v1 hv1
set_option maxRecDepth 4000 in
theorem k_X3_place_59 {G : mG} {E : mE} {Q : Int32 → mM → Prop} {μ : mM} (C : Cx G mX3_place E) {c1 : Nat} (h1 : sh c1 = (0, 6)) {x3 : Int32} {x4 : Int32} {x5 : Int32} (ss1 : vp_in x5 64) (ss2 : vp_in x4 64) (cc3 : CtV G mX3_markSeen [.ref (gb G + 36), .ref (gb G + c1), .ref (gb G + 22), .int ((ms μ 39 x4.toNatClampNeg (μ (c1 + 2) x5.toNatClampNeg)) (c1 + 1) x5.toNatClampNeg)] (ms μ 39 x4.toNatClampNeg (μ (c1 + 2) x5.toNatClampNeg)) (fun μ' => Wm G mX3_place E (bm G mX3_place E (pI Q)) μ' 89 [(0, .ref (gb G + 36)), (1, .ref (gb G + c1)), (2, .ref (gb G + 22)), (3, .int x3), (4, .int x4), (5, .int x5)] [])) : Wm G mX3_place E (bm G mX3_place E (pI Q)) μ 59 [(0, .ref (gb G + 36)), (1, .ref (gb G + c1)), (2, .ref (gb G + 22)), (3, .int x3), (4, .int x4), (5, .int x5)] [] := by
  refine L_aload_n C (i := 0) dX3_place_59 rfl rfl ?_
  refine L_getC C (c' := 37) dX3_place_60 sh_36 fl_X3_12 rfl rfl ?_
  refine L_getC C (c' := 39) dX3_place_63 sh_37 fl_X3_45 rfl rfl ?_
  refine L_iload C dX3_place_66 rfl ?_
  refine L_aload_n C (i := 1) dX3_place_68 rfl rfl ?_
  refine L_getC C (c' := (c1 + 2)) dX3_place_69 h1 fl_X3_45 rfl rfl ?_
  refine L_iload C dX3_place_72 rfl ?_
  refine L_iald C dX3_place_74 (shd_6_2 h1) (ss1) ?_
  refine L_iast C dX3_place_75 sh_39 (ss2) ?_
  refine L_aload_n C (i := 0) dX3_place_76 rfl rfl ?_
  refine L_aload_n C (i := 1) dX3_place_77 rfl rfl ?_
  refine L_aload_n C (i := 2) dX3_place_78 rfl rfl ?_
  refine L_aload_n C (i := 1) dX3_place_79 rfl rfl ?_
  refine L_getC C (c' := (c1 + 1)) dX3_place_80 h1 fl_X3_38 rfl rfl ?_
  refine L_iload C dX3_place_83 rfl ?_
  refine L_iald C dX3_place_85 (shd_6_1 h1) (ss1) ?_
  refine L_invV3v C dX3_place_86 sh_36 cal_X3_markSeen lk_X3_48 ⟨Nat.le_of_ble_eq_true rfl, Nat.le_of_ble_eq_true rfl⟩ ⟨Nat.le_of_ble_eq_true rfl, Nat.le_of_ble_eq_true rfl⟩ (Nat.le_of_ble_eq_true rfl) ?_
  exact cc3
set_option maxRecDepth 4000 in
theorem k_X3_place_89 {G : mG} {E : mE} {B : mB} {μ : mM} (C : Cx G mX3_place E) {c1 : Nat} (h1 : sh c1 = (0, 6)) {x3 : Int32} {x4 : Int32} {x5 : Int32} (ss1 : vp_in x5 64) (kk2 : Wm G mX3_place E B (ms μ 40 x5.toNatClampNeg (-1)) 11 [(0, .ref (gb G + 36)), (1, .ref (gb G + c1)), (2, .ref (gb G + 22)), (3, .int x3), (4, .int (x4 + (1 : Int32)))] []) : Wm G mX3_place E B μ 89 [(0, .ref (gb G + 36)), (1, .ref (gb G + c1)), (2, .ref (gb G + 22)), (3, .int x3), (4, .int x4), (5, .int x5)] [] := by
  refine L_aload_n C (i := 0) dX3_place_89 rfl rfl ?_
  refine L_getC C (c' := 40) dX3_place_90 sh_36 fl_X3_18 rfl rfl ?_
  refine L_iload C dX3_place_93 rfl ?_
  refine L_iconst C (v := (-1)) dX3_place_95 rfl ?_
  refine L_iast C dX3_place_96 sh_40 (ss1) ?_
  refine L_iinc C (v := 1) dX3_place_97 rfl rfl (Nat.le_of_ble_eq_true rfl) ?_
  refine L_goto C (tgt := 11) dX3_place_100 rfl ?_
  refine L_sub [0, 1, 2, 3, 4] rfl ?_
  exact kk2
set_option maxRecDepth 4000 in
theorem k_X3_place_111 {G : mG} {E : mE} {Q : Int32 → mM → Prop} {μ : mM} (C : Cx G mX3_place E) {x3 : Int32} (rr1 : Q x3 μ) : Wm G mX3_place E (bm G mX3_place E (pI Q)) μ 111 [(3, .int x3)] [] := by
  refine L_iload_n C (i := 3) dX3_place_111 rfl rfl ?_
  exact L_irI C dX3_place_112 rfl (rr1)
set_option maxRecDepth 4000 in
theorem k_X11_order_0 {G : mG} {E : mE} {Q : Int32 → mM → Prop} {μ : mM} (C : Cx G mX11_order E)  (rr1 : (μ 15 0) ≤ 0 → Q (-1) μ) (cc2 : ¬ (μ 15 0) ≤ 0 → CtV G mX11_remember [.ref (gb G + 0)] μ (fun μ' => Wm G mX11_order E (bm G mX11_order E (pI Q)) μ' 13 [(0, .ref (gb G + 0))] [])) : Wm G mX11_order E (bm G mX11_order E (pI Q)) μ 0 [(0, .ref (gb G + 0))] [] := by
  refine L_aload_n C (i := 0) dX11_order_0 rfl rfl ?_
  refine L_invV0i C dX11_order_1 sh_0 cal_X11_hasPlan lk_X11_165 ⟨Nat.le_of_ble_eq_true rfl, Nat.le_of_ble_eq_true rfl⟩ ⟨Nat.le_of_ble_eq_true rfl, Nat.le_of_ble_eq_true rfl⟩ (Nat.le_of_ble_eq_true rfl) (a_X11_hasPlan (fun p1 => ?_) (fun p2 => ?_))
  · refine L_if_ne C (tgt := 9) dX11_order_4 rfl (fun p3 => absurd p3 (by decide)) (fun p3 => ?_)
    refine L_iconst C (v := (-1)) dX11_order_7 rfl ?_
    exact L_irI C dX11_order_8 rfl (rr1 p1)
  · refine L_if_ne C (tgt := 9) dX11_order_4 rfl (fun p4 => ?_) (fun p4 => absurd p4 (by decide))
    refine L_aload_n C (i := 0) dX11_order_9 rfl rfl ?_
    refine L_invV0v C dX11_order_10 sh_0 cal_X11_remember lk_X11_143 ⟨Nat.le_of_ble_eq_true rfl, Nat.le_of_ble_eq_true rfl⟩ ⟨Nat.le_of_ble_eq_true rfl, Nat.le_of_ble_eq_true rfl⟩ (Nat.le_of_ble_eq_true rfl) ?_
    exact cc2 p2
theorem e_X11_order {G : mG} {Q : Int32 → mM → Prop} {μ : mM}  (k : ∀ E, Cx G mX11_order E → Wm G mX11_order E (bm G mX11_order E (pI Q)) μ 0 [(0, .ref (gb G + 0))] []) : CtI G mX11_order [.ref (gb G + 0)] μ Q := CtI.of pn_X11 (Nat.le_of_ble_eq_true rfl) k
set_option maxRecDepth 4000 in
theorem k_X11_order_13 {G : mG} {E : mE} {Q : Int32 → mM → Prop} {μ : mM} (C : Cx G mX11_order E)  (cc1 : CtI G mX3_place [.ref (gb G + 36), .ref (gb G + 19), .ref (gb G + 22)] μ (fun r μ' => Wm G mX11_order E (bm G mX11_order E (pI Q)) μ' 31 [] [.int r])) : Wm G mX11_order E (bm G mX11_order E (pI Q)) μ 13 [(0, .ref (gb G + 0))] [] := by
  refine L_aload_n C (i := 0) dX11_order_13 rfl rfl ?_
  refine L_getC C (c' := 36) dX11_order_14 sh_0 fl_X11_47 rfl rfl ?_
  refine L_aload_n C (i := 0) dX11_order_17 rfl rfl ?_
  refine L_getC C (c' := 14) dX11_order_18 sh_0 fl_X11_26 rfl rfl ?_
  refine L_getC C (c' := 19) dX11_order_21 sh_14 fl_X11_90 rfl rfl ?_
  refine L_aload_n C (i := 0) dX11_order_24 rfl rfl ?_
  refine L_getC C (c' := 22) dX11_order_25 sh_0 fl_X11_33 rfl rfl ?_
  refine L_sub [] rfl ?_
  refine L_invV2i C dX11_order_28 sh_36 cal_X3_place lk_X11_224 ⟨Nat.le_of_ble_eq_true rfl, Nat.le_of_ble_eq_true rfl⟩ ⟨Nat.le_of_ble_eq_true rfl, Nat.le_of_ble_eq_true rfl⟩ (Nat.le_of_ble_eq_true rfl) ?_
  exact cc1
set_option maxRecDepth 4000 in
theorem k_X11_order_31 {G : mG} {E : mE} {Q : Int32 → mM → Prop} {μ : mM} (C : Cx G mX11_order E) {sx0 : Int32} (rr1 : Q sx0 μ) : Wm G mX11_order E (bm G mX11_order E (pI Q)) μ 31 [] [.int sx0] := by
  exact L_irI C dX11_order_31 rfl (rr1)
set_option maxRecDepth 4000 in
theorem k_X11_drawOf_0 {G : mG} {E : mE} {Q : Int32 → mM → Prop} {μ : mM} (C : Cx G mX11_drawOf E) {x1 : Int32} (rr1 : x1 ≤ 0 → Q 0 (ms μ 14 2 ((((μ 14 2) * (1103515245 : Int32)) + (12345 : Int32)) &&& (2147483647 : Int32)))) (dd2 : ¬ x1 ≤ 0 → ¬ x1 = 0) (rr3 : ¬ x1 ≤ 0 → Q ((((((μ 14 2) * (1103515245 : Int32)) + (12345 : Int32)) &&& (2147483647 : Int32)) / 65536) - (((((μ 14 2) * (1103515245 : Int32)) + (12345 : Int32)) &&& (2147483647 : Int32)) / 65536) / x1 * x1) (ms μ 14 2 ((((μ 14 2) * (1103515245 : Int32)) + (12345 : Int32)) &&& (2147483647 : Int32)))) : Wm G mX11_drawOf E (bm G mX11_drawOf E (pI Q)) μ 0 [(0, .ref (gb G + 0)), (1, .int x1)] [] := by
  refine L_aload_n C (i := 0) dX11_drawOf_0 rfl rfl ?_
  refine L_getC C (c' := 14) dX11_drawOf_1 sh_0 fl_X11_26 rfl rfl ?_
  refine L_aload_n C (i := 0) dX11_drawOf_4 rfl rfl ?_
  refine L_getC C (c' := 14) dX11_drawOf_5 sh_0 fl_X11_26 rfl rfl ?_
  refine L_getI C dX11_drawOf_8 sh_14 fl_X11_242 rfl ?_
  refine L_ldcw C dX11_drawOf_11 cn_X11_306 ?_
  refine L_imul C dX11_drawOf_14 ?_
  refine L_sipush C (v := 12345) dX11_drawOf_15 rfl ?_
  refine L_iadd C dX11_drawOf_18 ?_
  refine L_ldcw C dX11_drawOf_19 cn_X11_307 ?_
  refine L_iand C dX11_drawOf_22 ?_
  refine L_putI C dX11_drawOf_23 sh_14 fl_X11_242 rfl rfl rfl ?_
  refine L_iload_n C (i := 1) dX11_drawOf_26 rfl rfl ?_
  refine L_if_le C (tgt := 46) dX11_drawOf_27 rfl (fun p1 => ?_) (fun p1 => ?_)
  · refine L_iconst C (v := 0) dX11_drawOf_46 rfl ?_
    exact L_irI C dX11_drawOf_47 rfl (rr1 p1)
  · refine L_aload_n C (i := 0) dX11_drawOf_30 rfl rfl ?_
    refine L_getC C (c' := 14) dX11_drawOf_31 sh_0 fl_X11_26 rfl rfl ?_
    refine L_getI C dX11_drawOf_34 sh_14 fl_X11_242 rfl ?_
    refine L_ldcw C dX11_drawOf_37 cn_X11_308 ?_
    refine L_idiv C dX11_drawOf_40 (by decide) ?_
    refine L_iload_n C (i := 1) dX11_drawOf_41 rfl rfl ?_
    refine L_irem C dX11_drawOf_42 (dd2 p1) ?_
    refine L_goto C (tgt := 47) dX11_drawOf_43 rfl ?_
    exact L_irI C dX11_drawOf_47 rfl (rr3 p1)
theorem a_X11_drawOf {G : mG} {Q : Int32 → mM → Prop} {μ : mM} {x1 : Int32} (rr1 : x1 ≤ 0 → Q 0 (ms μ 14 2 ((((μ 14 2) * (1103515245 : Int32)) + (12345 : Int32)) &&& (2147483647 : Int32)))) (dd2 : ¬ x1 ≤ 0 → ¬ x1 = 0) (rr3 : ¬ x1 ≤ 0 → Q ((((((μ 14 2) * (1103515245 : Int32)) + (12345 : Int32)) &&& (2147483647 : Int32)) / 65536) - (((((μ 14 2) * (1103515245 : Int32)) + (12345 : Int32)) &&& (2147483647 : Int32)) / 65536) / x1 * x1) (ms μ 14 2 ((((μ 14 2) * (1103515245 : Int32)) + (12345 : Int32)) &&& (2147483647 : Int32)))) : CtI G mX11_drawOf [.ref (gb G + 0), .int x1] μ Q :=
  CtI.of pn_X11 (Nat.le_of_ble_eq_true rfl) (fun E C => k_X11_drawOf_0 C rr1 dd2 rr3)
set_option maxRecDepth 4000 in
theorem k_X4_digitsOf_0 {G : mG} {E : mE} {B : mB} {μ : mM} (C : Cx G mX4_digitsOf E) {c0 : Nat} (h0 : sh c0 = (0, 3)) {x1 : Int32} (kk1 : Wm G mX4_digitsOf E B μ 4 [(0, .ref (gb G + c0)), (1, .int x1), (2, .int 0), (3, .int 0)] []) : Wm G mX4_digitsOf E B μ 0 [(0, .ref (gb G + c0)), (1, .int x1)] [] := by
  refine L_iconst C (v := 0) dX4_digitsOf_0 rfl ?_
  refine L_istore_n C (i := 2) dX4_digitsOf_1 rfl (Nat.le_of_ble_eq_true rfl) ?_
  refine L_iconst C (v := 0) dX4_digitsOf_2 rfl ?_
  refine L_istore_n C (i := 3) dX4_digitsOf_3 rfl (Nat.le_of_ble_eq_true rfl) ?_
  exact kk1
theorem e_X4_digitsOf {G : mG} {Q : Int32 → mM → Prop} {μ : mM} {c0 : Nat} (h0 : sh c0 = (0, 3)) {x1 : Int32} (k : ∀ E, Cx G mX4_digitsOf E → Wm G mX4_digitsOf E (bm G mX4_digitsOf E (pI Q)) μ 0 [(0, .ref (gb G + c0)), (1, .int x1)] []) : CtI G mX4_digitsOf [.ref (gb G + c0), .int x1] μ Q := CtI.of pn_X4 (Nat.le_of_ble_eq_true rfl) k
set_option maxRecDepth 4000 in
theorem k_X4_digitsOf_4 {G : mG} {E : mE} {Q : Int32 → mM → Prop} {μ : mM} (C : Cx G mX4_digitsOf E) {c0 : Nat} (h0 : sh c0 = (0, 3)) {x1 : Int32} {x2 : Int32} {x3 : Int32} (rr1 : (μ c0 0) ≤ x3 → Q x2 μ) (kk2 : ¬ (μ c0 0) ≤ x3 → ¬ ((iush x1 ((4 : Int32) * x3)) &&& (15 : Int32)) = 0 → Wm G mX4_digitsOf E (bm G mX4_digitsOf E (pI Q)) μ 4 [(0, .ref (gb G + c0)), (1, .int x1), (2, .int ((x2 * (10 : Int32)) + ((((iush x1 ((4 : Int32) * x3)) &&& (15 : Int32)) >>> ((1 : Int32) &&& 31)) - (((iush x1 ((4 : Int32) * x3)) &&& (15 : Int32)) >>> ((3 : Int32) &&& 31))))), (3, .int (x3 + (1 : Int32)))] []) (kk3 : ¬ (μ c0 0) ≤ x3 → ((iush x1 ((4 : Int32) * x3)) &&& (15 : Int32)) = 0 → Wm G mX4_digitsOf E (bm G mX4_digitsOf E (pI Q)) μ 4 [(0, .ref (gb G + c0)), (1, .int x1), (2, .int ((x2 * (10 : Int32)) + ((-1) : Int32))), (3, .int (x3 + (1 : Int32)))] []) : Wm G mX4_digitsOf E (bm G mX4_digitsOf E (pI Q)) μ 4 [(0, .ref (gb G + c0)), (1, .int x1), (2, .int x2), (3, .int x3)] [] := by
  refine L_iload_n C (i := 3) dX4_digitsOf_4 rfl rfl ?_
  refine L_aload_n C (i := 0) dX4_digitsOf_5 rfl rfl ?_
  refine L_getI C dX4_digitsOf_6 h0 fl_X4_21 rfl ?_
  refine L_icmp_ge C (tgt := 29) dX4_digitsOf_9 rfl (fun p1 => ?_) (fun p1 => ?_)
  · refine L_iload_n C (i := 2) dX4_digitsOf_29 rfl rfl ?_
    exact L_irI C dX4_digitsOf_30 rfl (rr1 p1)
  · refine L_iload_n C (i := 2) dX4_digitsOf_12 rfl rfl ?_
    refine L_bipush C (v := 10) dX4_digitsOf_13 rfl ?_
    refine L_imul C dX4_digitsOf_15 ?_
    refine L_iload_n C (i := 1) dX4_digitsOf_16 rfl rfl ?_
    refine L_iload_n C (i := 3) dX4_digitsOf_17 rfl rfl ?_
    refine L_invSN2i C dX4_digitsOf_18 cal_X11_levelIn stc_X11_levelIn nk_X4_44 ⟨Nat.le_of_ble_eq_true rfl, Nat.le_of_ble_eq_true rfl⟩ ⟨Nat.le_of_ble_eq_true rfl, Nat.le_of_ble_eq_true rfl⟩ (Nat.le_of_ble_eq_true rfl) (a_X11_levelIn (fun p2 => ?_) (fun p3 => ?_))
    · refine L_iadd C dX4_digitsOf_21 ?_
      refine L_istore_n C (i := 2) dX4_digitsOf_22 rfl (Nat.le_of_ble_eq_true rfl) ?_
      refine L_iinc C (v := 1) dX4_digitsOf_23 rfl rfl (Nat.le_of_ble_eq_true rfl) ?_
      refine L_goto C (tgt := 4) dX4_digitsOf_26 rfl ?_
      exact kk2 p1 p2
    · refine L_iadd C dX4_digitsOf_21 ?_
      refine L_istore_n C (i := 2) dX4_digitsOf_22 rfl (Nat.le_of_ble_eq_true rfl) ?_
      refine L_iinc C (v := 1) dX4_digitsOf_23 rfl rfl (Nat.le_of_ble_eq_true rfl) ?_
      refine L_goto C (tgt := 4) dX4_digitsOf_26 rfl ?_
      exact kk3 p1 p3
set_option maxRecDepth 4000 in
theorem k_X11_drawn_0 {G : mG} {E : mE} {Q : Int32 → mM → Prop} {μ : mM} (C : Cx G mX11_drawn E)  (rr1 : ((μ 15 0) ≤ 0 ∨ (¬ (μ 15 0) ≤ 0 ∧ ¬ (μ 19 0) < 64)) → Q (-1) μ) (cc2 : ¬ (μ 15 0) ≤ 0 → (μ 19 0) < 64 → CtV G mX11_remember [.ref (gb G + 0)] μ (fun μ' => Wm G mX11_drawn E (bm G mX11_drawn E (pI Q)) μ' 28 [(0, .ref (gb G + 0))] [])) : Wm G mX11_drawn E (bm G mX11_drawn E (pI Q)) μ 0 [(0, .ref (gb G + 0))] [] := by
  refine L_aload_n C (i := 0) dX11_drawn_0 rfl rfl ?_
  refine L_invV0i C dX11_drawn_1 sh_0 cal_X11_hasPlan lk_X11_165 ⟨Nat.le_of_ble_eq_true rfl, Nat.le_of_ble_eq_true rfl⟩ ⟨Nat.le_of_ble_eq_true rfl, Nat.le_of_ble_eq_true rfl⟩ (Nat.le_of_ble_eq_true rfl) (a_X11_hasPlan (fun p1 => ?_) (fun p2 => ?_))
  · refine L_if_eq C (tgt := 22) dX11_drawn_4 rfl (fun p3 => ?_) (fun p3 => absurd p3 (by decide))
    refine L_iconst C (v := (-1)) dX11_drawn_22 rfl ?_
    exact L_irI C dX11_drawn_23 rfl (rr1 (Or.inl p1))
  · refine L_if_eq C (tgt := 22) dX11_drawn_4 rfl (fun p4 => absurd p4 (by decide)) (fun p4 => ?_)
    refine L_aload_n C (i := 0) dX11_drawn_7 rfl rfl ?_
    refine L_getC C (c' := 14) dX11_drawn_8 sh_0 fl_X11_26 rfl rfl ?_
    refine L_getC C (c' := 19) dX11_drawn_11 sh_14 fl_X11_90 rfl rfl ?_
    refine L_getI C dX11_drawn_14 sh_19 fl_X11_94 rfl ?_
    refine L_bipush C (v := 64) dX11_drawn_17 rfl ?_
    refine L_icmp_lt C (tgt := 24) dX11_drawn_19 rfl (fun p5 => ?_) (fun p5 => ?_)
    · refine L_aload_n C (i := 0) dX11_drawn_24 rfl rfl ?_
      refine L_invV0v C dX11_drawn_25 sh_0 cal_X11_remember lk_X11_143 ⟨Nat.le_of_ble_eq_true rfl, Nat.le_of_ble_eq_true rfl⟩ ⟨Nat.le_of_ble_eq_true rfl, Nat.le_of_ble_eq_true rfl⟩ (Nat.le_of_ble_eq_true rfl) ?_
      exact cc2 p2 p5
    · refine L_iconst C (v := (-1)) dX11_drawn_22 rfl ?_
      exact L_irI C dX11_drawn_23 rfl (rr1 (Or.inr ⟨p2, p5⟩))
theorem e_X11_drawn {G : mG} {Q : Int32 → mM → Prop} {μ : mM}  (k : ∀ E, Cx G mX11_drawn E → Wm G mX11_drawn E (bm G mX11_drawn E (pI Q)) μ 0 [(0, .ref (gb G + 0))] []) : CtI G mX11_drawn [.ref (gb G + 0)] μ Q := CtI.of pn_X11 (Nat.le_of_ble_eq_true rfl) k
set_option maxRecDepth 4000 in
theorem k_X11_drawn_28 {G : mG} {E : mE} {B : mB} {μ : mM} (C : Cx G mX11_drawn E)  (kk1 : Wm G mX11_drawn E B μ 32 [(0, .ref (gb G + 0)), (1, .int 0), (2, .int 0)] []) : Wm G mX11_drawn E B μ 28 [(0, .ref (gb G + 0))] [] := by
  refine L_iconst C (v := 0) dX11_drawn_28 rfl ?_
  refine L_istore_n C (i := 1) dX11_drawn_29 rfl (Nat.le_of_ble_eq_true rfl) ?_
  refine L_iconst C (v := 0) dX11_drawn_30 rfl ?_
  refine L_istore_n C (i := 2) dX11_drawn_31 rfl (Nat.le_of_ble_eq_true rfl) ?_
  exact kk1
set_option maxRecDepth 4000 in
theorem k_X11_drawn_32 {G : mG} {E : mE} {Q : Int32 → mM → Prop} {μ : mM} (C : Cx G mX11_drawn E) {x1 : Int32} {x2 : Int32} (cc1 : (μ 15 0) ≤ x2 → CtV G mX11_append [.ref (gb G + 0), .int x1] μ (fun μ' => Wm G mX11_drawn E (bm G mX11_drawn E (pI Q)) μ' 113 [(0, .ref (gb G + 0)), (1, .int x1)] [])) (cc2 : ¬ (μ 15 0) ≤ x2 → CtI G mX4_levelsLeft [.ref (gb G + 15), .int x1, .int x2] μ (fun r μ' => Wm G mX11_drawn E (bm G mX11_drawn E (pI Q)) μ' 58 [(0, .ref (gb G + 0)), (1, .int x1), (2, .int x2)] [.int r])) : Wm G mX11_drawn E (bm G mX11_drawn E (pI Q)) μ 32 [(0, .ref (gb G + 0)), (1, .int x1), (2, .int x2)] [] := by
  refine L_iload_n C (i := 2) dX11_drawn_32 rfl rfl ?_
  refine L_aload_n C (i := 0) dX11_drawn_33 rfl rfl ?_
  refine L_getC C (c' := 14) dX11_drawn_34 sh_0 fl_X11_26 rfl rfl ?_
  refine L_getC C (c' := 15) dX11_drawn_37 sh_14 fl_X11_77 rfl rfl ?_
  refine L_getI C dX11_drawn_40 sh_15 fl_X11_208 rfl ?_
  refine L_icmp_ge C (tgt := 108) dX11_drawn_43 rfl (fun p1 => ?_) (fun p1 => ?_)
  · refine L_aload_n C (i := 0) dX11_drawn_108 rfl rfl ?_
    refine L_iload_n C (i := 1) dX11_drawn_109 rfl rfl ?_
    refine L_sub [0, 1] rfl ?_
    refine L_invV1v C dX11_drawn_110 sh_0 cal_X11_append lk_X11_146 ⟨Nat.le_of_ble_eq_true rfl, Nat.le_of_ble_eq_true rfl⟩ ⟨Nat.le_of_ble_eq_true rfl, Nat.le_of_ble_eq_true rfl⟩ (Nat.le_of_ble_eq_true rfl) ?_
    exact cc1 p1
  · refine L_aload_n C (i := 0) dX11_drawn_46 rfl rfl ?_
    refine L_getC C (c' := 14) dX11_drawn_47 sh_0 fl_X11_26 rfl rfl ?_
    refine L_getC C (c' := 15) dX11_drawn_50 sh_14 fl_X11_77 rfl rfl ?_
    refine L_iload_n C (i := 1) dX11_drawn_53 rfl rfl ?_
    refine L_iload_n C (i := 2) dX11_drawn_54 rfl rfl ?_
    refine L_invV2i C dX11_drawn_55 sh_15 cal_X4_levelsLeft lk_X11_228 ⟨Nat.le_of_ble_eq_true rfl, Nat.le_of_ble_eq_true rfl⟩ ⟨Nat.le_of_ble_eq_true rfl, Nat.le_of_ble_eq_true rfl⟩ (Nat.le_of_ble_eq_true rfl) ?_
    exact cc2 p1
set_option maxRecDepth 4000 in
theorem k_X11_drawn_58 {G : mG} {E : mE} {Q : Int32 → mM → Prop} {μ : mM} (C : Cx G mX11_drawn E) {x1 : Int32} {x2 : Int32} {sx0 : Int32} (cc1 : CtI G mJ6_bitCount_0f7a4 [.int sx0] μ (fun r μ' => Wm G mX11_drawn E (bm G mX11_drawn E (pI Q)) μ' 64 [(0, .ref (gb G + 0)), (1, .int x1), (2, .int x2), (3, .int sx0)] [.int r, .ref (gb G + 0)])) : Wm G mX11_drawn E (bm G mX11_drawn E (pI Q)) μ 58 [(0, .ref (gb G + 0)), (1, .int x1), (2, .int x2)] [.int sx0] := by
  refine L_istore_n C (i := 3) dX11_drawn_58 rfl (Nat.le_of_ble_eq_true rfl) ?_
  refine L_aload_n C (i := 0) dX11_drawn_59 rfl rfl ?_
  refine L_iload_n C (i := 3) dX11_drawn_60 rfl rfl ?_
  refine L_invS1i C dX11_drawn_61 cal_J6_bitCount_0f7a4 stc_J6_bitCount_0f7a4 lk_X11_231 ⟨Nat.le_of_ble_eq_true rfl, Nat.le_of_ble_eq_true rfl⟩ ⟨Nat.le_of_ble_eq_true rfl, Nat.le_of_ble_eq_true rfl⟩ (Nat.le_of_ble_eq_true rfl) ?_
  exact cc1
set_option maxRecDepth 4000 in
theorem k_X11_drawn_64 {G : mG} {E : mE} {Q : Int32 → mM → Prop} {μ : mM} (C : Cx G mX11_drawn E) {x1 : Int32} {x2 : Int32} {x3 : Int32} {sx1 : Int32} (cc1 : CtI G mX11_drawOf [.ref (gb G + 0), .int sx1] μ (fun r μ' => Wm G mX11_drawn E (bm G mX11_drawn E (pI Q)) μ' 67 [(0, .ref (gb G + 0)), (1, .int x1), (2, .int x2), (3, .int x3)] [.int r])) : Wm G mX11_drawn E (bm G mX11_drawn E (pI Q)) μ 64 [(0, .ref (gb G + 0)), (1, .int x1), (2, .int x2), (3, .int x3)] [.int sx1, .ref (gb G + 0)] := by
  refine L_invV1i C dX11_drawn_64 sh_0 cal_X11_drawOf lk_X11_236 ⟨Nat.le_of_ble_eq_true rfl, Nat.le_of_ble_eq_true rfl⟩ ⟨Nat.le_of_ble_eq_true rfl, Nat.le_of_ble_eq_true rfl⟩ (Nat.le_of_ble_eq_true rfl) ?_
  exact cc1
set_option maxRecDepth 4000 in
theorem k_X11_drawn_67 {G : mG} {E : mE} {B : mB} {μ : mM} (C : Cx G mX11_drawn E) {x1 : Int32} {x2 : Int32} {x3 : Int32} {sx0 : Int32} (kk1 : Wm G mX11_drawn E B μ 72 [(0, .ref (gb G + 0)), (1, .int x1), (2, .int x2), (3, .int x3), (4, .int sx0), (5, .int 0)] []) : Wm G mX11_drawn E B μ 67 [(0, .ref (gb G + 0)), (1, .int x1), (2, .int x2), (3, .int x3)] [.int sx0] := by
  refine L_istore C dX11_drawn_67 (Nat.le_of_ble_eq_true rfl) ?_
  refine L_iconst C (v := 0) dX11_drawn_69 rfl ?_
  refine L_istore C dX11_drawn_70 (Nat.le_of_ble_eq_true rfl) ?_
  exact kk1
set_option maxRecDepth 4000 in
theorem k_X11_drawn_72 {G : mG} {E : mE} {B : mB} {μ : mM} (C : Cx G mX11_drawn E) {x1 : Int32} {x2 : Int32} {x3 : Int32} {x4 : Int32} {x5 : Int32} (kk1 : x4 ≤ x5 → Wm G mX11_drawn E B μ 32 [(0, .ref (gb G + 0)), (1, .int (x1 ||| ((x3 &&& (-x3)) <<< (((4 : Int32) * x2) &&& 31)))), (2, .int (x2 + (1 : Int32)))] []) (kk2 : ¬ x4 ≤ x5 → Wm G mX11_drawn E B μ 72 [(0, .ref (gb G + 0)), (1, .int x1), (2, .int x2), (3, .int (x3 &&& (x3 - (1 : Int32)))), (4, .int x4), (5, .int (x5 + (1 : Int32)))] []) : Wm G mX11_drawn E B μ 72 [(0, .ref (gb G + 0)), (1, .int x1), (2, .int x2), (3, .int x3), (4, .int x4), (5, .int x5)] [] := by
  refine L_iload C dX11_drawn_72 rfl ?_
  refine L_iload C dX11_drawn_74 rfl ?_
  refine L_icmp_ge C (tgt := 91) dX11_drawn_76 rfl (fun p1 => ?_) (fun p1 => ?_)
  · refine L_iload_n C (i := 1) dX11_drawn_91 rfl rfl ?_
    refine L_iload_n C (i := 3) dX11_drawn_92 rfl rfl ?_
    refine L_iload_n C (i := 3) dX11_drawn_93 rfl rfl ?_
    refine L_ineg C dX11_drawn_94 ?_
    refine L_iand C dX11_drawn_95 ?_
    refine L_iconst C (v := 4) dX11_drawn_96 rfl ?_
    refine L_iload_n C (i := 2) dX11_drawn_97 rfl rfl ?_
    refine L_imul C dX11_drawn_98 ?_
    refine L_ishl C dX11_drawn_99 ?_
    refine L_ior C dX11_drawn_100 ?_
    refine L_istore_n C (i := 1) dX11_drawn_101 rfl (Nat.le_of_ble_eq_true rfl) ?_
    refine L_iinc C (v := 1) dX11_drawn_102 rfl rfl (Nat.le_of_ble_eq_true rfl) ?_
    refine L_goto C (tgt := 32) dX11_drawn_105 rfl ?_
    refine L_sub [0, 1, 2] rfl ?_
    exact kk1 p1
  · refine L_iload_n C (i := 3) dX11_drawn_79 rfl rfl ?_
    refine L_iload_n C (i := 3) dX11_drawn_80 rfl rfl ?_
    refine L_iconst C (v := 1) dX11_drawn_81 rfl ?_
    refine L_isub C dX11_drawn_82 ?_
    refine L_iand C dX11_drawn_83 ?_
    refine L_istore_n C (i := 3) dX11_drawn_84 rfl (Nat.le_of_ble_eq_true rfl) ?_
    refine L_iinc C (v := 1) dX11_drawn_85 rfl rfl (Nat.le_of_ble_eq_true rfl) ?_
    refine L_goto C (tgt := 72) dX11_drawn_88 rfl ?_
    exact kk2 p1
set_option maxRecDepth 4000 in
theorem k_X11_drawn_113 {G : mG} {E : mE} {Q : Int32 → mM → Prop} {μ : mM} (C : Cx G mX11_drawn E) {x1 : Int32} (cc1 : CtI G mX4_digitsOf [.ref (gb G + 15), .int x1] μ (fun r μ' => Wm G mX11_drawn E (bm G mX11_drawn E (pI Q)) μ' 124 [] [.int r])) : Wm G mX11_drawn E (bm G mX11_drawn E (pI Q)) μ 113 [(0, .ref (gb G + 0)), (1, .int x1)] [] := by
  refine L_aload_n C (i := 0) dX11_drawn_113 rfl rfl ?_
  refine L_getC C (c' := 14) dX11_drawn_114 sh_0 fl_X11_26 rfl rfl ?_
  refine L_getC C (c' := 15) dX11_drawn_117 sh_14 fl_X11_77 rfl rfl ?_
  refine L_iload_n C (i := 1) dX11_drawn_120 rfl rfl ?_
  refine L_sub [] rfl ?_
  refine L_invV1i C dX11_drawn_121 sh_15 cal_X4_digitsOf lk_X11_239 ⟨Nat.le_of_ble_eq_true rfl, Nat.le_of_ble_eq_true rfl⟩ ⟨Nat.le_of_ble_eq_true rfl, Nat.le_of_ble_eq_true rfl⟩ (Nat.le_of_ble_eq_true rfl) ?_
  exact cc1
set_option maxRecDepth 4000 in
theorem k_X11_drawn_124 {G : mG} {E : mE} {Q : Int32 → mM → Prop} {μ : mM} (C : Cx G mX11_drawn E) {sx0 : Int32} (rr1 : Q sx0 μ) : Wm G mX11_drawn E (bm G mX11_drawn E (pI Q)) μ 124 [] [.int sx0] := by
  exact L_irI C dX11_drawn_124 rfl (rr1)
set_option maxRecDepth 4000 in
theorem k_X11_draws_0 {G : mG} {E : mE} {Q : Int32 → mM → Prop} {μ : mM} (C : Cx G mX11_draws E) {x1 : Int32} (rr1 : 0 ≤ x1 → Q (μ 14 2) (ms μ 14 2 x1)) (rr2 : ¬ 0 ≤ x1 → Q (-1) μ) : Wm G mX11_draws E (bm G mX11_draws E (pI Q)) μ 0 [(0, .ref (gb G + 0)), (1, .int x1)] [] := by
  refine L_iload_n C (i := 1) dX11_draws_0 rfl rfl ?_
  refine L_if_ge C (tgt := 6) dX11_draws_1 rfl (fun p1 => ?_) (fun p1 => ?_)
  · refine L_aload_n C (i := 0) dX11_draws_6 rfl rfl ?_
    refine L_getC C (c' := 14) dX11_draws_7 sh_0 fl_X11_26 rfl rfl ?_
    refine L_getI C dX11_draws_10 sh_14 fl_X11_242 rfl ?_
    refine L_istore_n C (i := 2) dX11_draws_13 rfl (Nat.le_of_ble_eq_true rfl) ?_
    refine L_aload_n C (i := 0) dX11_draws_14 rfl rfl ?_
    refine L_getC C (c' := 14) dX11_draws_15 sh_0 fl_X11_26 rfl rfl ?_
    refine L_iload_n C (i := 1) dX11_draws_18 rfl rfl ?_
    refine L_putI C dX11_draws_19 sh_14 fl_X11_242 rfl rfl rfl ?_
    refine L_iload_n C (i := 2) dX11_draws_22 rfl rfl ?_
    exact L_irI C dX11_draws_23 rfl (rr1 p1)
  · refine L_iconst C (v := (-1)) dX11_draws_4 rfl ?_
    exact L_irI C dX11_draws_5 rfl (rr2 p1)
theorem a_X11_draws {G : mG} {Q : Int32 → mM → Prop} {μ : mM} {x1 : Int32} (rr1 : 0 ≤ x1 → Q (μ 14 2) (ms μ 14 2 x1)) (rr2 : ¬ 0 ≤ x1 → Q (-1) μ) : CtI G mX11_draws [.ref (gb G + 0), .int x1] μ Q :=
  CtI.of pn_X11 (Nat.le_of_ble_eq_true rfl) (fun E C => k_X11_draws_0 C rr1 rr2)
set_option maxRecDepth 4000 in
theorem k_X11_gain_0 {G : mG} {E : mE} {Q : Int32 → mM → Prop} {μ : mM} (C : Cx G mX11_gain E) {x1 : Int32} (rr1 : (x1 < 0 ∨ (¬ x1 < 0 ∧ (μ 19 0) ≤ x1)) → Q (-1) μ) (cc2 : ¬ x1 < 0 → ¬ (μ 19 0) ≤ x1 → CtI G mX2_gainOf [.ref (gb G + 22), .ref (gb G + 19), .int x1] μ (fun r μ' => Wm G mX11_gain E (bm G mX11_gain E (pI Q)) μ' 23 [] [.int r])) : Wm G mX11_gain E (bm G mX11_gain E (pI Q)) μ 0 [(0, .ref (gb G + 0)), (1, .int x1)] [] := by
  refine L_aload_n C (i := 0) dX11_gain_0 rfl rfl ?_
  refine L_iload_n C (i := 1) dX11_gain_1 rfl rfl ?_
  refine L_invV1i C dX11_gain_2 sh_0 cal_X11_isRow lk_X11_149 ⟨Nat.le_of_ble_eq_true rfl, Nat.le_of_ble_eq_true rfl⟩ ⟨Nat.le_of_ble_eq_true rfl, Nat.le_of_ble_eq_true rfl⟩ (Nat.le_of_ble_eq_true rfl) (a_X11_isRow (fun p1 => ?_) (fun p2 p3 => ?_))
  · refine L_if_eq C (tgt := 26) dX11_gain_5 rfl (fun p4 => ?_) (fun p4 => absurd p4 (by decide))
    refine L_iconst C (v := (-1)) dX11_gain_26 rfl ?_
    exact L_irI C dX11_gain_27 rfl (rr1 p1)
  · refine L_if_eq C (tgt := 26) dX11_gain_5 rfl (fun p5 => absurd p5 (by decide)) (fun p5 => ?_)
    refine L_aload_n C (i := 0) dX11_gain_8 rfl rfl ?_
    refine L_getC C (c' := 22) dX11_gain_9 sh_0 fl_X11_33 rfl rfl ?_
    refine L_aload_n C (i := 0) dX11_gain_12 rfl rfl ?_
    refine L_getC C (c' := 14) dX11_gain_13 sh_0 fl_X11_26 rfl rfl ?_
    refine L_getC C (c' := 19) dX11_gain_16 sh_14 fl_X11_90 rfl rfl ?_
    refine L_iload_n C (i := 1) dX11_gain_19 rfl rfl ?_
    refine L_sub [] rfl ?_
    refine L_invV2i C dX11_gain_20 sh_22 cal_X2_gainOf lk_X11_185 ⟨Nat.le_of_ble_eq_true rfl, Nat.le_of_ble_eq_true rfl⟩ ⟨Nat.le_of_ble_eq_true rfl, Nat.le_of_ble_eq_true rfl⟩ (Nat.le_of_ble_eq_true rfl) ?_
    exact cc2 p2 p3
theorem e_X11_gain {G : mG} {Q : Int32 → mM → Prop} {μ : mM} {x1 : Int32} (k : ∀ E, Cx G mX11_gain E → Wm G mX11_gain E (bm G mX11_gain E (pI Q)) μ 0 [(0, .ref (gb G + 0)), (1, .int x1)] []) : CtI G mX11_gain [.ref (gb G + 0), .int x1] μ Q := CtI.of pn_X11 (Nat.le_of_ble_eq_true rfl) k
set_option maxRecDepth 4000 in
theorem k_X11_gain_23 {G : mG} {E : mE} {Q : Int32 → mM → Prop} {μ : mM} (C : Cx G mX11_gain E) {sx0 : Int32} (rr1 : Q sx0 μ) : Wm G mX11_gain E (bm G mX11_gain E (pI Q)) μ 23 [] [.int sx0] := by
  refine L_goto C (tgt := 27) dX11_gain_23 rfl ?_
  exact L_irI C dX11_gain_27 rfl (rr1)
set_option maxRecDepth 4000 in
theorem k_X2_mostOfOneSet_0 {G : mG} {E : mE} {B : mB} {μ : mM} (C : Cx G mX2_mostOfOneSet E)  (kk1 : Wm G mX2_mostOfOneSet E B μ 4 [(0, .ref (gb G + 22)), (1, .int 0), (2, .int 0)] []) : Wm G mX2_mostOfOneSet E B μ 0 [(0, .ref (gb G + 22))] [] := by
  refine L_iconst C (v := 0) dX2_mostOfOneSet_0 rfl ?_
  refine L_istore_n C (i := 1) dX2_mostOfOneSet_1 rfl (Nat.le_of_ble_eq_true rfl) ?_
  refine L_iconst C (v := 0) dX2_mostOfOneSet_2 rfl ?_
  refine L_istore_n C (i := 2) dX2_mostOfOneSet_3 rfl (Nat.le_of_ble_eq_true rfl) ?_
  exact kk1
theorem e_X2_mostOfOneSet {G : mG} {Q : Int32 → mM → Prop} {μ : mM}  (k : ∀ E, Cx G mX2_mostOfOneSet E → Wm G mX2_mostOfOneSet E (bm G mX2_mostOfOneSet E (pI Q)) μ 0 [(0, .ref (gb G + 22))] []) : CtI G mX2_mostOfOneSet [.ref (gb G + 22)] μ Q := CtI.of pn_X2 (Nat.le_of_ble_eq_true rfl) k
set_option maxRecDepth 4000 in
theorem k_X2_mostOfOneSet_4 {G : mG} {E : mE} {Q : Int32 → mM → Prop} {μ : mM} (C : Cx G mX2_mostOfOneSet E) {x1 : Int32} {x2 : Int32} (rr1 : (μ 23 0) ≤ x2 → Q x1 μ) (ss2 : ¬ (μ 23 0) ≤ x2 → vp_in x2 57) (kk3 : ¬ (μ 23 0) ≤ x2 → Wm G mX2_mostOfOneSet E (bm G mX2_mostOfOneSet E (pI Q)) μ 28 [(0, .ref (gb G + 22)), (1, .int x1), (2, .int x2), (3, .int 0), (4, .int (μ 25 x2.toNatClampNeg))] []) : Wm G mX2_mostOfOneSet E (bm G mX2_mostOfOneSet E (pI Q)) μ 4 [(0, .ref (gb G + 22)), (1, .int x1), (2, .int x2)] [] := by
  refine L_iload_n C (i := 2) dX2_mostOfOneSet_4 rfl rfl ?_
  refine L_aload_n C (i := 0) dX2_mostOfOneSet_5 rfl rfl ?_
  refine L_getC C (c' := 23) dX2_mostOfOneSet_6 sh_22 fl_X2_12 rfl rfl ?_
  refine L_getI C dX2_mostOfOneSet_9 sh_23 fl_X2_31 rfl ?_
  refine L_icmp_ge C (tgt := 88) dX2_mostOfOneSet_12 rfl (fun p1 => ?_) (fun p1 => ?_)
  · refine L_iload_n C (i := 1) dX2_mostOfOneSet_88 rfl rfl ?_
    exact L_irI C dX2_mostOfOneSet_89 rfl (rr1 p1)
  · refine L_iconst C (v := 0) dX2_mostOfOneSet_15 rfl ?_
    refine L_istore_n C (i := 3) dX2_mostOfOneSet_16 rfl (Nat.le_of_ble_eq_true rfl) ?_
    refine L_aload_n C (i := 0) dX2_mostOfOneSet_17 rfl rfl ?_
    refine L_getC C (c' := 23) dX2_mostOfOneSet_18 sh_22 fl_X2_12 rfl rfl ?_
    refine L_getC C (c' := 25) dX2_mostOfOneSet_21 sh_23 fl_X2_28 rfl rfl ?_
    refine L_iload_n C (i := 2) dX2_mostOfOneSet_24 rfl rfl ?_
    refine L_iald C dX2_mostOfOneSet_25 sh_25 (ss2 p1) ?_
    refine L_istore C dX2_mostOfOneSet_26 (Nat.le_of_ble_eq_true rfl) ?_
    exact kk3 p1
set_option maxRecDepth 4000 in
theorem k_X2_mostOfOneSet_28 {G : mG} {E : mE} {B : mB} {μ : mM} (C : Cx G mX2_mostOfOneSet E) {x1 : Int32} {x2 : Int32} {x3 : Int32} {x4 : Int32} (ss1 : vp_in (x2 + (1 : Int32)) 57) (kk2 : ((μ 25 (x2 + (1 : Int32)).toNatClampNeg) ≤ x4 ∨ (¬ (μ 25 (x2 + (1 : Int32)).toNatClampNeg) ≤ x4 ∧ 1200 ≤ x4)) → Wm G mX2_mostOfOneSet E B μ 76 [(0, .ref (gb G + 22)), (1, .int x1), (2, .int x2), (3, .int x3)] []) (ss3 : ¬ (μ 25 (x2 + (1 : Int32)).toNatClampNeg) ≤ x4 → ¬ 1200 ≤ x4 → vp_in x4 1200) (kk4 : ¬ (μ 25 (x2 + (1 : Int32)).toNatClampNeg) ≤ x4 → ¬ 1200 ≤ x4 → ∀ v1 : Int32, (((μ 29 x4.toNatClampNeg) = 0 ∧ v1 = 0) ∨ (¬ (μ 29 x4.toNatClampNeg) = 0 ∧ v1 = 1)) → Wm G mX2_mostOfOneSet E B μ 28 [(0, .ref (gb G + 22)), (1, .int x1), (2, .int x2), (3, .int (x3 + v1)), (4, .int (x4 + (1 : Int32)))] []) : Wm G mX2_mostOfOneSet E B μ 28 [(0, .ref (gb G + 22)), (1, .int x1), (2, .int x2), (3, .int x3), (4, .int x4)] [] := by
  refine L_iload C dX2_mostOfOneSet_28 rfl ?_
  refine L_aload_n C (i := 0) dX2_mostOfOneSet_30 rfl rfl ?_
  refine L_getC C (c' := 23) dX2_mostOfOneSet_31 sh_22 fl_X2_12 rfl rfl ?_
  refine L_getC C (c' := 25) dX2_mostOfOneSet_34 sh_23 fl_X2_28 rfl rfl ?_
  refine L_iload_n C (i := 2) dX2_mostOfOneSet_37 rfl rfl ?_
  refine L_iconst C (v := 1) dX2_mostOfOneSet_38 rfl ?_
  refine L_iadd C dX2_mostOfOneSet_39 ?_
  refine L_iald C dX2_mostOfOneSet_40 sh_25 (ss1) ?_
  refine L_icmp_ge C (tgt := 76) dX2_mostOfOneSet_41 rfl (fun p1 => ?_) (fun p1 => ?_)
  · refine L_sub [0, 1, 2, 3] rfl ?_
    exact kk2 (Or.inl p1)
  · refine L_iload C dX2_mostOfOneSet_44 rfl ?_
    refine L_sipush C (v := 1200) dX2_mostOfOneSet_46 rfl ?_
    refine L_icmp_ge C (tgt := 76) dX2_mostOfOneSet_49 rfl (fun p2 => ?_) (fun p2 => ?_)
    · refine L_sub [0, 1, 2, 3] rfl ?_
      exact kk2 (Or.inr ⟨p1, p2⟩)
    · refine L_iload_n C (i := 3) dX2_mostOfOneSet_52 rfl rfl ?_
      refine L_aload_n C (i := 0) dX2_mostOfOneSet_53 rfl rfl ?_
      refine L_getC C (c' := 29) dX2_mostOfOneSet_54 sh_22 fl_X2_22 rfl rfl ?_
      refine L_iload C dX2_mostOfOneSet_57 rfl ?_
      refine L_iald C dX2_mostOfOneSet_59 sh_29 (ss3 p1 p2) ?_
      refine phi (fun v1 : Int32 => Wm G mX2_mostOfOneSet E B μ 68 [(0, .ref (gb G + 22)), (1, .int x1), (2, .int x2), (4, .int x4)] [.int v1, .int x3]) (fun v1 : Int32 => ((μ 29 x4.toNatClampNeg) = 0 ∧ v1 = 0) ∨ (¬ (μ 29 x4.toNatClampNeg) = 0 ∧ v1 = 1)) (fun H => ?_) (fun v1 hv1 => ?_)
      · refine L_if_eq C (tgt := 67) dX2_mostOfOneSet_60 rfl (fun p3 => ?_) (fun p3 => ?_)
        · refine L_iconst C (v := 0) dX2_mostOfOneSet_67 rfl ?_
          refine L_sub [0, 1, 2, 4] rfl ?_
          exact H _ (Or.inl ⟨p3, rfl⟩)
        · refine L_iconst C (v := 1) dX2_mostOfOneSet_63 rfl ?_
          refine L_goto C (tgt := 68) dX2_mostOfOneSet_64 rfl ?_
          refine L_sub [0, 1, 2, 4] rfl ?_
          exact H _ (Or.inr ⟨p3, rfl⟩)
      refine L_iadd C dX2_mostOfOneSet_68 ?_
      refine L_istore_n C (i := 3) dX2_mostOfOneSet_69 rfl (Nat.le_of_ble_eq_true rfl) ?_
      refine L_iinc C (v := 1) dX2_mostOfOneSet_70 rfl rfl (Nat.le_of_ble_eq_true rfl) ?_
      refine L_goto C (tgt := 28) dX2_mostOfOneSet_73 rfl ?_
      exact kk4 p1 p2 v1 hv1
set_option maxRecDepth 4000 in
theorem k_X2_mostOfOneSet_76 {G : mG} {E : mE} {Q : Int32 → mM → Prop} {μ : mM} (C : Cx G mX2_mostOfOneSet E) {x1 : Int32} {x2 : Int32} {x3 : Int32} (kk1 : Wm G mX2_mostOfOneSet E (bm G mX2_mostOfOneSet E (pI Q)) μ 4 [(0, .ref (gb G + 22)), (1, .int (if x1 < x3 then x3 else x1)), (2, .int (x2 + (1 : Int32)))] []) : Wm G mX2_mostOfOneSet E (bm G mX2_mostOfOneSet E (pI Q)) μ 76 [(0, .ref (gb G + 22)), (1, .int x1), (2, .int x2), (3, .int x3)] [] := by
  refine L_iload_n C (i := 1) dX2_mostOfOneSet_76 rfl rfl ?_
  refine L_iload_n C (i := 3) dX2_mostOfOneSet_77 rfl rfl ?_
  refine L_max C dX2_mostOfOneSet_78 lk_X2_72 mmax_stat math_ini mmax_code (Nat.le_of_ble_eq_true rfl) (Nat.le_of_ble_eq_true rfl) (Nat.le_of_ble_eq_true rfl) ⟨Nat.le_of_ble_eq_true rfl, Nat.le_of_ble_eq_true rfl⟩ ?_
  refine L_istore_n C (i := 1) dX2_mostOfOneSet_81 rfl (Nat.le_of_ble_eq_true rfl) ?_
  refine L_iinc C (v := 1) dX2_mostOfOneSet_82 rfl rfl (Nat.le_of_ble_eq_true rfl) ?_
  refine L_goto C (tgt := 4) dX2_mostOfOneSet_85 rfl ?_
  refine L_sub [0, 1, 2] rfl ?_
  exact kk1
set_option maxRecDepth 4000 in
theorem k_X11_least_0 {G : mG} {E : mE} {Q : Int32 → mM → Prop} {μ : mM} (C : Cx G mX11_least E)  (rr1 : (μ 15 0) ≤ 0 → Q (-1) μ) (cc2 : ¬ (μ 15 0) ≤ 0 → CtI G mX2_mostOfOneSet [.ref (gb G + 22)] μ (fun r μ' => Wm G mX11_least E (bm G mX11_least E (pI Q)) μ' 14 [] [.int r])) : Wm G mX11_least E (bm G mX11_least E (pI Q)) μ 0 [(0, .ref (gb G + 0))] [] := by
  refine L_aload_n C (i := 0) dX11_least_0 rfl rfl ?_
  refine L_invV0i C dX11_least_1 sh_0 cal_X11_hasPlan lk_X11_165 ⟨Nat.le_of_ble_eq_true rfl, Nat.le_of_ble_eq_true rfl⟩ ⟨Nat.le_of_ble_eq_true rfl, Nat.le_of_ble_eq_true rfl⟩ (Nat.le_of_ble_eq_true rfl) (a_X11_hasPlan (fun p1 => ?_) (fun p2 => ?_))
  · refine L_if_eq C (tgt := 17) dX11_least_4 rfl (fun p3 => ?_) (fun p3 => absurd p3 (by decide))
    refine L_iconst C (v := (-1)) dX11_least_17 rfl ?_
    exact L_irI C dX11_least_18 rfl (rr1 p1)
  · refine L_if_eq C (tgt := 17) dX11_least_4 rfl (fun p4 => absurd p4 (by decide)) (fun p4 => ?_)
    refine L_aload_n C (i := 0) dX11_least_7 rfl rfl ?_
    refine L_getC C (c' := 22) dX11_least_8 sh_0 fl_X11_33 rfl rfl ?_
    refine L_sub [] rfl ?_
    refine L_invV0i C dX11_least_11 sh_22 cal_X2_mostOfOneSet lk_X11_245 ⟨Nat.le_of_ble_eq_true rfl, Nat.le_of_ble_eq_true rfl⟩ ⟨Nat.le_of_ble_eq_true rfl, Nat.le_of_ble_eq_true rfl⟩ (Nat.le_of_ble_eq_true rfl) ?_
    exact cc2 p2
theorem e_X11_least {G : mG} {Q : Int32 → mM → Prop} {μ : mM}  (k : ∀ E, Cx G mX11_least E → Wm G mX11_least E (bm G mX11_least E (pI Q)) μ 0 [(0, .ref (gb G + 0))] []) : CtI G mX11_least [.ref (gb G + 0)] μ Q := CtI.of pn_X11 (Nat.le_of_ble_eq_true rfl) k
set_option maxRecDepth 4000 in
theorem k_X11_least_14 {G : mG} {E : mE} {Q : Int32 → mM → Prop} {μ : mM} (C : Cx G mX11_least E) {sx0 : Int32} (rr1 : Q sx0 μ) : Wm G mX11_least E (bm G mX11_least E (pI Q)) μ 14 [] [.int sx0] := by
  refine L_goto C (tgt := 18) dX11_least_14 rfl ?_
  exact L_irI C dX11_least_18 rfl (rr1)
set_option maxRecDepth 4000 in
theorem k_X4_rowsIn_0 {G : mG} {E : mE} {B : mB} {μ : mM} (C : Cx G mX4_rowsIn E) {c0 : Nat} (h0 : sh c0 = (0, 3)) {x1 : Int32} (kk1 : Wm G mX4_rowsIn E B μ 4 [(0, .ref (gb G + c0)), (1, .int x1), (2, .int 1), (3, .int 0)] []) : Wm G mX4_rowsIn E B μ 0 [(0, .ref (gb G + c0)), (1, .int x1)] [] := by
  refine L_iconst C (v := 1) dX4_rowsIn_0 rfl ?_
  refine L_istore_n C (i := 2) dX4_rowsIn_1 rfl (Nat.le_of_ble_eq_true rfl) ?_
  refine L_iconst C (v := 0) dX4_rowsIn_2 rfl ?_
  refine L_istore_n C (i := 3) dX4_rowsIn_3 rfl (Nat.le_of_ble_eq_true rfl) ?_
  exact kk1
theorem e_X4_rowsIn {G : mG} {Q : Int32 → mM → Prop} {μ : mM} {c0 : Nat} (h0 : sh c0 = (0, 3)) {x1 : Int32} (k : ∀ E, Cx G mX4_rowsIn E → Wm G mX4_rowsIn E (bm G mX4_rowsIn E (pI Q)) μ 0 [(0, .ref (gb G + c0)), (1, .int x1)] []) : CtI G mX4_rowsIn [.ref (gb G + c0), .int x1] μ Q := CtI.of pn_X4 (Nat.le_of_ble_eq_true rfl) k
set_option maxRecDepth 4000 in
theorem k_X4_rowsIn_4 {G : mG} {E : mE} {Q : Int32 → mM → Prop} {μ : mM} (C : Cx G mX4_rowsIn E) {c0 : Nat} (h0 : sh c0 = (0, 3)) {x1 : Int32} {x2 : Int32} {x3 : Int32} (rr1 : (μ c0 0) ≤ x3 → Q x2 μ) (cc2 : ¬ (μ c0 0) ≤ x3 → CtI G mJ6_bitCount_0f7a4 [.int ((iush x1 ((4 : Int32) * x3)) &&& (15 : Int32))] μ (fun r μ' => Wm G mX4_rowsIn E (bm G mX4_rowsIn E (pI Q)) μ' 24 [(0, .ref (gb G + c0)), (1, .int x1), (3, .int x3)] [.int r, .int x2])) : Wm G mX4_rowsIn E (bm G mX4_rowsIn E (pI Q)) μ 4 [(0, .ref (gb G + c0)), (1, .int x1), (2, .int x2), (3, .int x3)] [] := by
  refine L_iload_n C (i := 3) dX4_rowsIn_4 rfl rfl ?_
  refine L_aload_n C (i := 0) dX4_rowsIn_5 rfl rfl ?_
  refine L_getI C dX4_rowsIn_6 h0 fl_X4_21 rfl ?_
  refine L_icmp_ge C (tgt := 32) dX4_rowsIn_9 rfl (fun p1 => ?_) (fun p1 => ?_)
  · refine L_iload_n C (i := 2) dX4_rowsIn_32 rfl rfl ?_
    exact L_irI C dX4_rowsIn_33 rfl (rr1 p1)
  · refine L_iload_n C (i := 2) dX4_rowsIn_12 rfl rfl ?_
    refine L_iload_n C (i := 1) dX4_rowsIn_13 rfl rfl ?_
    refine L_iconst C (v := 4) dX4_rowsIn_14 rfl ?_
    refine L_iload_n C (i := 3) dX4_rowsIn_15 rfl rfl ?_
    refine L_imul C dX4_rowsIn_16 ?_
    refine L_iushr C dX4_rowsIn_17 ?_
    refine L_bipush C (v := 15) dX4_rowsIn_18 rfl ?_
    refine L_iand C dX4_rowsIn_20 ?_
    refine L_sub [0, 1, 3] rfl ?_
    refine L_invS1i C dX4_rowsIn_21 cal_J6_bitCount_0f7a4 stc_J6_bitCount_0f7a4 lk_X4_94 ⟨Nat.le_of_ble_eq_true rfl, Nat.le_of_ble_eq_true rfl⟩ ⟨Nat.le_of_ble_eq_true rfl, Nat.le_of_ble_eq_true rfl⟩ (Nat.le_of_ble_eq_true rfl) ?_
    exact cc2 p1
set_option maxRecDepth 4000 in
theorem k_X4_rowsIn_24 {G : mG} {E : mE} {B : mB} {μ : mM} (C : Cx G mX4_rowsIn E) {c0 : Nat} (h0 : sh c0 = (0, 3)) {x1 : Int32} {x3 : Int32} {sx0 : Int32} {sx1 : Int32} (kk1 : Wm G mX4_rowsIn E B μ 4 [(0, .ref (gb G + c0)), (1, .int x1), (2, .int (sx0 * sx1)), (3, .int (x3 + (1 : Int32)))] []) : Wm G mX4_rowsIn E B μ 24 [(0, .ref (gb G + c0)), (1, .int x1), (3, .int x3)] [.int sx1, .int sx0] := by
  refine L_imul C dX4_rowsIn_24 ?_
  refine L_istore_n C (i := 2) dX4_rowsIn_25 rfl (Nat.le_of_ble_eq_true rfl) ?_
  refine L_iinc C (v := 1) dX4_rowsIn_26 rfl rfl (Nat.le_of_ble_eq_true rfl) ?_
  refine L_goto C (tgt := 4) dX4_rowsIn_29 rfl ?_
  exact kk1
set_option maxRecDepth 4000 in
theorem k_X4_lawfulIn_0 {G : mG} {E : mE} {dp : Nat} {Q : Int32 → mM → Prop} {μ : mM} (C : Cx G (mX4_lawfulIn (dp + 4)) E) {c0 : Nat} (h0 : sh c0 = (0, 3)) {x1 : Int32} {x2 : Int32} (cc1 : CtI G mX4_narrow [.ref (gb G + c0), .int x1] μ (fun r μ' => Wm G (mX4_lawfulIn (dp + 4)) E (bm G (mX4_lawfulIn (dp + 4)) E (pI Q)) μ' 5 [(0, .ref (gb G + c0)), (2, .int x2)] [.int r])) : Wm G (mX4_lawfulIn (dp + 4)) E (bm G (mX4_lawfulIn (dp + 4)) E (pI Q)) μ 0 [(0, .ref (gb G + c0)), (1, .int x1), (2, .int x2)] [] := by
  refine L_aload_n C (i := 0) dX4_lawfulIn_0 rfl rfl ?_
  refine L_iload_n C (i := 1) dX4_lawfulIn_1 rfl rfl ?_
  refine L_sub [0, 2] rfl ?_
  refine L_invV1i C dX4_lawfulIn_2 h0 cal_X4_narrow lk_X4_76 ⟨by show 2 + 1 ≤ dp + 4; omega, by show 8 + (7 + 11) + 48 * 2 ≤ 48 * (dp + 4); omega⟩ ⟨Nat.le_of_ble_eq_true rfl, Nat.le_of_ble_eq_true rfl⟩ (Nat.le_of_ble_eq_true rfl) ?_
  exact cc1
theorem e_X4_lawfulIn {G : mG} {dp : Nat} {Q : Int32 → mM → Prop} {μ : mM} {c0 : Nat} (h0 : sh c0 = (0, 3)) {x1 : Int32} {x2 : Int32} (k : ∀ E, Cx G (mX4_lawfulIn (dp + 4)) E → Wm G (mX4_lawfulIn (dp + 4)) E (bm G (mX4_lawfulIn (dp + 4)) E (pI Q)) μ 0 [(0, .ref (gb G + c0)), (1, .int x1), (2, .int x2)] []) : CtI G (mX4_lawfulIn (dp + 4)) [.ref (gb G + c0), .int x1, .int x2] μ Q := CtI.of pn_X4 (Nat.le_of_ble_eq_true rfl) k
set_option maxRecDepth 4000 in
theorem k_X4_lawfulIn_5 {G : mG} {E : mE} {dp : Nat} {Q : Int32 → mM → Prop} {μ : mM} (C : Cx G (mX4_lawfulIn (dp + 4)) E) {c0 : Nat} (h0 : sh c0 = (0, 3)) {x2 : Int32} {sx0 : Int32} (rr1 : (sx0 = 0 ∨ (¬ sx0 = 0 ∧ ¬ x2 ≤ 40)) → Q 0 μ) (cc2 : ¬ sx0 = 0 → x2 ≤ 40 → CtI G mX4_openCell [.ref (gb G + c0), .int sx0] μ (fun r μ' => Wm G (mX4_lawfulIn (dp + 4)) E (bm G (mX4_lawfulIn (dp + 4)) E (pI Q)) μ' 23 [(0, .ref (gb G + c0)), (2, .int x2), (3, .int sx0)] [.int r])) : Wm G (mX4_lawfulIn (dp + 4)) E (bm G (mX4_lawfulIn (dp + 4)) E (pI Q)) μ 5 [(0, .ref (gb G + c0)), (2, .int x2)] [.int sx0] := by
  refine L_istore_n C (i := 3) dX4_lawfulIn_5 rfl (Nat.le_of_ble_eq_true rfl) ?_
  refine L_iload_n C (i := 3) dX4_lawfulIn_6 rfl rfl ?_
  refine L_if_eq C (tgt := 16) dX4_lawfulIn_7 rfl (fun p1 => ?_) (fun p1 => ?_)
  · refine L_iconst C (v := 0) dX4_lawfulIn_16 rfl ?_
    exact L_irI C dX4_lawfulIn_17 rfl (rr1 (Or.inl p1))
  · refine L_iload_n C (i := 2) dX4_lawfulIn_10 rfl rfl ?_
    refine L_bipush C (v := 40) dX4_lawfulIn_11 rfl ?_
    refine L_icmp_le C (tgt := 18) dX4_lawfulIn_13 rfl (fun p2 => ?_) (fun p2 => ?_)
    · refine L_aload_n C (i := 0) dX4_lawfulIn_18 rfl rfl ?_
      refine L_iload_n C (i := 3) dX4_lawfulIn_19 rfl rfl ?_
      refine L_invV1i C dX4_lawfulIn_20 h0 cal_X4_openCell lk_X4_79 ⟨by show 2 + 1 ≤ dp + 4; omega, by show 8 + (4 + 11) + 48 * 2 ≤ 48 * (dp + 4); omega⟩ ⟨Nat.le_of_ble_eq_true rfl, Nat.le_of_ble_eq_true rfl⟩ (Nat.le_of_ble_eq_true rfl) ?_
      exact cc2 p1 p2
    · refine L_iconst C (v := 0) dX4_lawfulIn_16 rfl ?_
      exact L_irI C dX4_lawfulIn_17 rfl (rr1 (Or.inr ⟨p1, p2⟩))
set_option maxRecDepth 4000 in
theorem k_X4_lawfulIn_23 {G : mG} {E : mE} {dp : Nat} {Q : Int32 → mM → Prop} {μ : mM} (C : Cx G (mX4_lawfulIn (dp + 4)) E) {c0 : Nat} (h0 : sh c0 = (0, 3)) {x2 : Int32} {x3 : Int32} {sx0 : Int32} (cc1 : ¬ sx0 = 0 → CtI G (mX4_lawfulIn (dp + 3)) [.ref (gb G + c0), .int (x3 &&& (sx0 ^^^ ((-1) : Int32))), .int (x2 + (1 : Int32))] μ (fun r μ' => Wm G (mX4_lawfulIn (dp + 4)) E (bm G (mX4_lawfulIn (dp + 4)) E (pI Q)) μ' 49 [(0, .ref (gb G + c0)), (2, .int x2), (3, .int x3), (4, .int sx0)] [.int r])) (cc2 : sx0 = 0 → CtI G mX4_rowsIn [.ref (gb G + c0), .int x3] μ (fun r μ' => Wm G (mX4_lawfulIn (dp + 4)) E (bm G (mX4_lawfulIn (dp + 4)) E (pI Q)) μ' 35 [] [.int r])) : Wm G (mX4_lawfulIn (dp + 4)) E (bm G (mX4_lawfulIn (dp + 4)) E (pI Q)) μ 23 [(0, .ref (gb G + c0)), (2, .int x2), (3, .int x3)] [.int sx0] := by
  refine L_istore C dX4_lawfulIn_23 (Nat.le_of_ble_eq_true rfl) ?_
  refine L_iload C dX4_lawfulIn_25 rfl ?_
  refine L_if_ne C (tgt := 36) dX4_lawfulIn_27 rfl (fun p1 => ?_) (fun p1 => ?_)
  · refine L_aload_n C (i := 0) dX4_lawfulIn_36 rfl rfl ?_
    refine L_iload_n C (i := 3) dX4_lawfulIn_37 rfl rfl ?_
    refine L_iload C dX4_lawfulIn_38 rfl ?_
    refine L_iconst C (v := (-1)) dX4_lawfulIn_40 rfl ?_
    refine L_ixor C dX4_lawfulIn_41 ?_
    refine L_iand C dX4_lawfulIn_42 ?_
    refine L_iload_n C (i := 2) dX4_lawfulIn_43 rfl rfl ?_
    refine L_iconst C (v := 1) dX4_lawfulIn_44 rfl ?_
    refine L_iadd C dX4_lawfulIn_45 ?_
    refine L_invS3i C dX4_lawfulIn_46 (cal_X4_lawfulIn (dp + 3)) stc_X4_lawfulIn lk_X4_91 ⟨by show (dp + 3) + 1 ≤ dp + 4; omega, by show 8 + (5 + 11) + 48 * (dp + 3) ≤ 48 * (dp + 4); omega⟩ ⟨Nat.le_of_ble_eq_true rfl, Nat.le_of_ble_eq_true rfl⟩ (Nat.le_of_ble_eq_true rfl) ?_
    exact cc1 p1
  · refine L_aload_n C (i := 0) dX4_lawfulIn_30 rfl rfl ?_
    refine L_iload_n C (i := 3) dX4_lawfulIn_31 rfl rfl ?_
    refine L_sub [] rfl ?_
    refine L_invV1i C dX4_lawfulIn_32 h0 cal_X4_rowsIn lk_X4_88 ⟨by show 2 + 1 ≤ dp + 4; omega, by show 8 + (4 + 11) + 48 * 2 ≤ 48 * (dp + 4); omega⟩ ⟨Nat.le_of_ble_eq_true rfl, Nat.le_of_ble_eq_true rfl⟩ (Nat.le_of_ble_eq_true rfl) ?_
    exact cc2 p1
set_option maxRecDepth 4000 in
theorem k_X4_lawfulIn_35 {G : mG} {E : mE} {dp : Nat} {Q : Int32 → mM → Prop} {μ : mM} (C : Cx G (mX4_lawfulIn (dp + 4)) E) {sx0 : Int32} (rr1 : Q sx0 μ) : Wm G (mX4_lawfulIn (dp + 4)) E (bm G (mX4_lawfulIn (dp + 4)) E (pI Q)) μ 35 [] [.int sx0] := by
  exact L_irI C dX4_lawfulIn_35 rfl (rr1)
set_option maxRecDepth 4000 in
theorem k_X4_lawfulIn_49 {G : mG} {E : mE} {dp : Nat} {Q : Int32 → mM → Prop} {μ : mM} (C : Cx G (mX4_lawfulIn (dp + 4)) E) {c0 : Nat} (h0 : sh c0 = (0, 3)) {x2 : Int32} {x3 : Int32} {x4 : Int32} {sx0 : Int32} (cc1 : CtI G (mX4_lawfulIn (dp + 3)) [.ref (gb G + c0), .int ((x3 &&& ((((((x4 ||| (iush x4 1)) ||| (iush x4 2)) ||| (iush x4 3)) &&& (286331153 : Int32)) * (15 : Int32)) ^^^ ((-1) : Int32))) ||| x4), .int (x2 + (1 : Int32))] μ (fun r μ' => Wm G (mX4_lawfulIn (dp + 4)) E (bm G (mX4_lawfulIn (dp + 4)) E (pI Q)) μ' 62 [] [.int r, .int sx0])) : Wm G (mX4_lawfulIn (dp + 4)) E (bm G (mX4_lawfulIn (dp + 4)) E (pI Q)) μ 49 [(0, .ref (gb G + c0)), (2, .int x2), (3, .int x3), (4, .int x4)] [.int sx0] := by
  refine L_aload_n C (i := 0) dX4_lawfulIn_49 rfl rfl ?_
  refine L_iload_n C (i := 3) dX4_lawfulIn_50 rfl rfl ?_
  refine L_iload C dX4_lawfulIn_51 rfl ?_
  refine L_invS2i C dX4_lawfulIn_53 cal_X4_withOnly stc_X4_withOnly lk_X4_85 ⟨by show 2 + 1 ≤ dp + 4; omega, by show 8 + (2 + 11) + 48 * 2 ≤ 48 * (dp + 4); omega⟩ ⟨Nat.le_of_ble_eq_true rfl, Nat.le_of_ble_eq_true rfl⟩ (Nat.le_of_ble_eq_true rfl) (a_X4_withOnly (?_))
  · refine L_iload_n C (i := 2) dX4_lawfulIn_56 rfl rfl ?_
    refine L_iconst C (v := 1) dX4_lawfulIn_57 rfl ?_
    refine L_iadd C dX4_lawfulIn_58 ?_
    refine L_sub [] rfl ?_
    refine L_invS3i C dX4_lawfulIn_59 (cal_X4_lawfulIn (dp + 3)) stc_X4_lawfulIn lk_X4_91 ⟨by show (dp + 3) + 1 ≤ dp + 4; omega, by show 8 + (5 + 11) + 48 * (dp + 3) ≤ 48 * (dp + 4); omega⟩ ⟨Nat.le_of_ble_eq_true rfl, Nat.le_of_ble_eq_true rfl⟩ (Nat.le_of_ble_eq_true rfl) ?_
    exact cc1
set_option maxRecDepth 4000 in
theorem k_X4_lawfulIn_62 {G : mG} {E : mE} {dp : Nat} {Q : Int32 → mM → Prop} {μ : mM} (C : Cx G (mX4_lawfulIn (dp + 4)) E) {sx0 : Int32} {sx1 : Int32} (rr1 : Q (sx0 + sx1) μ) : Wm G (mX4_lawfulIn (dp + 4)) E (bm G (mX4_lawfulIn (dp + 4)) E (pI Q)) μ 62 [] [.int sx1, .int sx0] := by
  refine L_iadd C dX4_lawfulIn_62 ?_
  exact L_irI C dX4_lawfulIn_63 rfl (rr1)
set_option maxRecDepth 4000 in
theorem k_X11_lawful_0 {G : mG} {E : mE} {Q : Int32 → mM → Prop} {μ : mM} (C : Cx G mX11_lawful E) {x1 : Int32} (cc1 : CtI G mX11_rowBy [.ref (gb G + 0), .int x1] μ (fun r μ' => Wm G mX11_lawful E (bm G mX11_lawful E (pI Q)) μ' 5 [(0, .ref (gb G + 0))] [.int r])) : Wm G mX11_lawful E (bm G mX11_lawful E (pI Q)) μ 0 [(0, .ref (gb G + 0)), (1, .int x1)] [] := by
  refine L_aload_n C (i := 0) dX11_lawful_0 rfl rfl ?_
  refine L_iload_n C (i := 1) dX11_lawful_1 rfl rfl ?_
  refine L_sub [0] rfl ?_
  refine L_invV1i C dX11_lawful_2 sh_0 cal_X11_rowBy lk_X11_137 ⟨Nat.le_of_ble_eq_true rfl, Nat.le_of_ble_eq_true rfl⟩ ⟨Nat.le_of_ble_eq_true rfl, Nat.le_of_ble_eq_true rfl⟩ (Nat.le_of_ble_eq_true rfl) ?_
  exact cc1
theorem e_X11_lawful {G : mG} {Q : Int32 → mM → Prop} {μ : mM} {x1 : Int32} (k : ∀ E, Cx G mX11_lawful E → Wm G mX11_lawful E (bm G mX11_lawful E (pI Q)) μ 0 [(0, .ref (gb G + 0)), (1, .int x1)] []) : CtI G mX11_lawful [.ref (gb G + 0), .int x1] μ Q := CtI.of pn_X11 (Nat.le_of_ble_eq_true rfl) k
set_option maxRecDepth 4000 in
theorem k_X11_lawful_5 {G : mG} {E : mE} {Q : Int32 → mM → Prop} {μ : mM} (C : Cx G mX11_lawful E) {sx0 : Int32} (cc1 : ¬ sx0 = (-1) → CtI G (mX4_lawfulIn 63) [.ref (gb G + 15), .int (((μ 15 3) &&& ((((((sx0 ||| (iush sx0 1)) ||| (iush sx0 2)) ||| (iush sx0 3)) &&& (286331153 : Int32)) * (15 : Int32)) ^^^ ((-1) : Int32))) ||| sx0), .int 0] μ (fun r μ' => Wm G mX11_lawful E (bm G mX11_lawful E (pI Q)) μ' 37 [] [.int r])) (kk2 : sx0 = (-1) → Wm G mX11_lawful E (bm G mX11_lawful E (pI Q)) μ 37 [] [.int (-1)]) : Wm G mX11_lawful E (bm G mX11_lawful E (pI Q)) μ 5 [(0, .ref (gb G + 0))] [.int sx0] := by
  refine L_istore_n C (i := 2) dX11_lawful_5 rfl (Nat.le_of_ble_eq_true rfl) ?_
  refine L_iload_n C (i := 2) dX11_lawful_6 rfl rfl ?_
  refine L_iconst C (v := (-1)) dX11_lawful_7 rfl ?_
  refine L_icmp_ne C (tgt := 15) dX11_lawful_8 rfl (fun p1 => ?_) (fun p1 => ?_)
  · refine L_aload_n C (i := 0) dX11_lawful_15 rfl rfl ?_
    refine L_getC C (c' := 14) dX11_lawful_16 sh_0 fl_X11_26 rfl rfl ?_
    refine L_getC C (c' := 15) dX11_lawful_19 sh_14 fl_X11_77 rfl rfl ?_
    refine L_aload_n C (i := 0) dX11_lawful_22 rfl rfl ?_
    refine L_getC C (c' := 14) dX11_lawful_23 sh_0 fl_X11_26 rfl rfl ?_
    refine L_getC C (c' := 15) dX11_lawful_26 sh_14 fl_X11_77 rfl rfl ?_
    refine L_iload_n C (i := 2) dX11_lawful_29 rfl rfl ?_
    refine L_invV1i C dX11_lawful_30 sh_15 cal_X4_leftTo lk_X11_248 ⟨Nat.le_of_ble_eq_true rfl, Nat.le_of_ble_eq_true rfl⟩ ⟨Nat.le_of_ble_eq_true rfl, Nat.le_of_ble_eq_true rfl⟩ (Nat.le_of_ble_eq_true rfl) (a_X4_leftTo sh_15 (?_))
    · refine L_iconst C (v := 0) dX11_lawful_33 rfl ?_
      refine L_sub [] rfl ?_
      refine L_invSN3i C dX11_lawful_34 (cal_X4_lawfulIn 63) stc_X4_lawfulIn nk_X11_251 ⟨Nat.le_of_ble_eq_true rfl, Nat.le_of_ble_eq_true rfl⟩ ⟨Nat.le_of_ble_eq_true rfl, Nat.le_of_ble_eq_true rfl⟩ (Nat.le_of_ble_eq_true rfl) ?_
      exact cc1 p1
  · refine L_iconst C (v := (-1)) dX11_lawful_11 rfl ?_
    refine L_goto C (tgt := 37) dX11_lawful_12 rfl ?_
    refine L_sub [] rfl ?_
    exact kk2 p1
set_option maxRecDepth 4000 in
theorem k_X11_lawful_37 {G : mG} {E : mE} {Q : Int32 → mM → Prop} {μ : mM} (C : Cx G mX11_lawful E) {sx0 : Int32} (rr1 : Q sx0 μ) : Wm G mX11_lawful E (bm G mX11_lawful E (pI Q)) μ 37 [] [.int sx0] := by
  exact L_irI C dX11_lawful_37 rfl (rr1)
set_option maxRecDepth 4000 in
theorem k_X11_result_0 {G : mG} {E : mE} {Q : Int32 → mM → Prop} {μ : mM} (C : Cx G mX11_result E) {x1 : Int32} {x2 : Int32} (rr1 : ((x1 < 0 ∨ (¬ x1 < 0 ∧ (μ 19 0) ≤ x1)) ∨ (¬ x1 < 0 ∧ ¬ (μ 19 0) ≤ x1 ∧ (x2 < 0 ∨ (¬ x2 < 0 ∧ ¬ x2 ≤ 2)))) → Q (-1) μ) (ss2 : ¬ x1 < 0 → ¬ (μ 19 0) ≤ x1 → ¬ x2 < 0 → x2 ≤ 2 → vp_in x1 64) (cc3 : ¬ x1 < 0 → ¬ (μ 19 0) ≤ x1 → ¬ x2 < 0 → x2 ≤ 2 → ¬ (μ 21 x1.toNatClampNeg) = x2 → CtV G mX11_remember [.ref (gb G + 0)] μ (fun μ' => Wm G mX11_result E (bm G mX11_result E (pI Q)) μ' 44 [(0, .ref (gb G + 0)), (1, .int x1), (2, .int x2), (3, .int (μ 21 x1.toNatClampNeg))] [])) (rr4 : ¬ x1 < 0 → ¬ (μ 19 0) ≤ x1 → ¬ x2 < 0 → x2 ≤ 2 → (μ 21 x1.toNatClampNeg) = x2 → Q (-2) μ) : Wm G mX11_result E (bm G mX11_result E (pI Q)) μ 0 [(0, .ref (gb G + 0)), (1, .int x1), (2, .int x2)] [] := by
  refine L_aload_n C (i := 0) dX11_result_0 rfl rfl ?_
  refine L_iload_n C (i := 1) dX11_result_1 rfl rfl ?_
  refine L_invV1i C dX11_result_2 sh_0 cal_X11_isRow lk_X11_149 ⟨Nat.le_of_ble_eq_true rfl, Nat.le_of_ble_eq_true rfl⟩ ⟨Nat.le_of_ble_eq_true rfl, Nat.le_of_ble_eq_true rfl⟩ (Nat.le_of_ble_eq_true rfl) (a_X11_isRow (fun p1 => ?_) (fun p2 p3 => ?_))
  · refine L_if_eq C (tgt := 17) dX11_result_5 rfl (fun p4 => ?_) (fun p4 => absurd p4 (by decide))
    refine L_iconst C (v := (-1)) dX11_result_17 rfl ?_
    exact L_irI C dX11_result_18 rfl (rr1 (Or.inl p1))
  · refine L_if_eq C (tgt := 17) dX11_result_5 rfl (fun p5 => absurd p5 (by decide)) (fun p5 => ?_)
    refine L_iload_n C (i := 2) dX11_result_8 rfl rfl ?_
    refine L_if_lt C (tgt := 17) dX11_result_9 rfl (fun p6 => ?_) (fun p6 => ?_)
    · refine L_iconst C (v := (-1)) dX11_result_17 rfl ?_
      exact L_irI C dX11_result_18 rfl (rr1 (Or.inr ⟨p2, p3, (Or.inl p6)⟩))
    · refine L_iload_n C (i := 2) dX11_result_12 rfl rfl ?_
      refine L_iconst C (v := 2) dX11_result_13 rfl ?_
      refine L_icmp_le C (tgt := 19) dX11_result_14 rfl (fun p7 => ?_) (fun p7 => ?_)
      · refine L_aload_n C (i := 0) dX11_result_19 rfl rfl ?_
        refine L_getC C (c' := 14) dX11_result_20 sh_0 fl_X11_26 rfl rfl ?_
        refine L_getC C (c' := 19) dX11_result_23 sh_14 fl_X11_90 rfl rfl ?_
        refine L_getC C (c' := 21) dX11_result_26 sh_19 fl_X11_255 rfl rfl ?_
        refine L_iload_n C (i := 1) dX11_result_29 rfl rfl ?_
        refine L_iald C dX11_result_30 sh_21 (ss2 p2 p3 p6 p7) ?_
        refine L_istore_n C (i := 3) dX11_result_31 rfl (Nat.le_of_ble_eq_true rfl) ?_
        refine L_iload_n C (i := 3) dX11_result_32 rfl rfl ?_
        refine L_iload_n C (i := 2) dX11_result_33 rfl rfl ?_
        refine L_icmp_ne C (tgt := 40) dX11_result_34 rfl (fun p8 => ?_) (fun p8 => ?_)
        · refine L_aload_n C (i := 0) dX11_result_40 rfl rfl ?_
          refine L_invV0v C dX11_result_41 sh_0 cal_X11_remember lk_X11_143 ⟨Nat.le_of_ble_eq_true rfl, Nat.le_of_ble_eq_true rfl⟩ ⟨Nat.le_of_ble_eq_true rfl, Nat.le_of_ble_eq_true rfl⟩ (Nat.le_of_ble_eq_true rfl) ?_
          exact cc3 p2 p3 p6 p7 p8
        · refine L_bipush C (v := (-2)) dX11_result_37 rfl ?_
          exact L_irI C dX11_result_39 rfl (rr4 p2 p3 p6 p7 p8)
      · refine L_iconst C (v := (-1)) dX11_result_17 rfl ?_
        exact L_irI C dX11_result_18 rfl (rr1 (Or.inr ⟨p2, p3, (Or.inr ⟨p6, p7⟩)⟩))
theorem e_X11_result {G : mG} {Q : Int32 → mM → Prop} {μ : mM} {x1 : Int32} {x2 : Int32} (k : ∀ E, Cx G mX11_result E → Wm G mX11_result E (bm G mX11_result E (pI Q)) μ 0 [(0, .ref (gb G + 0)), (1, .int x1), (2, .int x2)] []) : CtI G mX11_result [.ref (gb G + 0), .int x1, .int x2] μ Q := CtI.of pn_X11 (Nat.le_of_ble_eq_true rfl) k
set_option maxRecDepth 4000 in
theorem k_X11_result_44 {G : mG} {E : mE} {Q : Int32 → mM → Prop} {μ : mM} (C : Cx G mX11_result E) {x1 : Int32} {x2 : Int32} {x3 : Int32} (ss1 : vp_in x1 64) (rr2 : Q x3 (ms μ 21 x1.toNatClampNeg x2)) : Wm G mX11_result E (bm G mX11_result E (pI Q)) μ 44 [(0, .ref (gb G + 0)), (1, .int x1), (2, .int x2), (3, .int x3)] [] := by
  refine L_aload_n C (i := 0) dX11_result_44 rfl rfl ?_
  refine L_getC C (c' := 14) dX11_result_45 sh_0 fl_X11_26 rfl rfl ?_
  refine L_getC C (c' := 19) dX11_result_48 sh_14 fl_X11_90 rfl rfl ?_
  refine L_getC C (c' := 21) dX11_result_51 sh_19 fl_X11_255 rfl rfl ?_
  refine L_iload_n C (i := 1) dX11_result_54 rfl rfl ?_
  refine L_iload_n C (i := 2) dX11_result_55 rfl rfl ?_
  refine L_iast C dX11_result_56 sh_21 (ss1) ?_
  refine L_iload_n C (i := 3) dX11_result_57 rfl rfl ?_
  exact L_irI C dX11_result_58 rfl (rr2)
set_option maxRecDepth 4000 in
theorem k_X7_toldAs_0 {G : mG} {E : mE} {B : mB} {μ : mM} (C : Cx G mX7_toldAs E) {c0 : Nat} (h0 : sh c0 = (0, 6)) {x1 : Int32} (kk1 : Wm G mX7_toldAs E B μ 4 [(0, .ref (gb G + c0)), (1, .int x1), (2, .int 0), (3, .int 0)] []) : Wm G mX7_toldAs E B μ 0 [(0, .ref (gb G + c0)), (1, .int x1)] [] := by
  refine L_iconst C (v := 0) dX7_toldAs_0 rfl ?_
  refine L_istore_n C (i := 2) dX7_toldAs_1 rfl (Nat.le_of_ble_eq_true rfl) ?_
  refine L_iconst C (v := 0) dX7_toldAs_2 rfl ?_
  refine L_istore_n C (i := 3) dX7_toldAs_3 rfl (Nat.le_of_ble_eq_true rfl) ?_
  exact kk1
theorem e_X7_toldAs {G : mG} {Q : Int32 → mM → Prop} {μ : mM} {c0 : Nat} (h0 : sh c0 = (0, 6)) {x1 : Int32} (k : ∀ E, Cx G mX7_toldAs E → Wm G mX7_toldAs E (bm G mX7_toldAs E (pI Q)) μ 0 [(0, .ref (gb G + c0)), (1, .int x1)] []) : CtI G mX7_toldAs [.ref (gb G + c0), .int x1] μ Q := CtI.of pn_X7 (Nat.le_of_ble_eq_true rfl) k
set_option maxRecDepth 4000 in
theorem k_X7_toldAs_4 {G : mG} {E : mE} {Q : Int32 → mM → Prop} {μ : mM} (C : Cx G mX7_toldAs E) {c0 : Nat} (h0 : sh c0 = (0, 6)) {x1 : Int32} {x2 : Int32} {x3 : Int32} (rr1 : (μ c0 0) ≤ x3 → Q x2 μ) (ss2 : ¬ (μ c0 0) ≤ x3 → vp_in x3 64) (kk3 : ¬ (μ c0 0) ≤ x3 → ∀ v1 : Int32, ((¬ (μ (c0 + 2) x3.toNatClampNeg) = x1 ∧ v1 = 0) ∨ ((μ (c0 + 2) x3.toNatClampNeg) = x1 ∧ v1 = 1)) → Wm G mX7_toldAs E (bm G mX7_toldAs E (pI Q)) μ 4 [(0, .ref (gb G + c0)), (1, .int x1), (2, .int (x2 + v1)), (3, .int (x3 + (1 : Int32)))] []) : Wm G mX7_toldAs E (bm G mX7_toldAs E (pI Q)) μ 4 [(0, .ref (gb G + c0)), (1, .int x1), (2, .int x2), (3, .int x3)] [] := by
  refine L_iload_n C (i := 3) dX7_toldAs_4 rfl rfl ?_
  refine L_aload_n C (i := 0) dX7_toldAs_5 rfl rfl ?_
  refine L_getI C dX7_toldAs_6 h0 fl_X7_18 rfl ?_
  refine L_icmp_ge C (tgt := 36) dX7_toldAs_9 rfl (fun p1 => ?_) (fun p1 => ?_)
  · refine L_iload_n C (i := 2) dX7_toldAs_36 rfl rfl ?_
    exact L_irI C dX7_toldAs_37 rfl (rr1 p1)
  · refine L_iload_n C (i := 2) dX7_toldAs_12 rfl rfl ?_
    refine L_aload_n C (i := 0) dX7_toldAs_13 rfl rfl ?_
    refine L_getC C (c' := (c0 + 2)) dX7_toldAs_14 h0 fl_X7_15 rfl rfl ?_
    refine L_iload_n C (i := 3) dX7_toldAs_17 rfl rfl ?_
    refine L_iald C dX7_toldAs_18 (shd_6_2 h0) (ss2 p1) ?_
    refine L_iload_n C (i := 1) dX7_toldAs_19 rfl rfl ?_
    refine phi (fun v1 : Int32 => Wm G mX7_toldAs E (bm G mX7_toldAs E (pI Q)) μ 28 [(0, .ref (gb G + c0)), (1, .int x1), (3, .int x3)] [.int v1, .int x2]) (fun v1 : Int32 => (¬ (μ (c0 + 2) x3.toNatClampNeg) = x1 ∧ v1 = 0) ∨ ((μ (c0 + 2) x3.toNatClampNeg) = x1 ∧ v1 = 1)) (fun H => ?_) (fun v1 hv1 => ?_)
    · refine L_icmp_ne C (tgt := 27) dX7_toldAs_20 rfl (fun p2 => ?_) (fun p2 => ?_)
      · refine L_iconst C (v := 0) dX7_toldAs_27 rfl ?_
        refine L_sub [0, 1, 3] rfl ?_
        exact H _ (Or.inl ⟨p2, rfl⟩)
      · refine L_iconst C (v := 1) dX7_toldAs_23 rfl ?_
        refine L_goto C (tgt := 28) dX7_toldAs_24 rfl ?_
        refine L_sub [0, 1, 3] rfl ?_
        exact H _ (Or.inr ⟨p2, rfl⟩)
    refine L_iadd C dX7_toldAs_28 ?_
    refine L_istore_n C (i := 2) dX7_toldAs_29 rfl (Nat.le_of_ble_eq_true rfl) ?_
    refine L_iinc C (v := 1) dX7_toldAs_30 rfl rfl (Nat.le_of_ble_eq_true rfl) ?_
    refine L_goto C (tgt := 4) dX7_toldAs_33 rfl ?_
    exact kk3 p1 v1 hv1
set_option maxRecDepth 4000 in
theorem k_X0_cellsIn_0 {G : mG} {E : mE} {B : mB} {μ : mM} (C : Cx G mX0_cellsIn E) {c0 : Nat} (h0 : sh c0 = (0, 0)) {x1 : Int32} {x2 : Int32} (kk1 : Wm G mX0_cellsIn E B μ 5 [(0, .ref (gb G + c0)), (1, .int x1), (2, .int x2), (3, .int 0), (4, .int 0)] []) : Wm G mX0_cellsIn E B μ 0 [(0, .ref (gb G + c0)), (1, .int x1), (2, .int x2)] [] := by
  refine L_iconst C (v := 0) dX0_cellsIn_0 rfl ?_
  refine L_istore_n C (i := 3) dX0_cellsIn_1 rfl (Nat.le_of_ble_eq_true rfl) ?_
  refine L_iconst C (v := 0) dX0_cellsIn_2 rfl ?_
  refine L_istore C dX0_cellsIn_3 (Nat.le_of_ble_eq_true rfl) ?_
  exact kk1
theorem e_X0_cellsIn {G : mG} {Q : Int32 → mM → Prop} {μ : mM} {c0 : Nat} (h0 : sh c0 = (0, 0)) {x1 : Int32} {x2 : Int32} (k : ∀ E, Cx G mX0_cellsIn E → Wm G mX0_cellsIn E (bm G mX0_cellsIn E (pI Q)) μ 0 [(0, .ref (gb G + c0)), (1, .int x1), (2, .int x2)] []) : CtI G mX0_cellsIn [.ref (gb G + c0), .int x1, .int x2] μ Q := CtI.of pn_X0 (Nat.le_of_ble_eq_true rfl) k
set_option maxRecDepth 4000 in
theorem k_X0_cellsIn_5 {G : mG} {E : mE} {Q : Int32 → mM → Prop} {μ : mM} (C : Cx G mX0_cellsIn E) {c0 : Nat} (h0 : sh c0 = (0, 0)) {x1 : Int32} {x2 : Int32} {x3 : Int32} {x4 : Int32} (rr1 : (μ c0 1) ≤ x4 → Q x3 μ) (ss2 : ¬ (μ c0 1) ≤ x4 → vp_in ((x1 * (3 : Int32)) + x4) 168) (kk3 : ¬ (μ c0 1) ≤ x4 → Wm G mX0_cellsIn E (bm G mX0_cellsIn E (pI Q)) μ 5 [(0, .ref (gb G + c0)), (1, .int x1), (2, .int x2), (3, .int (x3 ||| (x2 &&& ((15 : Int32) <<< (((4 : Int32) * (μ (c0 + 1) ((x1 * (3 : Int32)) + x4).toNatClampNeg)) &&& 31))))), (4, .int (x4 + (1 : Int32)))] []) : Wm G mX0_cellsIn E (bm G mX0_cellsIn E (pI Q)) μ 5 [(0, .ref (gb G + c0)), (1, .int x1), (2, .int x2), (3, .int x3), (4, .int x4)] [] := by
  refine L_iload C dX0_cellsIn_5 rfl ?_
  refine L_aload_n C (i := 0) dX0_cellsIn_7 rfl rfl ?_
  refine L_getI C dX0_cellsIn_8 h0 fl_X0_30 rfl ?_
  refine L_icmp_ge C (tgt := 41) dX0_cellsIn_11 rfl (fun p1 => ?_) (fun p1 => ?_)
  · refine L_iload_n C (i := 3) dX0_cellsIn_41 rfl rfl ?_
    exact L_irI C dX0_cellsIn_42 rfl (rr1 p1)
  · refine L_iload_n C (i := 3) dX0_cellsIn_14 rfl rfl ?_
    refine L_iload_n C (i := 2) dX0_cellsIn_15 rfl rfl ?_
    refine L_bipush C (v := 15) dX0_cellsIn_16 rfl ?_
    refine L_iconst C (v := 4) dX0_cellsIn_18 rfl ?_
    refine L_aload_n C (i := 0) dX0_cellsIn_19 rfl rfl ?_
    refine L_getC C (c' := (c0 + 1)) dX0_cellsIn_20 h0 fl_X0_9 rfl rfl ?_
    refine L_iload_n C (i := 1) dX0_cellsIn_23 rfl rfl ?_
    refine L_iconst C (v := 3) dX0_cellsIn_24 rfl ?_
    refine L_imul C dX0_cellsIn_25 ?_
    refine L_iload C dX0_cellsIn_26 rfl ?_
    refine L_iadd C dX0_cellsIn_28 ?_
    refine L_iald C dX0_cellsIn_29 (shd_0_1 h0) (ss2 p1) ?_
    refine L_imul C dX0_cellsIn_30 ?_
    refine L_ishl C dX0_cellsIn_31 ?_
    refine L_iand C dX0_cellsIn_32 ?_
    refine L_ior C dX0_cellsIn_33 ?_
    refine L_istore_n C (i := 3) dX0_cellsIn_34 rfl (Nat.le_of_ble_eq_true rfl) ?_
    refine L_iinc C (v := 1) dX0_cellsIn_35 rfl rfl (Nat.le_of_ble_eq_true rfl) ?_
    refine L_goto C (tgt := 5) dX0_cellsIn_38 rfl ?_
    exact kk3 p1
set_option maxRecDepth 4000 in
theorem k_X9_passed_0 {G : mG} {E : mE} {B : mB} {μ : mM} (C : Cx G mX9_passed E) {c1 : Nat} (h1 : sh c1 = (0, 6)) {x2 : Int32} (kk1 : Wm G mX9_passed E B μ 2 [(1, .ref (gb G + c1)), (2, .int x2), (3, .int 0)] []) : Wm G mX9_passed E B μ 0 [(0, .ref (gb G + 42)), (1, .ref (gb G + c1)), (2, .int x2)] [] := by
  refine L_iconst C (v := 0) dX9_passed_0 rfl ?_
  refine L_istore_n C (i := 3) dX9_passed_1 rfl (Nat.le_of_ble_eq_true rfl) ?_
  refine L_sub [1, 2, 3] rfl ?_
  exact kk1
theorem e_X9_passed {G : mG} {Q : Int32 → mM → Prop} {μ : mM} {c1 : Nat} (h1 : sh c1 = (0, 6)) {x2 : Int32} (k : ∀ E, Cx G mX9_passed E → Wm G mX9_passed E (bm G mX9_passed E (pI Q)) μ 0 [(0, .ref (gb G + 42)), (1, .ref (gb G + c1)), (2, .int x2)] []) : CtI G mX9_passed [.ref (gb G + 42), .ref (gb G + c1), .int x2] μ Q := CtI.of pn_X9 (Nat.le_of_ble_eq_true rfl) k
set_option maxRecDepth 4000 in
theorem k_X9_passed_2 {G : mG} {E : mE} {Q : Int32 → mM → Prop} {μ : mM} (C : Cx G mX9_passed E) {c1 : Nat} (h1 : sh c1 = (0, 6)) {x2 : Int32} {x3 : Int32} (rr1 : (μ c1 0) ≤ x3 → Q 0 μ) (ss2 : ¬ (μ c1 0) ≤ x3 → vp_in x3 64) (kk3 : ¬ (μ c1 0) ≤ x3 → (¬ (μ (c1 + 2) x3.toNatClampNeg) = 1 ∨ ((μ (c1 + 2) x3.toNatClampNeg) = 1 ∧ ¬ (x2 &&& ((μ (c1 + 1) x3.toNatClampNeg) ^^^ ((-1) : Int32))) = 0)) → Wm G mX9_passed E (bm G mX9_passed E (pI Q)) μ 2 [(1, .ref (gb G + c1)), (2, .int x2), (3, .int (x3 + (1 : Int32)))] []) (rr4 : ¬ (μ c1 0) ≤ x3 → (μ (c1 + 2) x3.toNatClampNeg) = 1 → (x2 &&& ((μ (c1 + 1) x3.toNatClampNeg) ^^^ ((-1) : Int32))) = 0 → Q 1 μ) : Wm G mX9_passed E (bm G mX9_passed E (pI Q)) μ 2 [(1, .ref (gb G + c1)), (2, .int x2), (3, .int x3)] [] := by
  refine L_iload_n C (i := 3) dX9_passed_2 rfl rfl ?_
  refine L_aload_n C (i := 1) dX9_passed_3 rfl rfl ?_
  refine L_getI C dX9_passed_4 h1 fl_X9_35 rfl ?_
  refine L_icmp_ge C (tgt := 41) dX9_passed_7 rfl (fun p1 => ?_) (fun p1 => ?_)
  · refine L_iconst C (v := 0) dX9_passed_41 rfl ?_
    exact L_irZ C dX9_passed_42 rfl (by decide) (rr1 p1)
  · refine L_aload_n C (i := 1) dX9_passed_10 rfl rfl ?_
    refine L_getC C (c' := (c1 + 2)) dX9_passed_11 h1 fl_X9_36 rfl rfl ?_
    refine L_iload_n C (i := 3) dX9_passed_14 rfl rfl ?_
    refine L_iald C dX9_passed_15 (shd_6_2 h1) (ss2 p1) ?_
    refine L_iconst C (v := 1) dX9_passed_16 rfl ?_
    refine L_icmp_ne C (tgt := 35) dX9_passed_17 rfl (fun p2 => ?_) (fun p2 => ?_)
    · refine L_iinc C (v := 1) dX9_passed_35 rfl rfl (Nat.le_of_ble_eq_true rfl) ?_
      refine L_goto C (tgt := 2) dX9_passed_38 rfl ?_
      exact kk3 p1 (Or.inl p2)
    · refine L_iload_n C (i := 2) dX9_passed_20 rfl rfl ?_
      refine L_aload_n C (i := 1) dX9_passed_21 rfl rfl ?_
      refine L_getC C (c' := (c1 + 1)) dX9_passed_22 h1 fl_X9_39 rfl rfl ?_
      refine L_iload_n C (i := 3) dX9_passed_25 rfl rfl ?_
      refine L_iald C dX9_passed_26 (shd_6_1 h1) (ss2 p1) ?_
      refine L_iconst C (v := (-1)) dX9_passed_27 rfl ?_
      refine L_ixor C dX9_passed_28 ?_
      refine L_iand C dX9_passed_29 ?_
      refine L_if_ne C (tgt := 35) dX9_passed_30 rfl (fun p3 => ?_) (fun p3 => ?_)
      · refine L_iinc C (v := 1) dX9_passed_35 rfl rfl (Nat.le_of_ble_eq_true rfl) ?_
        refine L_goto C (tgt := 2) dX9_passed_38 rfl ?_
        exact kk3 p1 (Or.inr ⟨p2, p3⟩)
      · refine L_iconst C (v := 1) dX9_passed_33 rfl ?_
        exact L_irZ C dX9_passed_34 rfl (by decide) (rr4 p1 p2 p3)
set_option maxRecDepth 4000 in
theorem k_X9_find_0 {G : mG} {E : mE} {Q : mM → Prop} {μ : mM} (C : Cx G mX9_find E) {c1 : Nat} (h1 : sh c1 = (0, 3)) {c2 : Nat} (h2 : sh c2 = (0, 6)) {x3 : Int32} (cc1 : CtI G mX7_toldAs [.ref (gb G + c2), .int 2] (ms μ 42 3 0) (fun r μ' => Wm G mX9_find E (bm G mX9_find E (pV Q)) μ' 10 [(0, .ref (gb G + 42)), (1, .ref (gb G + c1)), (2, .ref (gb G + c2)), (3, .int x3)] [.int r])) : Wm G mX9_find E (bm G mX9_find E (pV Q)) μ 0 [(0, .ref (gb G + 42)), (1, .ref (gb G + c1)), (2, .ref (gb G + c2)), (3, .int x3)] [] := by
  refine L_aload_n C (i := 0) dX9_find_0 rfl rfl ?_
  refine L_iconst C (v := 0) dX9_find_1 rfl ?_
  refine L_putI C dX9_find_2 sh_42 fl_X9_25 rfl rfl rfl ?_
  refine L_aload_n C (i := 2) dX9_find_5 rfl rfl ?_
  refine L_iconst C (v := 2) dX9_find_6 rfl ?_
  refine L_invV1i C dX9_find_7 h2 cal_X7_toldAs lk_X9_29 ⟨Nat.le_of_ble_eq_true rfl, Nat.le_of_ble_eq_true rfl⟩ ⟨Nat.le_of_ble_eq_true rfl, Nat.le_of_ble_eq_true rfl⟩ (Nat.le_of_ble_eq_true rfl) ?_
  exact cc1
theorem e_X9_find {G : mG} {Q : mM → Prop} {μ : mM} {c1 : Nat} (h1 : sh c1 = (0, 3)) {c2 : Nat} (h2 : sh c2 = (0, 6)) {x3 : Int32} (k : ∀ E, Cx G mX9_find E → Wm G mX9_find E (bm G mX9_find E (pV Q)) μ 0 [(0, .ref (gb G + 42)), (1, .ref (gb G + c1)), (2, .ref (gb G + c2)), (3, .int x3)] []) : CtV G mX9_find [.ref (gb G + 42), .ref (gb G + c1), .ref (gb G + c2), .int x3] μ Q := CtV.of pn_X9 (Nat.le_of_ble_eq_true rfl) k
set_option maxRecDepth 4000 in
theorem k_X9_find_10 {G : mG} {E : mE} {Q : mM → Prop} {μ : mM} (C : Cx G mX9_find E) {c1 : Nat} (h1 : sh c1 = (0, 3)) {c2 : Nat} (h2 : sh c2 = (0, 6)) {x3 : Int32} {sx0 : Int32} (kk1 : ¬ sx0 = 0 → Wm G mX9_find E (bm G mX9_find E (pV Q)) μ 20 [(0, .ref (gb G + 42)), (1, .ref (gb G + c1)), (2, .ref (gb G + c2)), (3, .int x3), (4, .int (-1)), (5, .int 0)] []) (rr2 : sx0 = 0 → Q μ) : Wm G mX9_find E (bm G mX9_find E (pV Q)) μ 10 [(0, .ref (gb G + 42)), (1, .ref (gb G + c1)), (2, .ref (gb G + c2)), (3, .int x3)] [.int sx0] := by
  refine L_if_ne C (tgt := 14) dX9_find_10 rfl (fun p1 => ?_) (fun p1 => ?_)
  · refine L_iconst C (v := (-1)) dX9_find_14 rfl ?_
    refine L_istore C dX9_find_15 (Nat.le_of_ble_eq_true rfl) ?_
    refine L_iconst C (v := 0) dX9_find_17 rfl ?_
    refine L_istore C dX9_find_18 (Nat.le_of_ble_eq_true rfl) ?_
    exact kk1 p1
  · exact L_irV C dX9_find_13 rfl (rr2 p1)
set_option maxRecDepth 4000 in
theorem k_X9_find_20 {G : mG} {E : mE} {Q : mM → Prop} {μ : mM} (C : Cx G mX9_find E) {c1 : Nat} (h1 : sh c1 = (0, 3)) {c2 : Nat} (h2 : sh c2 = (0, 6)) {x3 : Int32} {x4 : Int32} {x5 : Int32} (cc1 : (μ c2 0) ≤ x5 → CtV G mX0_build [.ref (gb G + 45), .ref (gb G + c1), .int x3] μ (fun μ' => Wm G mX9_find E (bm G mX9_find E (pV Q)) μ' 67 [(0, .ref (gb G + 42)), (2, .ref (gb G + c2)), (4, .int x4)] [])) (ss2 : ¬ (μ c2 0) ≤ x5 → vp_in x5 64) (kk3 : ¬ (μ c2 0) ≤ x5 → ∀ v1 : Int32, ((¬ (μ (c2 + 2) x5.toNatClampNeg) = 2 ∧ v1 = x4) ∨ ((μ (c2 + 2) x5.toNatClampNeg) = 2 ∧ v1 = (x4 &&& (μ (c2 + 1) x5.toNatClampNeg)))) → Wm G mX9_find E (bm G mX9_find E (pV Q)) μ 20 [(0, .ref (gb G + 42)), (1, .ref (gb G + c1)), (2, .ref (gb G + c2)), (3, .int x3), (4, .int v1), (5, .int (x5 + (1 : Int32)))] []) : Wm G mX9_find E (bm G mX9_find E (pV Q)) μ 20 [(0, .ref (gb G + 42)), (1, .ref (gb G + c1)), (2, .ref (gb G + c2)), (3, .int x3), (4, .int x4), (5, .int x5)] [] := by
  refine L_iload C dX9_find_20 rfl ?_
  refine L_aload_n C (i := 2) dX9_find_22 rfl rfl ?_
  refine L_getI C dX9_find_23 h2 fl_X9_35 rfl ?_
  refine L_icmp_ge C (tgt := 58) dX9_find_26 rfl (fun p1 => ?_) (fun p1 => ?_)
  · refine L_aload_n C (i := 0) dX9_find_58 rfl rfl ?_
    refine L_getC C (c' := 45) dX9_find_59 sh_42 fl_X9_21 rfl rfl ?_
    refine L_aload_n C (i := 1) dX9_find_62 rfl rfl ?_
    refine L_iload_n C (i := 3) dX9_find_63 rfl rfl ?_
    refine L_sub [0, 2, 4] rfl ?_
    refine L_invV2v C dX9_find_64 sh_45 cal_X0_build lk_X9_42 ⟨Nat.le_of_ble_eq_true rfl, Nat.le_of_ble_eq_true rfl⟩ ⟨Nat.le_of_ble_eq_true rfl, Nat.le_of_ble_eq_true rfl⟩ (Nat.le_of_ble_eq_true rfl) ?_
    exact cc1 p1
  · refine L_aload_n C (i := 2) dX9_find_29 rfl rfl ?_
    refine L_getC C (c' := (c2 + 2)) dX9_find_30 h2 fl_X9_36 rfl rfl ?_
    refine L_iload C dX9_find_33 rfl ?_
    refine L_iald C dX9_find_35 (shd_6_2 h2) (ss2 p1) ?_
    refine L_iconst C (v := 2) dX9_find_36 rfl ?_
    refine phi (fun v1 : Int32 => Wm G mX9_find E (bm G mX9_find E (pV Q)) μ 52 [(0, .ref (gb G + 42)), (1, .ref (gb G + c1)), (2, .ref (gb G + c2)), (3, .int x3), (4, .int v1), (5, .int x5)] []) (fun v1 : Int32 => (¬ (μ (c2 + 2) x5.toNatClampNeg) = 2 ∧ v1 = x4) ∨ ((μ (c2 + 2) x5.toNatClampNeg) = 2 ∧ v1 = (x4 &&& (μ (c2 + 1) x5.toNatClampNeg)))) (fun H => ?_) (fun v1 hv1 => ?_)
    · refine L_icmp_ne C (tgt := 52) dX9_find_37 rfl (fun p2 => ?_) (fun p2 => ?_)
      · exact H _ (Or.inl ⟨p2, rfl⟩)
      · refine L_iload C dX9_find_40 rfl ?_
        refine L_aload_n C (i := 2) dX9_find_42 rfl rfl ?_
        refine L_getC C (c' := (c2 + 1)) dX9_find_43 h2 fl_X9_39 rfl rfl ?_
        refine L_iload C dX9_find_46 rfl ?_
        refine L_iald C dX9_find_48 (shd_6_1 h2) (ss2 p1) ?_
        refine L_iand C dX9_find_49 ?_
        refine L_istore C dX9_find_50 (Nat.le_of_ble_eq_true rfl) ?_
        exact H _ (Or.inr ⟨p2, rfl⟩)
    refine L_iinc C (v := 1) dX9_find_52 rfl rfl (Nat.le_of_ble_eq_true rfl) ?_
    refine L_goto C (tgt := 20) dX9_find_55 rfl ?_
    exact kk3 p1 v1 hv1
set_option maxRecDepth 4000 in
theorem k_X9_find_67 {G : mG} {E : mE} {B : mB} {μ : mM} (C : Cx G mX9_find E) {c2 : Nat} (h2 : sh c2 = (0, 6)) {x4 : Int32} (kk1 : Wm G mX9_find E B μ 70 [(0, .ref (gb G + 42)), (2, .ref (gb G + c2)), (4, .int x4), (5, .int 0)] []) : Wm G mX9_find E B μ 67 [(0, .ref (gb G + 42)), (2, .ref (gb G + c2)), (4, .int x4)] [] := by
  refine L_iconst C (v := 0) dX9_find_67 rfl ?_
  refine L_istore C dX9_find_68 (Nat.le_of_ble_eq_true rfl) ?_
  exact kk1
set_option maxRecDepth 4000 in
theorem k_X9_find_70 {G : mG} {E : mE} {Q : mM → Prop} {μ : mM} (C : Cx G mX9_find E) {c2 : Nat} (h2 : sh c2 = (0, 6)) {x4 : Int32} {x5 : Int32} (rr1 : (μ 45 0) ≤ x5 → Q μ) (cc2 : ¬ (μ 45 0) ≤ x5 → CtI G mX0_numberIn [.ref (gb G + 45), .int x5, .int x4] μ (fun r μ' => Wm G mX9_find E (bm G mX9_find E (pV Q)) μ' 93 [(0, .ref (gb G + 42)), (2, .ref (gb G + c2)), (4, .int x4), (5, .int x5)] [.int r])) : Wm G mX9_find E (bm G mX9_find E (pV Q)) μ 70 [(0, .ref (gb G + 42)), (2, .ref (gb G + c2)), (4, .int x4), (5, .int x5)] [] := by
  refine L_iload C dX9_find_70 rfl ?_
  refine L_aload_n C (i := 0) dX9_find_72 rfl rfl ?_
  refine L_getC C (c' := 45) dX9_find_73 sh_42 fl_X9_21 rfl rfl ?_
  refine L_getI C dX9_find_76 sh_45 fl_X9_46 rfl ?_
  refine L_icmp_ge C (tgt := 162) dX9_find_79 rfl (fun p1 => ?_) (fun p1 => ?_)
  · exact L_irV C dX9_find_162 rfl (rr1 p1)
  · refine L_aload_n C (i := 0) dX9_find_82 rfl rfl ?_
    refine L_getC C (c' := 45) dX9_find_83 sh_42 fl_X9_21 rfl rfl ?_
    refine L_iload C dX9_find_86 rfl ?_
    refine L_iload C dX9_find_88 rfl ?_
    refine L_invV2i C dX9_find_90 sh_45 cal_X0_numberIn lk_X9_47 ⟨Nat.le_of_ble_eq_true rfl, Nat.le_of_ble_eq_true rfl⟩ ⟨Nat.le_of_ble_eq_true rfl, Nat.le_of_ble_eq_true rfl⟩ (Nat.le_of_ble_eq_true rfl) ?_
    exact cc2 p1
set_option maxRecDepth 4000 in
theorem k_X9_find_93 {G : mG} {E : mE} {Q : mM → Prop} {μ : mM} (C : Cx G mX9_find E) {c2 : Nat} (h2 : sh c2 = (0, 6)) {x4 : Int32} {x5 : Int32} {sx0 : Int32} (cc1 : CtI G mX0_cellsIn [.ref (gb G + 45), .int x5, .int x4] μ (fun r μ' => Wm G mX9_find E (bm G mX9_find E (pV Q)) μ' 106 [(0, .ref (gb G + 42)), (2, .ref (gb G + c2)), (4, .int x4), (5, .int x5), (6, .int sx0)] [.int r])) : Wm G mX9_find E (bm G mX9_find E (pV Q)) μ 93 [(0, .ref (gb G + 42)), (2, .ref (gb G + c2)), (4, .int x4), (5, .int x5)] [.int sx0] := by
  refine L_istore C dX9_find_93 (Nat.le_of_ble_eq_true rfl) ?_
  refine L_aload_n C (i := 0) dX9_find_95 rfl rfl ?_
  refine L_getC C (c' := 45) dX9_find_96 sh_42 fl_X9_21 rfl rfl ?_
  refine L_iload C dX9_find_99 rfl ?_
  refine L_iload C dX9_find_101 rfl ?_
  refine L_invV2i C dX9_find_103 sh_45 cal_X0_cellsIn lk_X9_51 ⟨Nat.le_of_ble_eq_true rfl, Nat.le_of_ble_eq_true rfl⟩ ⟨Nat.le_of_ble_eq_true rfl, Nat.le_of_ble_eq_true rfl⟩ (Nat.le_of_ble_eq_true rfl) ?_
  exact cc1
set_option maxRecDepth 4000 in
theorem k_X9_find_106 {G : mG} {E : mE} {Q : mM → Prop} {μ : mM} (C : Cx G mX9_find E) {c2 : Nat} (h2 : sh c2 = (0, 6)) {x4 : Int32} {x5 : Int32} {x6 : Int32} {sx0 : Int32} (kk1 : x6 = (-1) → Wm G mX9_find E (bm G mX9_find E (pV Q)) μ 70 [(0, .ref (gb G + 42)), (2, .ref (gb G + c2)), (4, .int x4), (5, .int (x5 + (1 : Int32)))] []) (cc2 : ¬ x6 = (-1) → CtI G mX9_passed [.ref (gb G + 42), .ref (gb G + c2), .int sx0] μ (fun r μ' => Wm G mX9_find E (bm G mX9_find E (pV Q)) μ' 121 [(0, .ref (gb G + 42)), (2, .ref (gb G + c2)), (4, .int x4), (5, .int x5), (6, .int x6), (7, .int sx0)] [.int r])) : Wm G mX9_find E (bm G mX9_find E (pV Q)) μ 106 [(0, .ref (gb G + 42)), (2, .ref (gb G + c2)), (4, .int x4), (5, .int x5), (6, .int x6)] [.int sx0] := by
  refine L_istore C dX9_find_106 (Nat.le_of_ble_eq_true rfl) ?_
  refine L_iload C dX9_find_108 rfl ?_
  refine L_iconst C (v := (-1)) dX9_find_110 rfl ?_
  refine L_icmp_eq C (tgt := 156) dX9_find_111 rfl (fun p1 => ?_) (fun p1 => ?_)
  · refine L_iinc C (v := 1) dX9_find_156 rfl rfl (Nat.le_of_ble_eq_true rfl) ?_
    refine L_goto C (tgt := 70) dX9_find_159 rfl ?_
    refine L_sub [0, 1, 2, 3] rfl ?_
    exact kk1 p1
  · refine L_aload_n C (i := 0) dX9_find_114 rfl rfl ?_
    refine L_aload_n C (i := 2) dX9_find_115 rfl rfl ?_
    refine L_iload C dX9_find_116 rfl ?_
    refine L_invV2i C dX9_find_118 sh_42 cal_X9_passed lk_X9_54 ⟨Nat.le_of_ble_eq_true rfl, Nat.le_of_ble_eq_true rfl⟩ ⟨Nat.le_of_ble_eq_true rfl, Nat.le_of_ble_eq_true rfl⟩ (Nat.le_of_ble_eq_true rfl) ?_
    exact cc2 p1
set_option maxRecDepth 4000 in
theorem k_X9_find_121 {G : mG} {E : mE} {B : mB} {μ : mM} (C : Cx G mX9_find E) {c2 : Nat} (h2 : sh c2 = (0, 6)) {x4 : Int32} {x5 : Int32} {x6 : Int32} {x7 : Int32} {sx0 : Int32} (kk1 : ¬ sx0 = 0 → Wm G mX9_find E B μ 70 [(0, .ref (gb G + 42)), (2, .ref (gb G + c2)), (4, .int x4), (5, .int (x5 + (1 : Int32)))] []) (ss2 : sx0 = 0 → vp_in (μ 42 3) 56) (kk3 : sx0 = 0 → Wm G mX9_find E B (ms (ms (ms μ 43 (μ 42 3).toNatClampNeg x6) 44 (μ 42 3).toNatClampNeg x7) 42 3 ((μ 42 3) + (1 : Int32))) 70 [(0, .ref (gb G + 42)), (2, .ref (gb G + c2)), (4, .int x4), (5, .int (x5 + (1 : Int32)))] []) : Wm G mX9_find E B μ 121 [(0, .ref (gb G + 42)), (2, .ref (gb G + c2)), (4, .int x4), (5, .int x5), (6, .int x6), (7, .int x7)] [.int sx0] := by
  refine L_if_ne C (tgt := 156) dX9_find_121 rfl (fun p1 => ?_) (fun p1 => ?_)
  · refine L_iinc C (v := 1) dX9_find_156 rfl rfl (Nat.le_of_ble_eq_true rfl) ?_
    refine L_goto C (tgt := 70) dX9_find_159 rfl ?_
    refine L_sub [0, 1, 2, 3] rfl ?_
    exact kk1 p1
  · refine L_aload_n C (i := 0) dX9_find_124 rfl rfl ?_
    refine L_getC C (c' := 43) dX9_find_125 sh_42 fl_X9_9 rfl rfl ?_
    refine L_aload_n C (i := 0) dX9_find_128 rfl rfl ?_
    refine L_getI C dX9_find_129 sh_42 fl_X9_25 rfl ?_
    refine L_iload C dX9_find_132 rfl ?_
    refine L_iast C dX9_find_134 sh_43 (ss2 p1) ?_
    refine L_aload_n C (i := 0) dX9_find_135 rfl rfl ?_
    refine L_getC C (c' := 44) dX9_find_136 sh_42 fl_X9_15 rfl rfl ?_
    refine L_aload_n C (i := 0) dX9_find_139 rfl rfl ?_
    refine L_getI C dX9_find_140 sh_42 fl_X9_25 rfl ?_
    refine L_iload C dX9_find_143 rfl ?_
    refine L_iast C dX9_find_145 sh_44 (ss2 p1) ?_
    refine L_aload_n C (i := 0) dX9_find_146 rfl rfl ?_
    refine L_dup C dX9_find_147 rfl ?_
    refine L_getI C dX9_find_148 sh_42 fl_X9_25 rfl ?_
    refine L_iconst C (v := 1) dX9_find_151 rfl ?_
    refine L_iadd C dX9_find_152 ?_
    refine L_putI C dX9_find_153 sh_42 fl_X9_25 rfl rfl rfl ?_
    refine L_iinc C (v := 1) dX9_find_156 rfl rfl (Nat.le_of_ble_eq_true rfl) ?_
    refine L_goto C (tgt := 70) dX9_find_159 rfl ?_
    refine L_sub [0, 1, 2, 3] rfl ?_
    exact kk3 p1
set_option maxRecDepth 4000 in
theorem k_X11_guilty_0 {G : mG} {E : mE} {Q : Int32 → mM → Prop} {μ : mM} (C : Cx G mX11_guilty E) {x1 : Int32} {x2 : Int32} (rr1 : ((μ 15 0) ≤ 0 ∨ (¬ (μ 15 0) ≤ 0 ∧ (x1 < 1 ∨ (¬ x1 < 1 ∧ ((μ 15 1) < x1 ∨ (¬ (μ 15 1) < x1 ∧ ¬ (-1) ≤ x2)))))) → Q (-1) μ) (cc2 : ¬ (μ 15 0) ≤ 0 → ¬ x1 < 1 → ¬ (μ 15 1) < x1 → (-1) ≤ x2 → CtV G mX9_find [.ref (gb G + 42), .ref (gb G + 15), .ref (gb G + 19), .int x1] μ (fun μ' => Wm G mX11_guilty E (bm G mX11_guilty E (pI Q)) μ' 55 [(0, .ref (gb G + 0)), (2, .int x2)] [])) : Wm G mX11_guilty E (bm G mX11_guilty E (pI Q)) μ 0 [(0, .ref (gb G + 0)), (1, .int x1), (2, .int x2)] [] := by
  refine L_aload_n C (i := 0) dX11_guilty_0 rfl rfl ?_
  refine L_invV0i C dX11_guilty_1 sh_0 cal_X11_hasPlan lk_X11_165 ⟨Nat.le_of_ble_eq_true rfl, Nat.le_of_ble_eq_true rfl⟩ ⟨Nat.le_of_ble_eq_true rfl, Nat.le_of_ble_eq_true rfl⟩ (Nat.le_of_ble_eq_true rfl) (a_X11_hasPlan (fun p1 => ?_) (fun p2 => ?_))
  · refine L_if_eq C (tgt := 31) dX11_guilty_4 rfl (fun p3 => ?_) (fun p3 => absurd p3 (by decide))
    refine L_iconst C (v := (-1)) dX11_guilty_31 rfl ?_
    exact L_irI C dX11_guilty_32 rfl (rr1 (Or.inl p1))
  · refine L_if_eq C (tgt := 31) dX11_guilty_4 rfl (fun p4 => absurd p4 (by decide)) (fun p4 => ?_)
    refine L_iload_n C (i := 1) dX11_guilty_7 rfl rfl ?_
    refine L_iconst C (v := 1) dX11_guilty_8 rfl ?_
    refine L_icmp_lt C (tgt := 31) dX11_guilty_9 rfl (fun p5 => ?_) (fun p5 => ?_)
    · refine L_iconst C (v := (-1)) dX11_guilty_31 rfl ?_
      exact L_irI C dX11_guilty_32 rfl (rr1 (Or.inr ⟨p2, (Or.inl p5)⟩))
    · refine L_iload_n C (i := 1) dX11_guilty_12 rfl rfl ?_
      refine L_aload_n C (i := 0) dX11_guilty_13 rfl rfl ?_
      refine L_getC C (c' := 14) dX11_guilty_14 sh_0 fl_X11_26 rfl rfl ?_
      refine L_getC C (c' := 15) dX11_guilty_17 sh_14 fl_X11_77 rfl rfl ?_
      refine L_getI C dX11_guilty_20 sh_15 fl_X11_192 rfl ?_
      refine L_icmp_gt C (tgt := 31) dX11_guilty_23 rfl (fun p6 => ?_) (fun p6 => ?_)
      · refine L_iconst C (v := (-1)) dX11_guilty_31 rfl ?_
        exact L_irI C dX11_guilty_32 rfl (rr1 (Or.inr ⟨p2, (Or.inr ⟨p5, (Or.inl p6)⟩)⟩))
      · refine L_iload_n C (i := 2) dX11_guilty_26 rfl rfl ?_
        refine L_iconst C (v := (-1)) dX11_guilty_27 rfl ?_
        refine L_icmp_ge C (tgt := 33) dX11_guilty_28 rfl (fun p7 => ?_) (fun p7 => ?_)
        · refine L_aload_n C (i := 0) dX11_guilty_33 rfl rfl ?_
          refine L_getC C (c' := 42) dX11_guilty_34 sh_0 fl_X11_54 rfl rfl ?_
          refine L_aload_n C (i := 0) dX11_guilty_37 rfl rfl ?_
          refine L_getC C (c' := 14) dX11_guilty_38 sh_0 fl_X11_26 rfl rfl ?_
          refine L_getC C (c' := 15) dX11_guilty_41 sh_14 fl_X11_77 rfl rfl ?_
          refine L_aload_n C (i := 0) dX11_guilty_44 rfl rfl ?_
          refine L_getC C (c' := 14) dX11_guilty_45 sh_0 fl_X11_26 rfl rfl ?_
          refine L_getC C (c' := 19) dX11_guilty_48 sh_14 fl_X11_90 rfl rfl ?_
          refine L_iload_n C (i := 1) dX11_guilty_51 rfl rfl ?_
          refine L_sub [0, 2] rfl ?_
          refine L_invV3v C dX11_guilty_52 sh_42 cal_X9_find lk_X11_258 ⟨Nat.le_of_ble_eq_true rfl, Nat.le_of_ble_eq_true rfl⟩ ⟨Nat.le_of_ble_eq_true rfl, Nat.le_of_ble_eq_true rfl⟩ (Nat.le_of_ble_eq_true rfl) ?_
          exact cc2 p2 p5 p6 p7
        · refine L_iconst C (v := (-1)) dX11_guilty_31 rfl ?_
          exact L_irI C dX11_guilty_32 rfl (rr1 (Or.inr ⟨p2, (Or.inr ⟨p5, (Or.inr ⟨p6, p7⟩)⟩)⟩))
theorem e_X11_guilty {G : mG} {Q : Int32 → mM → Prop} {μ : mM} {x1 : Int32} {x2 : Int32} (k : ∀ E, Cx G mX11_guilty E → Wm G mX11_guilty E (bm G mX11_guilty E (pI Q)) μ 0 [(0, .ref (gb G + 0)), (1, .int x1), (2, .int x2)] []) : CtI G mX11_guilty [.ref (gb G + 0), .int x1, .int x2] μ Q := CtI.of pn_X11 (Nat.le_of_ble_eq_true rfl) k
set_option maxRecDepth 4000 in
theorem k_X11_guilty_55 {G : mG} {E : mE} {Q : Int32 → mM → Prop} {μ : mM} (C : Cx G mX11_guilty E) {x2 : Int32} (rr1 : ¬ x2 = (-1) → (μ 42 3) ≤ x2 → Q (-2) μ) (ss2 : ¬ x2 = (-1) → ¬ (μ 42 3) ≤ x2 → vp_in x2 56) (rr3 : ¬ x2 = (-1) → ¬ (μ 42 3) ≤ x2 → Q (μ 43 x2.toNatClampNeg) μ) (rr4 : x2 = (-1) → Q (μ 42 3) μ) : Wm G mX11_guilty E (bm G mX11_guilty E (pI Q)) μ 55 [(0, .ref (gb G + 0)), (2, .int x2)] [] := by
  refine L_iload_n C (i := 2) dX11_guilty_55 rfl rfl ?_
  refine L_iconst C (v := (-1)) dX11_guilty_56 rfl ?_
  refine L_icmp_ne C (tgt := 68) dX11_guilty_57 rfl (fun p1 => ?_) (fun p1 => ?_)
  · refine L_iload_n C (i := 2) dX11_guilty_68 rfl rfl ?_
    refine L_aload_n C (i := 0) dX11_guilty_69 rfl rfl ?_
    refine L_getC C (c' := 42) dX11_guilty_70 sh_0 fl_X11_54 rfl rfl ?_
    refine L_getI C dX11_guilty_73 sh_42 fl_X11_262 rfl ?_
    refine L_icmp_ge C (tgt := 91) dX11_guilty_76 rfl (fun p2 => ?_) (fun p2 => ?_)
    · refine L_bipush C (v := (-2)) dX11_guilty_91 rfl ?_
      exact L_irI C dX11_guilty_93 rfl (rr1 p1 p2)
    · refine L_aload_n C (i := 0) dX11_guilty_79 rfl rfl ?_
      refine L_getC C (c' := 42) dX11_guilty_80 sh_0 fl_X11_54 rfl rfl ?_
      refine L_getC C (c' := 43) dX11_guilty_83 sh_42 fl_X11_263 rfl rfl ?_
      refine L_iload_n C (i := 2) dX11_guilty_86 rfl rfl ?_
      refine L_iald C dX11_guilty_87 sh_43 (ss2 p1 p2) ?_
      refine L_goto C (tgt := 93) dX11_guilty_88 rfl ?_
      exact L_irI C dX11_guilty_93 rfl (rr3 p1 p2)
  · refine L_aload_n C (i := 0) dX11_guilty_60 rfl rfl ?_
    refine L_getC C (c' := 42) dX11_guilty_61 sh_0 fl_X11_54 rfl rfl ?_
    refine L_getI C dX11_guilty_64 sh_42 fl_X11_262 rfl ?_
    exact L_irI C dX11_guilty_67 rfl (rr4 p1)
set_option maxRecDepth 4000 in
theorem k_X9_lesserPart_0 {G : mG} {E : mE} {B : mB} {μ : mM} (C : Cx G mX9_lesserPart E) {x1 : Int32} (kk1 : Wm G mX9_lesserPart E B μ 4 [(0, .ref (gb G + 42)), (1, .int x1), (2, .int 0), (3, .int 0)] []) : Wm G mX9_lesserPart E B μ 0 [(0, .ref (gb G + 42)), (1, .int x1)] [] := by
  refine L_iconst C (v := 0) dX9_lesserPart_0 rfl ?_
  refine L_istore_n C (i := 2) dX9_lesserPart_1 rfl (Nat.le_of_ble_eq_true rfl) ?_
  refine L_iconst C (v := 0) dX9_lesserPart_2 rfl ?_
  refine L_istore_n C (i := 3) dX9_lesserPart_3 rfl (Nat.le_of_ble_eq_true rfl) ?_
  exact kk1
theorem e_X9_lesserPart {G : mG} {Q : Int32 → mM → Prop} {μ : mM} {x1 : Int32} (k : ∀ E, Cx G mX9_lesserPart E → Wm G mX9_lesserPart E (bm G mX9_lesserPart E (pI Q)) μ 0 [(0, .ref (gb G + 42)), (1, .int x1)] []) : CtI G mX9_lesserPart [.ref (gb G + 42), .int x1] μ Q := CtI.of pn_X9 (Nat.le_of_ble_eq_true rfl) k
set_option maxRecDepth 4000 in
theorem k_X9_lesserPart_4 {G : mG} {E : mE} {Q : Int32 → mM → Prop} {μ : mM} (C : Cx G mX9_lesserPart E) {x1 : Int32} {x2 : Int32} {x3 : Int32} (rr1 : (μ 42 3) ≤ x3 → Q (if ((μ 42 3) - x2) < x2 then ((μ 42 3) - x2) else x2) μ) (ss2 : ¬ (μ 42 3) ≤ x3 → vp_in x3 56) (kk3 : ¬ (μ 42 3) ≤ x3 → ∀ v1 : Int32, ((¬ ((μ 44 x3.toNatClampNeg) &&& (x1 ^^^ ((-1) : Int32))) = 0 ∧ v1 = 0) ∨ (((μ 44 x3.toNatClampNeg) &&& (x1 ^^^ ((-1) : Int32))) = 0 ∧ v1 = 1)) → Wm G mX9_lesserPart E (bm G mX9_lesserPart E (pI Q)) μ 4 [(0, .ref (gb G + 42)), (1, .int x1), (2, .int (x2 + v1)), (3, .int (x3 + (1 : Int32)))] []) : Wm G mX9_lesserPart E (bm G mX9_lesserPart E (pI Q)) μ 4 [(0, .ref (gb G + 42)), (1, .int x1), (2, .int x2), (3, .int x3)] [] := by
  refine L_iload_n C (i := 3) dX9_lesserPart_4 rfl rfl ?_
  refine L_aload_n C (i := 0) dX9_lesserPart_5 rfl rfl ?_
  refine L_getI C dX9_lesserPart_6 sh_42 fl_X9_25 rfl ?_
  refine L_icmp_ge C (tgt := 39) dX9_lesserPart_9 rfl (fun p1 => ?_) (fun p1 => ?_)
  · refine L_iload_n C (i := 2) dX9_lesserPart_39 rfl rfl ?_
    refine L_aload_n C (i := 0) dX9_lesserPart_40 rfl rfl ?_
    refine L_getI C dX9_lesserPart_41 sh_42 fl_X9_25 rfl ?_
    refine L_iload_n C (i := 2) dX9_lesserPart_44 rfl rfl ?_
    refine L_isub C dX9_lesserPart_45 ?_
    refine L_min C dX9_lesserPart_46 lk_X9_58 mmin_stat math_ini mmin_code (Nat.le_of_ble_eq_true rfl) (Nat.le_of_ble_eq_true rfl) (Nat.le_of_ble_eq_true rfl) ⟨Nat.le_of_ble_eq_true rfl, Nat.le_of_ble_eq_true rfl⟩ ?_
    exact L_irI C dX9_lesserPart_49 rfl (rr1 p1)
  · refine L_iload_n C (i := 2) dX9_lesserPart_12 rfl rfl ?_
    refine L_aload_n C (i := 0) dX9_lesserPart_13 rfl rfl ?_
    refine L_getC C (c' := 44) dX9_lesserPart_14 sh_42 fl_X9_15 rfl rfl ?_
    refine L_iload_n C (i := 3) dX9_lesserPart_17 rfl rfl ?_
    refine L_iald C dX9_lesserPart_18 sh_44 (ss2 p1) ?_
    refine L_iload_n C (i := 1) dX9_lesserPart_19 rfl rfl ?_
    refine L_iconst C (v := (-1)) dX9_lesserPart_20 rfl ?_
    refine L_ixor C dX9_lesserPart_21 ?_
    refine L_iand C dX9_lesserPart_22 ?_
    refine phi (fun v1 : Int32 => Wm G mX9_lesserPart E (bm G mX9_lesserPart E (pI Q)) μ 31 [(0, .ref (gb G + 42)), (1, .int x1), (3, .int x3)] [.int v1, .int x2]) (fun v1 : Int32 => (¬ ((μ 44 x3.toNatClampNeg) &&& (x1 ^^^ ((-1) : Int32))) = 0 ∧ v1 = 0) ∨ (((μ 44 x3.toNatClampNeg) &&& (x1 ^^^ ((-1) : Int32))) = 0 ∧ v1 = 1)) (fun H => ?_) (fun v1 hv1 => ?_)
    · refine L_if_ne C (tgt := 30) dX9_lesserPart_23 rfl (fun p2 => ?_) (fun p2 => ?_)
      · refine L_iconst C (v := 0) dX9_lesserPart_30 rfl ?_
        refine L_sub [0, 1, 3] rfl ?_
        exact H _ (Or.inl ⟨p2, rfl⟩)
      · refine L_iconst C (v := 1) dX9_lesserPart_26 rfl ?_
        refine L_goto C (tgt := 31) dX9_lesserPart_27 rfl ?_
        refine L_sub [0, 1, 3] rfl ?_
        exact H _ (Or.inr ⟨p2, rfl⟩)
    refine L_iadd C dX9_lesserPart_31 ?_
    refine L_istore_n C (i := 2) dX9_lesserPart_32 rfl (Nat.le_of_ble_eq_true rfl) ?_
    refine L_iinc C (v := 1) dX9_lesserPart_33 rfl rfl (Nat.le_of_ble_eq_true rfl) ?_
    refine L_goto C (tgt := 4) dX9_lesserPart_36 rfl ?_
    exact kk3 p1 v1 hv1
set_option maxRecDepth 4000 in
theorem k_X9_rowThatPartsBest_0 {G : mG} {E : mE} {B : mB} {μ : mM} (C : Cx G mX9_rowThatPartsBest E) {c1 : Nat} (h1 : sh c1 = (0, 6)) (kk1 : Wm G mX9_rowThatPartsBest E B μ 7 [(0, .ref (gb G + 42)), (1, .ref (gb G + c1)), (2, .int (-1)), (3, .int (-1)), (4, .int 0)] []) : Wm G mX9_rowThatPartsBest E B μ 0 [(0, .ref (gb G + 42)), (1, .ref (gb G + c1))] [] := by
  refine L_iconst C (v := (-1)) dX9_rowThatPartsBest_0 rfl ?_
  refine L_istore_n C (i := 2) dX9_rowThatPartsBest_1 rfl (Nat.le_of_ble_eq_true rfl) ?_
  refine L_iconst C (v := (-1)) dX9_rowThatPartsBest_2 rfl ?_
  refine L_istore_n C (i := 3) dX9_rowThatPartsBest_3 rfl (Nat.le_of_ble_eq_true rfl) ?_
  refine L_iconst C (v := 0) dX9_rowThatPartsBest_4 rfl ?_
  refine L_istore C dX9_rowThatPartsBest_5 (Nat.le_of_ble_eq_true rfl) ?_
  exact kk1
theorem e_X9_rowThatPartsBest {G : mG} {Q : Int32 → mM → Prop} {μ : mM} {c1 : Nat} (h1 : sh c1 = (0, 6)) (k : ∀ E, Cx G mX9_rowThatPartsBest E → Wm G mX9_rowThatPartsBest E (bm G mX9_rowThatPartsBest E (pI Q)) μ 0 [(0, .ref (gb G + 42)), (1, .ref (gb G + c1))] []) : CtI G mX9_rowThatPartsBest [.ref (gb G + 42), .ref (gb G + c1)] μ Q := CtI.of pn_X9 (Nat.le_of_ble_eq_true rfl) k
set_option maxRecDepth 4000 in
theorem k_X9_rowThatPartsBest_7 {G : mG} {E : mE} {Q : Int32 → mM → Prop} {μ : mM} (C : Cx G mX9_rowThatPartsBest E) {c1 : Nat} (h1 : sh c1 = (0, 6)) {x2 : Int32} {x3 : Int32} {x4 : Int32} (rr1 : ((μ 42 3) ≤ 0 ∨ (¬ (μ 42 3) ≤ 0 ∧ (μ c1 0) ≤ x4)) → Q x2 μ) (ss2 : ¬ (μ 42 3) ≤ 0 → ¬ (μ c1 0) ≤ x4 → vp_in x4 64) (kk3 : ¬ (μ 42 3) ≤ 0 → ¬ (μ c1 0) ≤ x4 → ¬ (μ (c1 + 2) x4.toNatClampNeg) = 0 → Wm G mX9_rowThatPartsBest E (bm G mX9_rowThatPartsBest E (pI Q)) μ 7 [(0, .ref (gb G + 42)), (1, .ref (gb G + c1)), (2, .int x2), (3, .int x3), (4, .int (x4 + (1 : Int32)))] []) (cc4 : ¬ (μ 42 3) ≤ 0 → ¬ (μ c1 0) ≤ x4 → (μ (c1 + 2) x4.toNatClampNeg) = 0 → CtI G mX9_lesserPart [.ref (gb G + 42), .int (μ (c1 + 1) x4.toNatClampNeg)] μ (fun r μ' => Wm G mX9_rowThatPartsBest E (bm G mX9_rowThatPartsBest E (pI Q)) μ' 44 [(0, .ref (gb G + 42)), (1, .ref (gb G + c1)), (2, .int x2), (3, .int x3), (4, .int x4)] [.int r])) : Wm G mX9_rowThatPartsBest E (bm G mX9_rowThatPartsBest E (pI Q)) μ 7 [(0, .ref (gb G + 42)), (1, .ref (gb G + c1)), (2, .int x2), (3, .int x3), (4, .int x4)] [] := by
  refine L_aload_n C (i := 0) dX9_rowThatPartsBest_7 rfl rfl ?_
  refine L_getI C dX9_rowThatPartsBest_8 sh_42 fl_X9_25 rfl ?_
  refine L_if_le C (tgt := 64) dX9_rowThatPartsBest_11 rfl (fun p1 => ?_) (fun p1 => ?_)
  · refine L_iload_n C (i := 2) dX9_rowThatPartsBest_64 rfl rfl ?_
    exact L_irI C dX9_rowThatPartsBest_65 rfl (rr1 (Or.inl p1))
  · refine L_iload C dX9_rowThatPartsBest_14 rfl ?_
    refine L_aload_n C (i := 1) dX9_rowThatPartsBest_16 rfl rfl ?_
    refine L_getI C dX9_rowThatPartsBest_17 h1 fl_X9_35 rfl ?_
    refine L_icmp_ge C (tgt := 64) dX9_rowThatPartsBest_20 rfl (fun p2 => ?_) (fun p2 => ?_)
    · refine L_iload_n C (i := 2) dX9_rowThatPartsBest_64 rfl rfl ?_
      exact L_irI C dX9_rowThatPartsBest_65 rfl (rr1 (Or.inr ⟨p1, p2⟩))
    · refine L_aload_n C (i := 1) dX9_rowThatPartsBest_23 rfl rfl ?_
      refine L_getC C (c' := (c1 + 2)) dX9_rowThatPartsBest_24 h1 fl_X9_36 rfl rfl ?_
      refine L_iload C dX9_rowThatPartsBest_27 rfl ?_
      refine L_iald C dX9_rowThatPartsBest_29 (shd_6_2 h1) (ss2 p1 p2) ?_
      refine L_if_ne C (tgt := 58) dX9_rowThatPartsBest_30 rfl (fun p3 => ?_) (fun p3 => ?_)
      · refine L_iinc C (v := 1) dX9_rowThatPartsBest_58 rfl rfl (Nat.le_of_ble_eq_true rfl) ?_
        refine L_goto C (tgt := 7) dX9_rowThatPartsBest_61 rfl ?_
        exact kk3 p1 p2 p3
      · refine L_aload_n C (i := 0) dX9_rowThatPartsBest_33 rfl rfl ?_
        refine L_aload_n C (i := 1) dX9_rowThatPartsBest_34 rfl rfl ?_
        refine L_getC C (c' := (c1 + 1)) dX9_rowThatPartsBest_35 h1 fl_X9_39 rfl rfl ?_
        refine L_iload C dX9_rowThatPartsBest_38 rfl ?_
        refine L_iald C dX9_rowThatPartsBest_40 (shd_6_1 h1) (ss2 p1 p2) ?_
        refine L_invV1i C dX9_rowThatPartsBest_41 sh_42 cal_X9_lesserPart lk_X9_63 ⟨Nat.le_of_ble_eq_true rfl, Nat.le_of_ble_eq_true rfl⟩ ⟨Nat.le_of_ble_eq_true rfl, Nat.le_of_ble_eq_true rfl⟩ (Nat.le_of_ble_eq_true rfl) ?_
        exact cc4 p1 p2 p3
set_option maxRecDepth 4000 in
theorem k_X9_rowThatPartsBest_44 {G : mG} {E : mE} {B : mB} {μ : mM} (C : Cx G mX9_rowThatPartsBest E) {c1 : Nat} (h1 : sh c1 = (0, 6)) {x2 : Int32} {x3 : Int32} {x4 : Int32} {sx0 : Int32} (kk1 : sx0 ≤ x3 → Wm G mX9_rowThatPartsBest E B μ 7 [(0, .ref (gb G + 42)), (1, .ref (gb G + c1)), (2, .int x2), (3, .int x3), (4, .int (x4 + (1 : Int32)))] []) (kk2 : ¬ sx0 ≤ x3 → Wm G mX9_rowThatPartsBest E B μ 7 [(0, .ref (gb G + 42)), (1, .ref (gb G + c1)), (2, .int x4), (3, .int sx0), (4, .int (x4 + (1 : Int32)))] []) : Wm G mX9_rowThatPartsBest E B μ 44 [(0, .ref (gb G + 42)), (1, .ref (gb G + c1)), (2, .int x2), (3, .int x3), (4, .int x4)] [.int sx0] := by
  refine L_istore C dX9_rowThatPartsBest_44 (Nat.le_of_ble_eq_true rfl) ?_
  refine L_iload C dX9_rowThatPartsBest_46 rfl ?_
  refine L_iload_n C (i := 3) dX9_rowThatPartsBest_48 rfl rfl ?_
  refine L_icmp_le C (tgt := 58) dX9_rowThatPartsBest_49 rfl (fun p1 => ?_) (fun p1 => ?_)
  · refine L_iinc C (v := 1) dX9_rowThatPartsBest_58 rfl rfl (Nat.le_of_ble_eq_true rfl) ?_
    refine L_goto C (tgt := 7) dX9_rowThatPartsBest_61 rfl ?_
    refine L_sub [0, 1, 2, 3, 4] rfl ?_
    exact kk1 p1
  · refine L_iload C dX9_rowThatPartsBest_52 rfl ?_
    refine L_istore_n C (i := 3) dX9_rowThatPartsBest_54 rfl (Nat.le_of_ble_eq_true rfl) ?_
    refine L_iload C dX9_rowThatPartsBest_55 rfl ?_
    refine L_istore_n C (i := 2) dX9_rowThatPartsBest_57 rfl (Nat.le_of_ble_eq_true rfl) ?_
    refine L_iinc C (v := 1) dX9_rowThatPartsBest_58 rfl rfl (Nat.le_of_ble_eq_true rfl) ?_
    refine L_goto C (tgt := 7) dX9_rowThatPartsBest_61 rfl ?_
    refine L_sub [0, 1, 2, 3, 4] rfl ?_
    exact kk2 p1
set_option maxRecDepth 4000 in
theorem k_X11_ask_0 {G : mG} {E : mE} {Q : Int32 → mM → Prop} {μ : mM} (C : Cx G mX11_ask E) {x1 : Int32} (rr1 : ((μ 15 0) ≤ 0 ∨ (¬ (μ 15 0) ≤ 0 ∧ (x1 < 0 ∨ (¬ x1 < 0 ∧ ¬ x1 ≤ 1)))) → Q (-1) μ) (cc2 : ¬ (μ 15 0) ≤ 0 → ¬ x1 < 0 → x1 ≤ 1 → CtV G mX9_find [.ref (gb G + 42), .ref (gb G + 15), .ref (gb G + 19), .int (μ 15 1)] μ (fun μ' => Wm G mX11_ask E (bm G mX11_ask E (pI Q)) μ' 49 [(0, .ref (gb G + 0)), (1, .int x1)] [])) : Wm G mX11_ask E (bm G mX11_ask E (pI Q)) μ 0 [(0, .ref (gb G + 0)), (1, .int x1)] [] := by
  refine L_aload_n C (i := 0) dX11_ask_0 rfl rfl ?_
  refine L_invV0i C dX11_ask_1 sh_0 cal_X11_hasPlan lk_X11_165 ⟨Nat.le_of_ble_eq_true rfl, Nat.le_of_ble_eq_true rfl⟩ ⟨Nat.le_of_ble_eq_true rfl, Nat.le_of_ble_eq_true rfl⟩ (Nat.le_of_ble_eq_true rfl) (a_X11_hasPlan (fun p1 => ?_) (fun p2 => ?_))
  · refine L_if_eq C (tgt := 16) dX11_ask_4 rfl (fun p3 => ?_) (fun p3 => absurd p3 (by decide))
    refine L_iconst C (v := (-1)) dX11_ask_16 rfl ?_
    exact L_irI C dX11_ask_17 rfl (rr1 (Or.inl p1))
  · refine L_if_eq C (tgt := 16) dX11_ask_4 rfl (fun p4 => absurd p4 (by decide)) (fun p4 => ?_)
    refine L_iload_n C (i := 1) dX11_ask_7 rfl rfl ?_
    refine L_if_lt C (tgt := 16) dX11_ask_8 rfl (fun p5 => ?_) (fun p5 => ?_)
    · refine L_iconst C (v := (-1)) dX11_ask_16 rfl ?_
      exact L_irI C dX11_ask_17 rfl (rr1 (Or.inr ⟨p2, (Or.inl p5)⟩))
    · refine L_iload_n C (i := 1) dX11_ask_11 rfl rfl ?_
      refine L_iconst C (v := 1) dX11_ask_12 rfl ?_
      refine L_icmp_le C (tgt := 18) dX11_ask_13 rfl (fun p6 => ?_) (fun p6 => ?_)
      · refine L_aload_n C (i := 0) dX11_ask_18 rfl rfl ?_
        refine L_getC C (c' := 42) dX11_ask_19 sh_0 fl_X11_54 rfl rfl ?_
        refine L_aload_n C (i := 0) dX11_ask_22 rfl rfl ?_
        refine L_getC C (c' := 14) dX11_ask_23 sh_0 fl_X11_26 rfl rfl ?_
        refine L_getC C (c' := 15) dX11_ask_26 sh_14 fl_X11_77 rfl rfl ?_
        refine L_aload_n C (i := 0) dX11_ask_29 rfl rfl ?_
        refine L_getC C (c' := 14) dX11_ask_30 sh_0 fl_X11_26 rfl rfl ?_
        refine L_getC C (c' := 19) dX11_ask_33 sh_14 fl_X11_90 rfl rfl ?_
        refine L_aload_n C (i := 0) dX11_ask_36 rfl rfl ?_
        refine L_getC C (c' := 14) dX11_ask_37 sh_0 fl_X11_26 rfl rfl ?_
        refine L_getC C (c' := 15) dX11_ask_40 sh_14 fl_X11_77 rfl rfl ?_
        refine L_getI C dX11_ask_43 sh_15 fl_X11_192 rfl ?_
        refine L_invV3v C dX11_ask_46 sh_42 cal_X9_find lk_X11_258 ⟨Nat.le_of_ble_eq_true rfl, Nat.le_of_ble_eq_true rfl⟩ ⟨Nat.le_of_ble_eq_true rfl, Nat.le_of_ble_eq_true rfl⟩ (Nat.le_of_ble_eq_true rfl) ?_
        exact cc2 p2 p5 p6
      · refine L_iconst C (v := (-1)) dX11_ask_16 rfl ?_
        exact L_irI C dX11_ask_17 rfl (rr1 (Or.inr ⟨p2, (Or.inr ⟨p5, p6⟩)⟩))
theorem e_X11_ask {G : mG} {Q : Int32 → mM → Prop} {μ : mM} {x1 : Int32} (k : ∀ E, Cx G mX11_ask E → Wm G mX11_ask E (bm G mX11_ask E (pI Q)) μ 0 [(0, .ref (gb G + 0)), (1, .int x1)] []) : CtI G mX11_ask [.ref (gb G + 0), .int x1] μ Q := CtI.of pn_X11 (Nat.le_of_ble_eq_true rfl) k
set_option maxRecDepth 4000 in
theorem k_X11_ask_49 {G : mG} {E : mE} {Q : Int32 → mM → Prop} {μ : mM} (C : Cx G mX11_ask E) {x1 : Int32} (cc1 : CtI G mX9_rowThatPartsBest [.ref (gb G + 42), .ref (gb G + 19)] μ (fun r μ' => Wm G mX11_ask E (bm G mX11_ask E (pI Q)) μ' 63 [(0, .ref (gb G + 0)), (1, .int x1)] [.int r])) : Wm G mX11_ask E (bm G mX11_ask E (pI Q)) μ 49 [(0, .ref (gb G + 0)), (1, .int x1)] [] := by
  refine L_aload_n C (i := 0) dX11_ask_49 rfl rfl ?_
  refine L_getC C (c' := 42) dX11_ask_50 sh_0 fl_X11_54 rfl rfl ?_
  refine L_aload_n C (i := 0) dX11_ask_53 rfl rfl ?_
  refine L_getC C (c' := 14) dX11_ask_54 sh_0 fl_X11_26 rfl rfl ?_
  refine L_getC C (c' := 19) dX11_ask_57 sh_14 fl_X11_90 rfl rfl ?_
  refine L_invV1i C dX11_ask_60 sh_42 cal_X9_rowThatPartsBest lk_X11_266 ⟨Nat.le_of_ble_eq_true rfl, Nat.le_of_ble_eq_true rfl⟩ ⟨Nat.le_of_ble_eq_true rfl, Nat.le_of_ble_eq_true rfl⟩ (Nat.le_of_ble_eq_true rfl) ?_
  exact cc1
set_option maxRecDepth 4000 in
theorem k_X11_ask_63 {G : mG} {E : mE} {Q : Int32 → mM → Prop} {μ : mM} (C : Cx G mX11_ask E) {x1 : Int32} {sx0 : Int32} (ss1 : ¬ sx0 = (-1) → ¬ x1 = 0 → vp_in sx0 64) (cc2 : ¬ sx0 = (-1) → ¬ x1 = 0 → CtI G mX9_lesserPart [.ref (gb G + 42), .int (μ 20 sx0.toNatClampNeg)] μ (fun r μ' => Wm G mX11_ask E (bm G mX11_ask E (pI Q)) μ' 99 [] [.int r])) (kk3 : ¬ sx0 = (-1) → x1 = 0 → Wm G mX11_ask E (bm G mX11_ask E (pI Q)) μ 99 [] [.int sx0]) (rr4 : sx0 = (-1) → Q (-2) μ) : Wm G mX11_ask E (bm G mX11_ask E (pI Q)) μ 63 [(0, .ref (gb G + 0)), (1, .int x1)] [.int sx0] := by
  refine L_istore_n C (i := 2) dX11_ask_63 rfl (Nat.le_of_ble_eq_true rfl) ?_
  refine L_iload_n C (i := 2) dX11_ask_64 rfl rfl ?_
  refine L_iconst C (v := (-1)) dX11_ask_65 rfl ?_
  refine L_icmp_ne C (tgt := 72) dX11_ask_66 rfl (fun p1 => ?_) (fun p1 => ?_)
  · refine L_iload_n C (i := 1) dX11_ask_72 rfl rfl ?_
    refine L_if_ne C (tgt := 80) dX11_ask_73 rfl (fun p2 => ?_) (fun p2 => ?_)
    · refine L_aload_n C (i := 0) dX11_ask_80 rfl rfl ?_
      refine L_getC C (c' := 42) dX11_ask_81 sh_0 fl_X11_54 rfl rfl ?_
      refine L_aload_n C (i := 0) dX11_ask_84 rfl rfl ?_
      refine L_getC C (c' := 14) dX11_ask_85 sh_0 fl_X11_26 rfl rfl ?_
      refine L_getC C (c' := 19) dX11_ask_88 sh_14 fl_X11_90 rfl rfl ?_
      refine L_getC C (c' := 20) dX11_ask_91 sh_19 fl_X11_152 rfl rfl ?_
      refine L_iload_n C (i := 2) dX11_ask_94 rfl rfl ?_
      refine L_iald C dX11_ask_95 sh_20 (ss1 p1 p2) ?_
      refine L_sub [] rfl ?_
      refine L_invV1i C dX11_ask_96 sh_42 cal_X9_lesserPart lk_X11_270 ⟨Nat.le_of_ble_eq_true rfl, Nat.le_of_ble_eq_true rfl⟩ ⟨Nat.le_of_ble_eq_true rfl, Nat.le_of_ble_eq_true rfl⟩ (Nat.le_of_ble_eq_true rfl) ?_
      exact cc2 p1 p2
    · refine L_iload_n C (i := 2) dX11_ask_76 rfl rfl ?_
      refine L_goto C (tgt := 99) dX11_ask_77 rfl ?_
      refine L_sub [] rfl ?_
      exact kk3 p1 p2
  · refine L_bipush C (v := (-2)) dX11_ask_69 rfl ?_
    exact L_irI C dX11_ask_71 rfl (rr4 p1)
set_option maxRecDepth 4000 in
theorem k_X11_ask_99 {G : mG} {E : mE} {Q : Int32 → mM → Prop} {μ : mM} (C : Cx G mX11_ask E) {sx0 : Int32} (rr1 : Q sx0 μ) : Wm G mX11_ask E (bm G mX11_ask E (pI Q)) μ 99 [] [.int sx0] := by
  exact L_irI C dX11_ask_99 rfl (rr1)
set_option maxRecDepth 4000 in
theorem k_X4_sameAs_0 {G : mG} {E : mE} {B : mB} {μ : mM} (C : Cx G mX4_sameAs E) {c0 : Nat} (h0 : sh c0 = (0, 3)) {c1 : Nat} (h1 : sh c1 = (0, 3)) (kk1 : ∀ v1 : Int32, (((¬ (μ c0 0) = (μ c1 0) ∨ ((μ c0 0) = (μ c1 0) ∧ (¬ (μ c0 1) = (μ c1 1) ∨ ((μ c0 1) = (μ c1 1) ∧ (¬ (μ c0 2) = (μ c1 2) ∨ ((μ c0 2) = (μ c1 2) ∧ ¬ (μ c0 3) = (μ c1 3))))))) ∧ v1 = 0) ∨ ((μ c0 0) = (μ c1 0) ∧ (μ c0 1) = (μ c1 1) ∧ (μ c0 2) = (μ c1 2) ∧ (μ c0 3) = (μ c1 3) ∧ v1 = 1)) → Wm G mX4_sameAs E B μ 52 [(0, .ref (gb G + c0)), (1, .ref (gb G + c1)), (2, .int v1), (3, .int 0)] []) : Wm G mX4_sameAs E B μ 0 [(0, .ref (gb G + c0)), (1, .ref (gb G + c1))] [] := by
  refine L_aload_n C (i := 0) dX4_sameAs_0 rfl rfl ?_
  refine L_getI C dX4_sameAs_1 h0 fl_X4_21 rfl ?_
  refine L_aload_n C (i := 1) dX4_sameAs_4 rfl rfl ?_
  refine L_getI C dX4_sameAs_5 h1 fl_X4_21 rfl ?_
  refine phi (fun v1 : Int32 => Wm G mX4_sameAs E B μ 49 [(0, .ref (gb G + c0)), (1, .ref (gb G + c1))] [.int v1]) (fun v1 : Int32 => ((¬ (μ c0 0) = (μ c1 0) ∨ ((μ c0 0) = (μ c1 0) ∧ (¬ (μ c0 1) = (μ c1 1) ∨ ((μ c0 1) = (μ c1 1) ∧ (¬ (μ c0 2) = (μ c1 2) ∨ ((μ c0 2) = (μ c1 2) ∧ ¬ (μ c0 3) = (μ c1 3))))))) ∧ v1 = 0) ∨ ((μ c0 0) = (μ c1 0) ∧ (μ c0 1) = (μ c1 1) ∧ (μ c0 2) = (μ c1 2) ∧ (μ c0 3) = (μ c1 3) ∧ v1 = 1)) (fun H => ?_) (fun v1 hv1 => ?_)
  · refine L_icmp_ne C (tgt := 48) dX4_sameAs_8 rfl (fun p1 => ?_) (fun p1 => ?_)
    · refine L_iconst C (v := 0) dX4_sameAs_48 rfl ?_
      exact H _ (Or.inl ⟨(Or.inl p1), rfl⟩)
    · refine L_aload_n C (i := 0) dX4_sameAs_11 rfl rfl ?_
      refine L_getI C dX4_sameAs_12 h0 fl_X4_25 rfl ?_
      refine L_aload_n C (i := 1) dX4_sameAs_15 rfl rfl ?_
      refine L_getI C dX4_sameAs_16 h1 fl_X4_25 rfl ?_
      refine L_icmp_ne C (tgt := 48) dX4_sameAs_19 rfl (fun p2 => ?_) (fun p2 => ?_)
      · refine L_iconst C (v := 0) dX4_sameAs_48 rfl ?_
        exact H _ (Or.inl ⟨(Or.inr ⟨p1, (Or.inl p2)⟩), rfl⟩)
      · refine L_aload_n C (i := 0) dX4_sameAs_22 rfl rfl ?_
        refine L_getI C dX4_sameAs_23 h0 fl_X4_28 rfl ?_
        refine L_aload_n C (i := 1) dX4_sameAs_26 rfl rfl ?_
        refine L_getI C dX4_sameAs_27 h1 fl_X4_28 rfl ?_
        refine L_icmp_ne C (tgt := 48) dX4_sameAs_30 rfl (fun p3 => ?_) (fun p3 => ?_)
        · refine L_iconst C (v := 0) dX4_sameAs_48 rfl ?_
          exact H _ (Or.inl ⟨(Or.inr ⟨p1, (Or.inr ⟨p2, (Or.inl p3)⟩)⟩), rfl⟩)
        · refine L_aload_n C (i := 0) dX4_sameAs_33 rfl rfl ?_
          refine L_getI C dX4_sameAs_34 h0 fl_X4_31 rfl ?_
          refine L_aload_n C (i := 1) dX4_sameAs_37 rfl rfl ?_
          refine L_getI C dX4_sameAs_38 h1 fl_X4_31 rfl ?_
          refine L_icmp_ne C (tgt := 48) dX4_sameAs_41 rfl (fun p4 => ?_) (fun p4 => ?_)
          · refine L_iconst C (v := 0) dX4_sameAs_48 rfl ?_
            exact H _ (Or.inl ⟨(Or.inr ⟨p1, (Or.inr ⟨p2, (Or.inr ⟨p3, p4⟩)⟩)⟩), rfl⟩)
          · refine L_iconst C (v := 1) dX4_sameAs_44 rfl ?_
            refine L_goto C (tgt := 49) dX4_sameAs_45 rfl ?_
            exact H _ (Or.inr ⟨p1, p2, p3, p4, rfl⟩)
  refine L_istore_n C (i := 2) dX4_sameAs_49 rfl (Nat.le_of_ble_eq_true rfl) ?_
  refine L_iconst C (v := 0) dX4_sameAs_50 rfl ?_
  refine L_istore_n C (i := 3) dX4_sameAs_51 rfl (Nat.le_of_ble_eq_true rfl) ?_
  exact kk1 v1 hv1
theorem e_X4_sameAs {G : mG} {Q : Int32 → mM → Prop} {μ : mM} {c0 : Nat} (h0 : sh c0 = (0, 3)) {c1 : Nat} (h1 : sh c1 = (0, 3)) (k : ∀ E, Cx G mX4_sameAs E → Wm G mX4_sameAs E (bm G mX4_sameAs E (pI Q)) μ 0 [(0, .ref (gb G + c0)), (1, .ref (gb G + c1))] []) : CtI G mX4_sameAs [.ref (gb G + c0), .ref (gb G + c1)] μ Q := CtI.of pn_X4 (Nat.le_of_ble_eq_true rfl) k
set_option maxRecDepth 4000 in
theorem k_X4_sameAs_52 {G : mG} {E : mE} {Q : Int32 → mM → Prop} {μ : mM} (C : Cx G mX4_sameAs E) {c0 : Nat} (h0 : sh c0 = (0, 3)) {c1 : Nat} (h1 : sh c1 = (0, 3)) {x2 : Int32} {x3 : Int32} (zz1 : (x2 = 0 ∨ (¬ x2 = 0 ∧ (μ c0 2) ≤ x3)) → (x2 = 0 ∨ x2 = 1)) (rr2 : (x2 = 0 ∨ (¬ x2 = 0 ∧ (μ c0 2) ≤ x3)) → Q x2 μ) (ss3 : ¬ x2 = 0 → ¬ (μ c0 2) ≤ x3 → vp_in x3 12) (kk4 : ¬ x2 = 0 → ¬ (μ c0 2) ≤ x3 → ∀ v1 : Int32, ((¬ (μ (c0 + 2) x3.toNatClampNeg) = (μ (c1 + 2) x3.toNatClampNeg) ∧ v1 = 0) ∨ ((μ (c0 + 2) x3.toNatClampNeg) = (μ (c1 + 2) x3.toNatClampNeg) ∧ v1 = 1)) → Wm G mX4_sameAs E (bm G mX4_sameAs E (pI Q)) μ 52 [(0, .ref (gb G + c0)), (1, .ref (gb G + c1)), (2, .int v1), (3, .int (x3 + (1 : Int32)))] []) : Wm G mX4_sameAs E (bm G mX4_sameAs E (pI Q)) μ 52 [(0, .ref (gb G + c0)), (1, .ref (gb G + c1)), (2, .int x2), (3, .int x3)] [] := by
  refine L_iload_n C (i := 2) dX4_sameAs_52 rfl rfl ?_
  refine L_if_eq C (tgt := 91) dX4_sameAs_53 rfl (fun p1 => ?_) (fun p1 => ?_)
  · refine L_iload_n C (i := 2) dX4_sameAs_91 rfl rfl ?_
    exact L_irZ C dX4_sameAs_92 rfl (zz1 (Or.inl p1)) (rr2 (Or.inl p1))
  · refine L_iload_n C (i := 3) dX4_sameAs_56 rfl rfl ?_
    refine L_aload_n C (i := 0) dX4_sameAs_57 rfl rfl ?_
    refine L_getI C dX4_sameAs_58 h0 fl_X4_28 rfl ?_
    refine L_icmp_ge C (tgt := 91) dX4_sameAs_61 rfl (fun p2 => ?_) (fun p2 => ?_)
    · refine L_iload_n C (i := 2) dX4_sameAs_91 rfl rfl ?_
      exact L_irZ C dX4_sameAs_92 rfl (zz1 (Or.inr ⟨p1, p2⟩)) (rr2 (Or.inr ⟨p1, p2⟩))
    · refine L_aload_n C (i := 0) dX4_sameAs_64 rfl rfl ?_
      refine L_getC C (c' := (c0 + 2)) dX4_sameAs_65 h0 fl_X4_15 rfl rfl ?_
      refine L_iload_n C (i := 3) dX4_sameAs_68 rfl rfl ?_
      refine L_iald C dX4_sameAs_69 (shd_3_2 h0) (ss3 p1 p2) ?_
      refine L_aload_n C (i := 1) dX4_sameAs_70 rfl rfl ?_
      refine L_getC C (c' := (c1 + 2)) dX4_sameAs_71 h1 fl_X4_15 rfl rfl ?_
      refine L_iload_n C (i := 3) dX4_sameAs_74 rfl rfl ?_
      refine L_iald C dX4_sameAs_75 (shd_3_2 h1) (ss3 p1 p2) ?_
      refine phi (fun v1 : Int32 => Wm G mX4_sameAs E (bm G mX4_sameAs E (pI Q)) μ 84 [(0, .ref (gb G + c0)), (1, .ref (gb G + c1)), (3, .int x3)] [.int v1]) (fun v1 : Int32 => (¬ (μ (c0 + 2) x3.toNatClampNeg) = (μ (c1 + 2) x3.toNatClampNeg) ∧ v1 = 0) ∨ ((μ (c0 + 2) x3.toNatClampNeg) = (μ (c1 + 2) x3.toNatClampNeg) ∧ v1 = 1)) (fun H => ?_) (fun v1 hv1 => ?_)
      · refine L_icmp_ne C (tgt := 83) dX4_sameAs_76 rfl (fun p3 => ?_) (fun p3 => ?_)
        · refine L_iconst C (v := 0) dX4_sameAs_83 rfl ?_
          refine L_sub [0, 1, 3] rfl ?_
          exact H _ (Or.inl ⟨p3, rfl⟩)
        · refine L_iconst C (v := 1) dX4_sameAs_79 rfl ?_
          refine L_goto C (tgt := 84) dX4_sameAs_80 rfl ?_
          refine L_sub [0, 1, 3] rfl ?_
          exact H _ (Or.inr ⟨p3, rfl⟩)
      refine L_istore_n C (i := 2) dX4_sameAs_84 rfl (Nat.le_of_ble_eq_true rfl) ?_
      refine L_iinc C (v := 1) dX4_sameAs_85 rfl rfl (Nat.le_of_ble_eq_true rfl) ?_
      refine L_goto C (tgt := 52) dX4_sameAs_88 rfl ?_
      exact kk4 p1 p2 v1 hv1
set_option maxRecDepth 4000 in
theorem k_X11_restore_0 {G : mG} {E : mE} {Q : mM → Prop} {μ : mM} (C : Cx G mX11_restore E) {c1 : Nat} (h1 : sh c1 = (0, 7)) (cc1 : CtI G mX4_sameAs [.ref (gb G + 15), .ref (gb G + (c1 + 1))] μ (fun r μ' => Wm G mX11_restore E (bm G mX11_restore E (pV Q)) μ' 14 [(0, .ref (gb G + 0)), (1, .ref (gb G + c1))] [.int r])) : Wm G mX11_restore E (bm G mX11_restore E (pV Q)) μ 0 [(0, .ref (gb G + 0)), (1, .ref (gb G + c1))] [] := by
  refine L_aload_n C (i := 0) dX11_restore_0 rfl rfl ?_
  refine L_getC C (c' := 14) dX11_restore_1 sh_0 fl_X11_26 rfl rfl ?_
  refine L_getC C (c' := 15) dX11_restore_4 sh_14 fl_X11_77 rfl rfl ?_
  refine L_aload_n C (i := 1) dX11_restore_7 rfl rfl ?_
  refine L_getC C (c' := (c1 + 1)) dX11_restore_8 h1 fl_X11_77 rfl rfl ?_
  refine L_invV1i C dX11_restore_11 sh_15 cal_X4_sameAs lk_X11_314 ⟨Nat.le_of_ble_eq_true rfl, Nat.le_of_ble_eq_true rfl⟩ ⟨Nat.le_of_ble_eq_true rfl, Nat.le_of_ble_eq_true rfl⟩ (Nat.le_of_ble_eq_true rfl) ?_
  exact cc1
theorem e_X11_restore {G : mG} {Q : mM → Prop} {μ : mM} {c1 : Nat} (h1 : sh c1 = (0, 7)) (k : ∀ E, Cx G mX11_restore E → Wm G mX11_restore E (bm G mX11_restore E (pV Q)) μ 0 [(0, .ref (gb G + 0)), (1, .ref (gb G + c1))] []) : CtV G mX11_restore [.ref (gb G + 0), .ref (gb G + c1)] μ Q := CtV.of pn_X11 (Nat.le_of_ble_eq_true rfl) k
set_option maxRecDepth 4000 in
theorem k_X11_restore_14 {G : mG} {E : mE} {Q : mM → Prop} {μ : mM} (C : Cx G mX11_restore E) {c1 : Nat} (h1 : sh c1 = (0, 7)) {sx0 : Int32} (cc1 : CtV G mX8_copyFrom [.ref (gb G + 14), .ref (gb G + c1)] μ (fun μ' => Wm G mX11_restore E (bm G mX11_restore E (pV Q)) μ' 23 [(0, .ref (gb G + 0)), (2, .int sx0)] [])) : Wm G mX11_restore E (bm G mX11_restore E (pV Q)) μ 14 [(0, .ref (gb G + 0)), (1, .ref (gb G + c1))] [.int sx0] := by
  refine L_istore_n C (i := 2) dX11_restore_14 rfl (Nat.le_of_ble_eq_true rfl) ?_
  refine L_aload_n C (i := 0) dX11_restore_15 rfl rfl ?_
  refine L_getC C (c' := 14) dX11_restore_16 sh_0 fl_X11_26 rfl rfl ?_
  refine L_aload_n C (i := 1) dX11_restore_19 rfl rfl ?_
  refine L_sub [0, 2] rfl ?_
  refine L_invV1v C dX11_restore_20 sh_14 cal_X8_copyFrom lk_X11_280 ⟨Nat.le_of_ble_eq_true rfl, Nat.le_of_ble_eq_true rfl⟩ ⟨Nat.le_of_ble_eq_true rfl, Nat.le_of_ble_eq_true rfl⟩ (Nat.le_of_ble_eq_true rfl) ?_
  exact cc1
set_option maxRecDepth 4000 in
theorem k_X11_restore_23 {G : mG} {E : mE} {Q : mM → Prop} {μ : mM} (C : Cx G mX11_restore E) {x2 : Int32} (cc1 : x2 = 0 → CtV G mX11_rebuild [.ref (gb G + 0)] μ (fun μ' => Wm G mX11_restore E (bm G mX11_restore E (pV Q)) μ' 48 [] [])) (cc2 : ¬ x2 = 0 → CtV G mX2_recount [.ref (gb G + 22), .ref (gb G + 19)] μ (fun μ' => Wm G mX11_restore E (bm G mX11_restore E (pV Q)) μ' 41 [] [])) : Wm G mX11_restore E (bm G mX11_restore E (pV Q)) μ 23 [(0, .ref (gb G + 0)), (2, .int x2)] [] := by
  refine L_iload_n C (i := 2) dX11_restore_23 rfl rfl ?_
  refine L_if_eq C (tgt := 44) dX11_restore_24 rfl (fun p1 => ?_) (fun p1 => ?_)
  · refine L_aload_n C (i := 0) dX11_restore_44 rfl rfl ?_
    refine L_sub [] rfl ?_
    refine L_invV0v C dX11_restore_45 sh_0 cal_X11_rebuild lk_X11_100 ⟨Nat.le_of_ble_eq_true rfl, Nat.le_of_ble_eq_true rfl⟩ ⟨Nat.le_of_ble_eq_true rfl, Nat.le_of_ble_eq_true rfl⟩ (Nat.le_of_ble_eq_true rfl) ?_
    exact cc1 p1
  · refine L_aload_n C (i := 0) dX11_restore_27 rfl rfl ?_
    refine L_getC C (c' := 22) dX11_restore_28 sh_0 fl_X11_33 rfl rfl ?_
    refine L_aload_n C (i := 0) dX11_restore_31 rfl rfl ?_
    refine L_getC C (c' := 14) dX11_restore_32 sh_0 fl_X11_26 rfl rfl ?_
    refine L_getC C (c' := 19) dX11_restore_35 sh_14 fl_X11_90 rfl rfl ?_
    refine L_sub [] rfl ?_
    refine L_invV1v C dX11_restore_38 sh_22 cal_X2_recount lk_X11_204 ⟨Nat.le_of_ble_eq_true rfl, Nat.le_of_ble_eq_true rfl⟩ ⟨Nat.le_of_ble_eq_true rfl, Nat.le_of_ble_eq_true rfl⟩ (Nat.le_of_ble_eq_true rfl) ?_
    exact cc2 p1
set_option maxRecDepth 4000 in
theorem k_X11_restore_41 {G : mG} {E : mE} {B : mB} {μ : mM} (C : Cx G mX11_restore E)  (kk1 : Wm G mX11_restore E B μ 48 [] []) : Wm G mX11_restore E B μ 41 [] [] := by
  refine L_goto C (tgt := 48) dX11_restore_41 rfl ?_
  exact kk1
set_option maxRecDepth 4000 in
theorem k_X11_restore_48 {G : mG} {E : mE} {Q : mM → Prop} {μ : mM} (C : Cx G mX11_restore E)  (rr1 : Q μ) : Wm G mX11_restore E (bm G mX11_restore E (pV Q)) μ 48 [] [] := by
  exact L_irV C dX11_restore_48 rfl (rr1)
set_option maxRecDepth 4000 in
theorem k_X11_undo_0 {G : mG} {E : mE} {Q : Int32 → mM → Prop} {μ : mM} (C : Cx G mX11_undo E)  (ss1 : ¬ (μ 0 9) = 0 → vp_in ((((μ 0 8) + (8 : Int32)) - (1 : Int32)) - (((μ 0 8) + (8 : Int32)) - (1 : Int32)) / 8 * 8) 8) (cc2 : ¬ (μ 0 9) = 0 → CtV G mX11_restore [.ref (gb G + 0), .ref (gb G + (stO 50 + 8 * ((((μ 0 8) + (8 : Int32)) - (1 : Int32)) - (((μ 0 8) + (8 : Int32)) - (1 : Int32)) / 8 * 8).toNatClampNeg))] (ms (ms μ 0 8 ((((μ 0 8) + (8 : Int32)) - (1 : Int32)) - (((μ 0 8) + (8 : Int32)) - (1 : Int32)) / 8 * 8)) 0 9 ((μ 0 9) - (1 : Int32))) (fun μ' => Wm G mX11_undo E (bm G mX11_undo E (pI Q)) μ' 48 [(0, .ref (gb G + 0))] [])) (rr3 : (μ 0 9) = 0 → Q (-1) μ) : Wm G mX11_undo E (bm G mX11_undo E (pI Q)) μ 0 [(0, .ref (gb G + 0))] [] := by
  refine L_aload_n C (i := 0) dX11_undo_0 rfl rfl ?_
  refine L_getI C dX11_undo_1 sh_0 fl_X11_97 rfl ?_
  refine L_if_ne C (tgt := 9) dX11_undo_4 rfl (fun p1 => ?_) (fun p1 => ?_)
  · refine L_aload_n C (i := 0) dX11_undo_9 rfl rfl ?_
    refine L_aload_n C (i := 0) dX11_undo_10 rfl rfl ?_
    refine L_getI C dX11_undo_11 sh_0 fl_X11_273 rfl ?_
    refine L_bipush C (v := 8) dX11_undo_14 rfl ?_
    refine L_iadd C dX11_undo_16 ?_
    refine L_iconst C (v := 1) dX11_undo_17 rfl ?_
    refine L_isub C dX11_undo_18 ?_
    refine L_bipush C (v := 8) dX11_undo_19 rfl ?_
    refine L_irem C dX11_undo_21 (by decide) ?_
    refine L_putI C dX11_undo_22 sh_0 fl_X11_273 rfl rfl rfl ?_
    refine L_aload_n C (i := 0) dX11_undo_25 rfl rfl ?_
    refine L_dup C dX11_undo_26 rfl ?_
    refine L_getI C dX11_undo_27 sh_0 fl_X11_97 rfl ?_
    refine L_iconst C (v := 1) dX11_undo_30 rfl ?_
    refine L_isub C dX11_undo_31 ?_
    refine L_putI C dX11_undo_32 sh_0 fl_X11_97 rfl rfl rfl ?_
    refine L_aload_n C (i := 0) dX11_undo_35 rfl rfl ?_
    refine L_aload_n C (i := 0) dX11_undo_36 rfl rfl ?_
    refine L_getC C (c' := 50) dX11_undo_37 sh_0 fl_X11_58 rfl rfl ?_
    refine L_aload_n C (i := 0) dX11_undo_40 rfl rfl ?_
    refine L_getI C dX11_undo_41 sh_0 fl_X11_273 rfl ?_
    refine L_aald C dX11_undo_44 sh_50 (ss1 p1) ?_
    refine L_invV1v C dX11_undo_45 sh_0 cal_X11_restore lk_X11_276 ⟨Nat.le_of_ble_eq_true rfl, Nat.le_of_ble_eq_true rfl⟩ ⟨Nat.le_of_ble_eq_true rfl, Nat.le_of_ble_eq_true rfl⟩ (Nat.le_of_ble_eq_true rfl) ?_
    exact cc2 p1
  · refine L_iconst C (v := (-1)) dX11_undo_7 rfl ?_
    exact L_irI C dX11_undo_8 rfl (rr3 p1)
theorem e_X11_undo {G : mG} {Q : Int32 → mM → Prop} {μ : mM}  (k : ∀ E, Cx G mX11_undo E → Wm G mX11_undo E (bm G mX11_undo E (pI Q)) μ 0 [(0, .ref (gb G + 0))] []) : CtI G mX11_undo [.ref (gb G + 0)] μ Q := CtI.of pn_X11 (Nat.le_of_ble_eq_true rfl) k
set_option maxRecDepth 4000 in
theorem k_X11_undo_48 {G : mG} {E : mE} {Q : Int32 → mM → Prop} {μ : mM} (C : Cx G mX11_undo E)  (rr1 : Q (μ 0 9) μ) : Wm G mX11_undo E (bm G mX11_undo E (pI Q)) μ 48 [(0, .ref (gb G + 0))] [] := by
  refine L_aload_n C (i := 0) dX11_undo_48 rfl rfl ?_
  refine L_getI C dX11_undo_49 sh_0 fl_X11_97 rfl ?_
  exact L_irI C dX11_undo_52 rfl (rr1)
set_option maxRecDepth 4000 in
theorem k_X11_keep_0 {G : mG} {E : mE} {Q : Int32 → mM → Prop} {μ : mM} (C : Cx G mX11_keep E) {x1 : Int32} (rr1 : (x1 < 0 ∨ (¬ x1 < 0 ∧ (2 ≤ x1 ∨ (¬ 2 ≤ x1 ∧ (μ 15 0) ≤ 0)))) → Q (-1) μ) (ss2 : ¬ x1 < 0 → ¬ 2 ≤ x1 → ¬ (μ 15 0) ≤ 0 → vp_in x1 2) (cc3 : ¬ x1 < 0 → ¬ 2 ≤ x1 → ¬ (μ 15 0) ≤ 0 → CtV G mX8_copyFrom [.ref (gb G + (stO 51 + 8 * x1.toNatClampNeg)), .ref (gb G + 14)] μ (fun μ' => Wm G mX11_keep E (bm G mX11_keep E (pI Q)) μ' 31 [(0, .ref (gb G + 0))] [])) : Wm G mX11_keep E (bm G mX11_keep E (pI Q)) μ 0 [(0, .ref (gb G + 0)), (1, .int x1)] [] := by
  refine L_iload_n C (i := 1) dX11_keep_0 rfl rfl ?_
  refine L_if_lt C (tgt := 16) dX11_keep_1 rfl (fun p1 => ?_) (fun p1 => ?_)
  · refine L_iconst C (v := (-1)) dX11_keep_16 rfl ?_
    exact L_irI C dX11_keep_17 rfl (rr1 (Or.inl p1))
  · refine L_iload_n C (i := 1) dX11_keep_4 rfl rfl ?_
    refine L_iconst C (v := 2) dX11_keep_5 rfl ?_
    refine L_icmp_ge C (tgt := 16) dX11_keep_6 rfl (fun p2 => ?_) (fun p2 => ?_)
    · refine L_iconst C (v := (-1)) dX11_keep_16 rfl ?_
      exact L_irI C dX11_keep_17 rfl (rr1 (Or.inr ⟨p1, (Or.inl p2)⟩))
    · refine L_aload_n C (i := 0) dX11_keep_9 rfl rfl ?_
      refine L_invV0i C dX11_keep_10 sh_0 cal_X11_hasPlan lk_X11_165 ⟨Nat.le_of_ble_eq_true rfl, Nat.le_of_ble_eq_true rfl⟩ ⟨Nat.le_of_ble_eq_true rfl, Nat.le_of_ble_eq_true rfl⟩ (Nat.le_of_ble_eq_true rfl) (a_X11_hasPlan (fun p3 => ?_) (fun p4 => ?_))
      · refine L_if_ne C (tgt := 18) dX11_keep_13 rfl (fun p5 => absurd p5 (by decide)) (fun p5 => ?_)
        refine L_iconst C (v := (-1)) dX11_keep_16 rfl ?_
        exact L_irI C dX11_keep_17 rfl (rr1 (Or.inr ⟨p1, (Or.inr ⟨p2, p3⟩)⟩))
      · refine L_if_ne C (tgt := 18) dX11_keep_13 rfl (fun p6 => ?_) (fun p6 => absurd p6 (by decide))
        refine L_aload_n C (i := 0) dX11_keep_18 rfl rfl ?_
        refine L_getC C (c' := 51) dX11_keep_19 sh_0 fl_X11_62 rfl rfl ?_
        refine L_iload_n C (i := 1) dX11_keep_22 rfl rfl ?_
        refine L_aald C dX11_keep_23 sh_51 (ss2 p1 p2 p4) ?_
        refine L_aload_n C (i := 0) dX11_keep_24 rfl rfl ?_
        refine L_getC C (c' := 14) dX11_keep_25 sh_0 fl_X11_26 rfl rfl ?_
        refine L_sub [0] rfl ?_
        refine L_invV1v C dX11_keep_28 (sh_shelf (vp_lt (ss2 p1 p2 p4))) cal_X8_copyFrom lk_X11_280 ⟨Nat.le_of_ble_eq_true rfl, Nat.le_of_ble_eq_true rfl⟩ ⟨Nat.le_of_ble_eq_true rfl, Nat.le_of_ble_eq_true rfl⟩ (Nat.le_of_ble_eq_true rfl) ?_
        exact cc3 p1 p2 p4
theorem e_X11_keep {G : mG} {Q : Int32 → mM → Prop} {μ : mM} {x1 : Int32} (k : ∀ E, Cx G mX11_keep E → Wm G mX11_keep E (bm G mX11_keep E (pI Q)) μ 0 [(0, .ref (gb G + 0)), (1, .int x1)] []) : CtI G mX11_keep [.ref (gb G + 0), .int x1] μ Q := CtI.of pn_X11 (Nat.le_of_ble_eq_true rfl) k
set_option maxRecDepth 4000 in
theorem k_X11_keep_31 {G : mG} {E : mE} {Q : Int32 → mM → Prop} {μ : mM} (C : Cx G mX11_keep E)  (rr1 : Q (μ 19 0) μ) : Wm G mX11_keep E (bm G mX11_keep E (pI Q)) μ 31 [(0, .ref (gb G + 0))] [] := by
  refine L_aload_n C (i := 0) dX11_keep_31 rfl rfl ?_
  refine L_getC C (c' := 14) dX11_keep_32 sh_0 fl_X11_26 rfl rfl ?_
  refine L_getC C (c' := 19) dX11_keep_35 sh_14 fl_X11_90 rfl rfl ?_
  refine L_getI C dX11_keep_38 sh_19 fl_X11_94 rfl ?_
  exact L_irI C dX11_keep_41 rfl (rr1)
set_option maxRecDepth 4000 in
theorem k_X11_back_0 {G : mG} {E : mE} {Q : Int32 → mM → Prop} {μ : mM} (C : Cx G mX11_back E) {x1 : Int32} (rr1 : (x1 < 0 ∨ (¬ x1 < 0 ∧ ¬ x1 < 2)) → Q (-1) μ) (ss2 : ¬ x1 < 0 → x1 < 2 → vp_in x1 2) (cc3 : ¬ x1 < 0 → x1 < 2 → ¬ (μ ((stO 51 + 8 * x1.toNatClampNeg) + 1) 0) = 0 → CtV G mX11_restore [.ref (gb G + 0), .ref (gb G + (stO 51 + 8 * x1.toNatClampNeg))] μ (fun μ' => Wm G mX11_back E (bm G mX11_back E (pI Q)) μ' 39 [(0, .ref (gb G + 0))] [])) (rr4 : ¬ x1 < 0 → x1 < 2 → (μ ((stO 51 + 8 * x1.toNatClampNeg) + 1) 0) = 0 → Q (-2) μ) : Wm G mX11_back E (bm G mX11_back E (pI Q)) μ 0 [(0, .ref (gb G + 0)), (1, .int x1)] [] := by
  refine L_iload_n C (i := 1) dX11_back_0 rfl rfl ?_
  refine L_if_lt C (tgt := 9) dX11_back_1 rfl (fun p1 => ?_) (fun p1 => ?_)
  · refine L_iconst C (v := (-1)) dX11_back_9 rfl ?_
    exact L_irI C dX11_back_10 rfl (rr1 (Or.inl p1))
  · refine L_iload_n C (i := 1) dX11_back_4 rfl rfl ?_
    refine L_iconst C (v := 2) dX11_back_5 rfl ?_
    refine L_icmp_lt C (tgt := 11) dX11_back_6 rfl (fun p2 => ?_) (fun p2 => ?_)
    · refine L_aload_n C (i := 0) dX11_back_11 rfl rfl ?_
      refine L_getC C (c' := 51) dX11_back_12 sh_0 fl_X11_62 rfl rfl ?_
      refine L_iload_n C (i := 1) dX11_back_15 rfl rfl ?_
      refine L_aald C dX11_back_16 sh_51 (ss2 p1 p2) ?_
      refine L_getC C (c' := ((stO 51 + 8 * x1.toNatClampNeg) + 1)) dX11_back_17 (sh_shelf (vp_lt (ss2 p1 p2))) fl_X11_77 rfl rfl ?_
      refine L_getI C dX11_back_20 (shd_7_1 (sh_shelf (vp_lt (ss2 p1 p2)))) fl_X11_208 rfl ?_
      refine L_if_ne C (tgt := 29) dX11_back_23 rfl (fun p3 => ?_) (fun p3 => ?_)
      · refine L_aload_n C (i := 0) dX11_back_29 rfl rfl ?_
        refine L_aload_n C (i := 0) dX11_back_30 rfl rfl ?_
        refine L_getC C (c' := 51) dX11_back_31 sh_0 fl_X11_62 rfl rfl ?_
        refine L_iload_n C (i := 1) dX11_back_34 rfl rfl ?_
        refine L_aald C dX11_back_35 sh_51 (ss2 p1 p2) ?_
        refine L_sub [0] rfl ?_
        refine L_invV1v C dX11_back_36 sh_0 cal_X11_restore lk_X11_276 ⟨Nat.le_of_ble_eq_true rfl, Nat.le_of_ble_eq_true rfl⟩ ⟨Nat.le_of_ble_eq_true rfl, Nat.le_of_ble_eq_true rfl⟩ (Nat.le_of_ble_eq_true rfl) ?_
        exact cc3 p1 p2 p3
      · refine L_bipush C (v := (-2)) dX11_back_26 rfl ?_
        exact L_irI C dX11_back_28 rfl (rr4 p1 p2 p3)
    · refine L_iconst C (v := (-1)) dX11_back_9 rfl ?_
      exact L_irI C dX11_back_10 rfl (rr1 (Or.inr ⟨p1, p2⟩))
theorem e_X11_back {G : mG} {Q : Int32 → mM → Prop} {μ : mM} {x1 : Int32} (k : ∀ E, Cx G mX11_back E → Wm G mX11_back E (bm G mX11_back E (pI Q)) μ 0 [(0, .ref (gb G + 0)), (1, .int x1)] []) : CtI G mX11_back [.ref (gb G + 0), .int x1] μ Q := CtI.of pn_X11 (Nat.le_of_ble_eq_true rfl) k
set_option maxRecDepth 4000 in
theorem k_X11_back_39 {G : mG} {E : mE} {Q : Int32 → mM → Prop} {μ : mM} (C : Cx G mX11_back E)  (rr1 : Q (μ 19 0) (ms μ 0 9 0)) : Wm G mX11_back E (bm G mX11_back E (pI Q)) μ 39 [(0, .ref (gb G + 0))] [] := by
  refine L_aload_n C (i := 0) dX11_back_39 rfl rfl ?_
  refine L_iconst C (v := 0) dX11_back_40 rfl ?_
  refine L_putI C dX11_back_41 sh_0 fl_X11_97 rfl rfl rfl ?_
  refine L_aload_n C (i := 0) dX11_back_44 rfl rfl ?_
  refine L_getC C (c' := 14) dX11_back_45 sh_0 fl_X11_26 rfl rfl ?_
  refine L_getC C (c' := 19) dX11_back_48 sh_14 fl_X11_90 rfl rfl ?_
  refine L_getI C dX11_back_51 sh_19 fl_X11_94 rfl ?_
  exact L_irI C dX11_back_54 rfl (rr1)
set_option maxRecDepth 4000 in
theorem k_X7_wholeOnes_0 {G : mG} {E : mE} {B : mB} {μ : mM} (C : Cx G mX7_wholeOnes E) {c0 : Nat} (h0 : sh c0 = (0, 6)) {x1 : Int32} (kk1 : Wm G mX7_wholeOnes E B μ 4 [(0, .ref (gb G + c0)), (1, .int x1), (2, .int 0), (3, .int 0)] []) : Wm G mX7_wholeOnes E B μ 0 [(0, .ref (gb G + c0)), (1, .int x1)] [] := by
  refine L_iconst C (v := 0) dX7_wholeOnes_0 rfl ?_
  refine L_istore_n C (i := 2) dX7_wholeOnes_1 rfl (Nat.le_of_ble_eq_true rfl) ?_
  refine L_iconst C (v := 0) dX7_wholeOnes_2 rfl ?_
  refine L_istore_n C (i := 3) dX7_wholeOnes_3 rfl (Nat.le_of_ble_eq_true rfl) ?_
  exact kk1
theorem e_X7_wholeOnes {G : mG} {Q : Int32 → mM → Prop} {μ : mM} {c0 : Nat} (h0 : sh c0 = (0, 6)) {x1 : Int32} (k : ∀ E, Cx G mX7_wholeOnes E → Wm G mX7_wholeOnes E (bm G mX7_wholeOnes E (pI Q)) μ 0 [(0, .ref (gb G + c0)), (1, .int x1)] []) : CtI G mX7_wholeOnes [.ref (gb G + c0), .int x1] μ Q := CtI.of pn_X7 (Nat.le_of_ble_eq_true rfl) k
set_option maxRecDepth 4000 in
theorem k_X7_wholeOnes_4 {G : mG} {E : mE} {Q : Int32 → mM → Prop} {μ : mM} (C : Cx G mX7_wholeOnes E) {c0 : Nat} (h0 : sh c0 = (0, 6)) {x1 : Int32} {x2 : Int32} {x3 : Int32} (rr1 : (μ c0 0) ≤ x3 → Q x2 μ) (ss2 : ¬ (μ c0 0) ≤ x3 → vp_in x3 64) (cc3 : ¬ (μ c0 0) ≤ x3 → CtI G mJ6_bitCount_0f7a4 [.int (μ (c0 + 1) x3.toNatClampNeg)] μ (fun r μ' => Wm G mX7_wholeOnes E (bm G mX7_wholeOnes E (pI Q)) μ' 22 [(0, .ref (gb G + c0)), (1, .int x1), (3, .int x3)] [.int r, .int x2])) : Wm G mX7_wholeOnes E (bm G mX7_wholeOnes E (pI Q)) μ 4 [(0, .ref (gb G + c0)), (1, .int x1), (2, .int x2), (3, .int x3)] [] := by
  refine L_iload_n C (i := 3) dX7_wholeOnes_4 rfl rfl ?_
  refine L_aload_n C (i := 0) dX7_wholeOnes_5 rfl rfl ?_
  refine L_getI C dX7_wholeOnes_6 h0 fl_X7_18 rfl ?_
  refine L_icmp_ge C (tgt := 39) dX7_wholeOnes_9 rfl (fun p1 => ?_) (fun p1 => ?_)
  · refine L_iload_n C (i := 2) dX7_wholeOnes_39 rfl rfl ?_
    exact L_irI C dX7_wholeOnes_40 rfl (rr1 p1)
  · refine L_iload_n C (i := 2) dX7_wholeOnes_12 rfl rfl ?_
    refine L_aload_n C (i := 0) dX7_wholeOnes_13 rfl rfl ?_
    refine L_getC C (c' := (c0 + 1)) dX7_wholeOnes_14 h0 fl_X7_9 rfl rfl ?_
    refine L_iload_n C (i := 3) dX7_wholeOnes_17 rfl rfl ?_
    refine L_iald C dX7_wholeOnes_18 (shd_6_1 h0) (ss2 p1) ?_
    refine L_sub [0, 1, 3] rfl ?_
    refine L_invS1i C dX7_wholeOnes_19 cal_J6_bitCount_0f7a4 stc_J6_bitCount_0f7a4 lk_X7_28 ⟨Nat.le_of_ble_eq_true rfl, Nat.le_of_ble_eq_true rfl⟩ ⟨Nat.le_of_ble_eq_true rfl, Nat.le_of_ble_eq_true rfl⟩ (Nat.le_of_ble_eq_true rfl) ?_
    exact cc3 p1
set_option maxRecDepth 4000 in
theorem k_X7_wholeOnes_22 {G : mG} {E : mE} {B : mB} {μ : mM} (C : Cx G mX7_wholeOnes E) {c0 : Nat} (h0 : sh c0 = (0, 6)) {x1 : Int32} {x3 : Int32} {sx0 : Int32} {sx1 : Int32} (kk1 : ∀ v1 : Int32, ((¬ sx1 = x1 ∧ v1 = 0) ∨ (sx1 = x1 ∧ v1 = 1)) → Wm G mX7_wholeOnes E B μ 4 [(0, .ref (gb G + c0)), (1, .int x1), (2, .int (sx0 + v1)), (3, .int (x3 + (1 : Int32)))] []) : Wm G mX7_wholeOnes E B μ 22 [(0, .ref (gb G + c0)), (1, .int x1), (3, .int x3)] [.int sx1, .int sx0] := by
  refine L_iload_n C (i := 1) dX7_wholeOnes_22 rfl rfl ?_
  refine phi (fun v1 : Int32 => Wm G mX7_wholeOnes E B μ 31 [(0, .ref (gb G + c0)), (1, .int x1), (3, .int x3)] [.int v1, .int sx0]) (fun v1 : Int32 => (¬ sx1 = x1 ∧ v1 = 0) ∨ (sx1 = x1 ∧ v1 = 1)) (fun H => ?_) (fun v1 hv1 => ?_)
  · refine L_icmp_ne C (tgt := 30) dX7_wholeOnes_23 rfl (fun p1 => ?_) (fun p1 => ?_)
    · refine L_iconst C (v := 0) dX7_wholeOnes_30 rfl ?_
      exact H _ (Or.inl ⟨p1, rfl⟩)
    · refine L_iconst C (v := 1) dX7_wholeOnes_26 rfl ?_
      refine L_goto C (tgt := 31) dX7_wholeOnes_27 rfl ?_
      exact H _ (Or.inr ⟨p1, rfl⟩)
  refine L_iadd C dX7_wholeOnes_31 ?_
  refine L_istore_n C (i := 2) dX7_wholeOnes_32 rfl (Nat.le_of_ble_eq_true rfl) ?_
  refine L_iinc C (v := 1) dX7_wholeOnes_33 rfl rfl (Nat.le_of_ble_eq_true rfl) ?_
  refine L_goto C (tgt := 4) dX7_wholeOnes_36 rfl ?_
  exact kk1 v1 hv1
set_option maxRecDepth 4000 in
theorem k_X7_freeCells_0 {G : mG} {E : mE} {B : mB} {μ : mM} (C : Cx G mX7_freeCells E) {c0 : Nat} (h0 : sh c0 = (0, 6)) {x1 : Int32} (kk1 : Wm G mX7_freeCells E B μ 4 [(0, .ref (gb G + c0)), (1, .int x1), (2, .int 0), (3, .int 0)] []) : Wm G mX7_freeCells E B μ 0 [(0, .ref (gb G + c0)), (1, .int x1)] [] := by
  refine L_iconst C (v := 0) dX7_freeCells_0 rfl ?_
  refine L_istore_n C (i := 2) dX7_freeCells_1 rfl (Nat.le_of_ble_eq_true rfl) ?_
  refine L_iconst C (v := 0) dX7_freeCells_2 rfl ?_
  refine L_istore_n C (i := 3) dX7_freeCells_3 rfl (Nat.le_of_ble_eq_true rfl) ?_
  exact kk1
theorem e_X7_freeCells {G : mG} {Q : Int32 → mM → Prop} {μ : mM} {c0 : Nat} (h0 : sh c0 = (0, 6)) {x1 : Int32} (k : ∀ E, Cx G mX7_freeCells E → Wm G mX7_freeCells E (bm G mX7_freeCells E (pI Q)) μ 0 [(0, .ref (gb G + c0)), (1, .int x1)] []) : CtI G mX7_freeCells [.ref (gb G + c0), .int x1] μ Q := CtI.of pn_X7 (Nat.le_of_ble_eq_true rfl) k
set_option maxRecDepth 4000 in
theorem k_X7_freeCells_4 {G : mG} {E : mE} {Q : Int32 → mM → Prop} {μ : mM} (C : Cx G mX7_freeCells E) {c0 : Nat} (h0 : sh c0 = (0, 6)) {x1 : Int32} {x2 : Int32} {x3 : Int32} (rr1 : (μ c0 0) ≤ x3 → Q x2 μ) (ss2 : ¬ (μ c0 0) ≤ x3 → vp_in x3 64) (cc3 : ¬ (μ c0 0) ≤ x3 → CtI G mJ6_bitCount_0f7a4 [.int (μ (c0 + 1) x3.toNatClampNeg)] μ (fun r μ' => Wm G mX7_freeCells E (bm G mX7_freeCells E (pI Q)) μ' 23 [(0, .ref (gb G + c0)), (1, .int x1), (3, .int x3)] [.int r, .int x1, .int x2])) : Wm G mX7_freeCells E (bm G mX7_freeCells E (pI Q)) μ 4 [(0, .ref (gb G + c0)), (1, .int x1), (2, .int x2), (3, .int x3)] [] := by
  refine L_iload_n C (i := 3) dX7_freeCells_4 rfl rfl ?_
  refine L_aload_n C (i := 0) dX7_freeCells_5 rfl rfl ?_
  refine L_getI C dX7_freeCells_6 h0 fl_X7_18 rfl ?_
  refine L_icmp_ge C (tgt := 32) dX7_freeCells_9 rfl (fun p1 => ?_) (fun p1 => ?_)
  · refine L_iload_n C (i := 2) dX7_freeCells_32 rfl rfl ?_
    exact L_irI C dX7_freeCells_33 rfl (rr1 p1)
  · refine L_iload_n C (i := 2) dX7_freeCells_12 rfl rfl ?_
    refine L_iload_n C (i := 1) dX7_freeCells_13 rfl rfl ?_
    refine L_aload_n C (i := 0) dX7_freeCells_14 rfl rfl ?_
    refine L_getC C (c' := (c0 + 1)) dX7_freeCells_15 h0 fl_X7_9 rfl rfl ?_
    refine L_iload_n C (i := 3) dX7_freeCells_18 rfl rfl ?_
    refine L_iald C dX7_freeCells_19 (shd_6_1 h0) (ss2 p1) ?_
    refine L_sub [0, 1, 3] rfl ?_
    refine L_invS1i C dX7_freeCells_20 cal_J6_bitCount_0f7a4 stc_J6_bitCount_0f7a4 lk_X7_28 ⟨Nat.le_of_ble_eq_true rfl, Nat.le_of_ble_eq_true rfl⟩ ⟨Nat.le_of_ble_eq_true rfl, Nat.le_of_ble_eq_true rfl⟩ (Nat.le_of_ble_eq_true rfl) ?_
    exact cc3 p1
set_option maxRecDepth 4000 in
theorem k_X7_freeCells_23 {G : mG} {E : mE} {B : mB} {μ : mM} (C : Cx G mX7_freeCells E) {c0 : Nat} (h0 : sh c0 = (0, 6)) {x1 : Int32} {x3 : Int32} {sx0 : Int32} {sx1 : Int32} {sx2 : Int32} (kk1 : Wm G mX7_freeCells E B μ 4 [(0, .ref (gb G + c0)), (1, .int x1), (2, .int (sx0 + (sx1 - sx2))), (3, .int (x3 + (1 : Int32)))] []) : Wm G mX7_freeCells E B μ 23 [(0, .ref (gb G + c0)), (1, .int x1), (3, .int x3)] [.int sx2, .int sx1, .int sx0] := by
  refine L_isub C dX7_freeCells_23 ?_
  refine L_iadd C dX7_freeCells_24 ?_
  refine L_istore_n C (i := 2) dX7_freeCells_25 rfl (Nat.le_of_ble_eq_true rfl) ?_
  refine L_iinc C (v := 1) dX7_freeCells_26 rfl rfl (Nat.le_of_ble_eq_true rfl) ?_
  refine L_goto C (tgt := 4) dX7_freeCells_29 rfl ?_
  exact kk1
set_option maxRecDepth 4000 in
theorem k_X11_count_0 {G : mG} {E : mE} {Q : Int32 → mM → Prop} {μ : mM} (C : Cx G mX11_count E) {x1 : Int32} (rr1 : x1 = 0 → Q (μ 15 0) μ) (rr2 : ¬ x1 = 0 → ((x1 = 1 ∧ (μ 15 0) ≤ 0) ∨ (¬ x1 = 1 ∧ ((x1 = 2 ∧ (μ 15 0) ≤ 0) ∨ (¬ x1 = 2 ∧ x1 = 3 ∧ (μ 15 0) ≤ 0)))) → Q 0 μ) (rr3 : ¬ x1 = 0 → x1 = 1 → ¬ (μ 15 0) ≤ 0 → Q (μ 15 1) μ) (ss4 : ¬ x1 = 0 → ¬ x1 = 1 → x1 = 2 → ¬ (μ 15 0) ≤ 0 → vp_in (μ 23 0) 57) (rr5 : ¬ x1 = 0 → ¬ x1 = 1 → x1 = 2 → ¬ (μ 15 0) ≤ 0 → Q (if 1200 < (μ 25 (μ 23 0).toNatClampNeg) then 1200 else (μ 25 (μ 23 0).toNatClampNeg)) μ) (rr6 : ¬ x1 = 0 → ¬ x1 = 1 → ¬ x1 = 2 → x1 = 3 → ¬ (μ 15 0) ≤ 0 → Q (μ 22 4) μ) (rr7 : ¬ x1 = 0 → ¬ x1 = 1 → ¬ x1 = 2 → ¬ x1 = 3 → x1 = 4 → Q (μ 15 2) μ) (rr8 : ¬ x1 = 0 → ¬ x1 = 1 → ¬ x1 = 2 → ¬ x1 = 3 → ¬ x1 = 4 → x1 = 5 → Q (μ 19 0) μ) (cc9 : ¬ x1 = 0 → ¬ x1 = 1 → ¬ x1 = 2 → ¬ x1 = 3 → ¬ x1 = 4 → ¬ x1 = 5 → x1 = 6 → CtI G mX7_wholeOnes [.ref (gb G + 19), .int (μ 15 0)] μ (fun r μ' => Wm G mX11_count E (bm G mX11_count E (pI Q)) μ' 167 [] [.int r])) (cc10 : ¬ x1 = 0 → ¬ x1 = 1 → ¬ x1 = 2 → ¬ x1 = 3 → ¬ x1 = 4 → ¬ x1 = 5 → ¬ x1 = 6 → x1 = 7 → CtI G mX7_freeCells [.ref (gb G + 19), .int (μ 15 0)] μ (fun r μ' => Wm G mX11_count E (bm G mX11_count E (pI Q)) μ' 188 [] [.int r])) (cc11 : ¬ x1 = 0 → ¬ x1 = 1 → ¬ x1 = 2 → ¬ x1 = 3 → ¬ x1 = 4 → ¬ x1 = 5 → ¬ x1 = 6 → ¬ x1 = 7 → x1 = 8 → CtI G mX7_toldAs [.ref (gb G + 19), .int 1] μ (fun r μ' => Wm G mX11_count E (bm G mX11_count E (pI Q)) μ' 200 [] [.int r])) (cc12 : ¬ x1 = 0 → ¬ x1 = 1 → ¬ x1 = 2 → ¬ x1 = 3 → ¬ x1 = 4 → ¬ x1 = 5 → ¬ x1 = 6 → ¬ x1 = 7 → ¬ x1 = 8 → x1 = 9 → CtI G mX7_toldAs [.ref (gb G + 19), .int 2] μ (fun r μ' => Wm G mX11_count E (bm G mX11_count E (pI Q)) μ' 212 [] [.int r])) (rr13 : ¬ x1 = 0 → ¬ x1 = 1 → ¬ x1 = 2 → ¬ x1 = 3 → ¬ x1 = 4 → ¬ x1 = 5 → ¬ x1 = 6 → ¬ x1 = 7 → ¬ x1 = 8 → ¬ x1 = 9 → x1 = 10 → Q (μ 0 9) μ) (rr14 : ¬ x1 = 0 → ¬ x1 = 1 → ¬ x1 = 2 → ¬ x1 = 3 → ¬ x1 = 4 → ¬ x1 = 5 → ¬ x1 = 6 → ¬ x1 = 7 → ¬ x1 = 8 → ¬ x1 = 9 → ¬ x1 = 10 → x1 = 11 → Q (μ 14 2) μ) (rr15 : ¬ x1 = 0 → ¬ x1 = 1 → ¬ x1 = 2 → ¬ x1 = 3 → ¬ x1 = 4 → ¬ x1 = 5 → ¬ x1 = 6 → ¬ x1 = 7 → ¬ x1 = 8 → ¬ x1 = 9 → ¬ x1 = 10 → ¬ x1 = 11 → x1 = 12 → Q (μ 1 1) μ) (rr16 : ¬ x1 = 0 → ¬ x1 = 1 → ¬ x1 = 2 → ¬ x1 = 3 → ¬ x1 = 4 → ¬ x1 = 5 → ¬ x1 = 6 → ¬ x1 = 7 → ¬ x1 = 8 → ¬ x1 = 9 → ¬ x1 = 10 → ¬ x1 = 11 → ¬ x1 = 12 → Q (-1) μ) : Wm G mX11_count E (bm G mX11_count E (pI Q)) μ 0 [(0, .ref (gb G + 0)), (1, .int x1)] [] := by
  refine L_iload_n C (i := 1) dX11_count_0 rfl rfl ?_
  by_cases p1 : x1 = 0
  · refine L_tabIn C (tgt := 68) dX11_count_1 (by rw [p1]; decide) (by rw [p1]; decide) (by rw [p1]; rfl) rfl ?_
    refine L_aload_n C (i := 0) dX11_count_68 rfl rfl ?_
    refine L_getC C (c' := 14) dX11_count_69 sh_0 fl_X11_26 rfl rfl ?_
    refine L_getC C (c' := 15) dX11_count_72 sh_14 fl_X11_77 rfl rfl ?_
    refine L_getI C dX11_count_75 sh_15 fl_X11_208 rfl ?_
    exact L_irI C dX11_count_78 rfl (rr1 p1)
  by_cases p2 : x1 = 1
  · refine L_tabIn C (tgt := 79) dX11_count_1 (by rw [p2]; decide) (by rw [p2]; decide) (by rw [p2]; rfl) rfl ?_
    refine L_aload_n C (i := 0) dX11_count_79 rfl rfl ?_
    refine L_invV0i C dX11_count_80 sh_0 cal_X11_hasPlan lk_X11_165 ⟨Nat.le_of_ble_eq_true rfl, Nat.le_of_ble_eq_true rfl⟩ ⟨Nat.le_of_ble_eq_true rfl, Nat.le_of_ble_eq_true rfl⟩ (Nat.le_of_ble_eq_true rfl) (a_X11_hasPlan (fun p3 => ?_) (fun p4 => ?_))
    · refine L_if_eq C (tgt := 99) dX11_count_83 rfl (fun p5 => ?_) (fun p5 => absurd p5 (by decide))
      refine L_iconst C (v := 0) dX11_count_99 rfl ?_
      exact L_irI C dX11_count_100 rfl (rr2 p1 (Or.inl ⟨p2, p3⟩))
    · refine L_if_eq C (tgt := 99) dX11_count_83 rfl (fun p6 => absurd p6 (by decide)) (fun p6 => ?_)
      refine L_aload_n C (i := 0) dX11_count_86 rfl rfl ?_
      refine L_getC C (c' := 14) dX11_count_87 sh_0 fl_X11_26 rfl rfl ?_
      refine L_getC C (c' := 15) dX11_count_90 sh_14 fl_X11_77 rfl rfl ?_
      refine L_getI C dX11_count_93 sh_15 fl_X11_192 rfl ?_
      refine L_goto C (tgt := 100) dX11_count_96 rfl ?_
      exact L_irI C dX11_count_100 rfl (rr3 p1 p2 p4)
  by_cases p7 : x1 = 2
  · refine L_tabIn C (tgt := 101) dX11_count_1 (by rw [p7]; decide) (by rw [p7]; decide) (by rw [p7]; rfl) rfl ?_
    refine L_aload_n C (i := 0) dX11_count_101 rfl rfl ?_
    refine L_invV0i C dX11_count_102 sh_0 cal_X11_mixCount lk_X11_114 ⟨Nat.le_of_ble_eq_true rfl, Nat.le_of_ble_eq_true rfl⟩ ⟨Nat.le_of_ble_eq_true rfl, Nat.le_of_ble_eq_true rfl⟩ (Nat.le_of_ble_eq_true rfl) (a_X11_mixCount (fun p8 => ?_) (fun p9 => ss4 p1 p2 p7 p9) (fun p10 => ?_))
    · exact L_irI C dX11_count_105 rfl (rr2 p1 (Or.inr ⟨p2, (Or.inl ⟨p7, p8⟩)⟩))
    · exact L_irI C dX11_count_105 rfl (rr5 p1 p2 p7 p10)
  by_cases p11 : x1 = 3
  · refine L_tabIn C (tgt := 106) dX11_count_1 (by rw [p11]; decide) (by rw [p11]; decide) (by rw [p11]; rfl) rfl ?_
    refine L_aload_n C (i := 0) dX11_count_106 rfl rfl ?_
    refine L_invV0i C dX11_count_107 sh_0 cal_X11_hasPlan lk_X11_165 ⟨Nat.le_of_ble_eq_true rfl, Nat.le_of_ble_eq_true rfl⟩ ⟨Nat.le_of_ble_eq_true rfl, Nat.le_of_ble_eq_true rfl⟩ (Nat.le_of_ble_eq_true rfl) (a_X11_hasPlan (fun p12 => ?_) (fun p13 => ?_))
    · refine L_if_eq C (tgt := 123) dX11_count_110 rfl (fun p14 => ?_) (fun p14 => absurd p14 (by decide))
      refine L_iconst C (v := 0) dX11_count_123 rfl ?_
      exact L_irI C dX11_count_124 rfl (rr2 p1 (Or.inr ⟨p2, (Or.inr ⟨p7, p11, p12⟩)⟩))
    · refine L_if_eq C (tgt := 123) dX11_count_110 rfl (fun p15 => absurd p15 (by decide)) (fun p15 => ?_)
      refine L_aload_n C (i := 0) dX11_count_113 rfl rfl ?_
      refine L_getC C (c' := 22) dX11_count_114 sh_0 fl_X11_33 rfl rfl ?_
      refine L_getI C dX11_count_117 sh_22 fl_X11_282 rfl ?_
      refine L_goto C (tgt := 124) dX11_count_120 rfl ?_
      exact L_irI C dX11_count_124 rfl (rr6 p1 p2 p7 p11 p13)
  by_cases p16 : x1 = 4
  · refine L_tabIn C (tgt := 125) dX11_count_1 (by rw [p16]; decide) (by rw [p16]; decide) (by rw [p16]; rfl) rfl ?_
    refine L_aload_n C (i := 0) dX11_count_125 rfl rfl ?_
    refine L_getC C (c' := 14) dX11_count_126 sh_0 fl_X11_26 rfl rfl ?_
    refine L_getC C (c' := 15) dX11_count_129 sh_14 fl_X11_77 rfl rfl ?_
    refine L_getI C dX11_count_132 sh_15 fl_X11_285 rfl ?_
    exact L_irI C dX11_count_135 rfl (rr7 p1 p2 p7 p11 p16)
  by_cases p17 : x1 = 5
  · refine L_tabIn C (tgt := 136) dX11_count_1 (by rw [p17]; decide) (by rw [p17]; decide) (by rw [p17]; rfl) rfl ?_
    refine L_aload_n C (i := 0) dX11_count_136 rfl rfl ?_
    refine L_getC C (c' := 14) dX11_count_137 sh_0 fl_X11_26 rfl rfl ?_
    refine L_getC C (c' := 19) dX11_count_140 sh_14 fl_X11_90 rfl rfl ?_
    refine L_getI C dX11_count_143 sh_19 fl_X11_94 rfl ?_
    exact L_irI C dX11_count_146 rfl (rr8 p1 p2 p7 p11 p16 p17)
  by_cases p18 : x1 = 6
  · refine L_tabIn C (tgt := 147) dX11_count_1 (by rw [p18]; decide) (by rw [p18]; decide) (by rw [p18]; rfl) rfl ?_
    refine L_aload_n C (i := 0) dX11_count_147 rfl rfl ?_
    refine L_getC C (c' := 14) dX11_count_148 sh_0 fl_X11_26 rfl rfl ?_
    refine L_getC C (c' := 19) dX11_count_151 sh_14 fl_X11_90 rfl rfl ?_
    refine L_aload_n C (i := 0) dX11_count_154 rfl rfl ?_
    refine L_getC C (c' := 14) dX11_count_155 sh_0 fl_X11_26 rfl rfl ?_
    refine L_getC C (c' := 15) dX11_count_158 sh_14 fl_X11_77 rfl rfl ?_
    refine L_getI C dX11_count_161 sh_15 fl_X11_208 rfl ?_
    refine L_sub [] rfl ?_
    refine L_invV1i C dX11_count_164 sh_19 cal_X7_wholeOnes lk_X11_288 ⟨Nat.le_of_ble_eq_true rfl, Nat.le_of_ble_eq_true rfl⟩ ⟨Nat.le_of_ble_eq_true rfl, Nat.le_of_ble_eq_true rfl⟩ (Nat.le_of_ble_eq_true rfl) ?_
    exact cc9 p1 p2 p7 p11 p16 p17 p18
  by_cases p19 : x1 = 7
  · refine L_tabIn C (tgt := 168) dX11_count_1 (by rw [p19]; decide) (by rw [p19]; decide) (by rw [p19]; rfl) rfl ?_
    refine L_aload_n C (i := 0) dX11_count_168 rfl rfl ?_
    refine L_getC C (c' := 14) dX11_count_169 sh_0 fl_X11_26 rfl rfl ?_
    refine L_getC C (c' := 19) dX11_count_172 sh_14 fl_X11_90 rfl rfl ?_
    refine L_aload_n C (i := 0) dX11_count_175 rfl rfl ?_
    refine L_getC C (c' := 14) dX11_count_176 sh_0 fl_X11_26 rfl rfl ?_
    refine L_getC C (c' := 15) dX11_count_179 sh_14 fl_X11_77 rfl rfl ?_
    refine L_getI C dX11_count_182 sh_15 fl_X11_208 rfl ?_
    refine L_sub [] rfl ?_
    refine L_invV1i C dX11_count_185 sh_19 cal_X7_freeCells lk_X11_291 ⟨Nat.le_of_ble_eq_true rfl, Nat.le_of_ble_eq_true rfl⟩ ⟨Nat.le_of_ble_eq_true rfl, Nat.le_of_ble_eq_true rfl⟩ (Nat.le_of_ble_eq_true rfl) ?_
    exact cc10 p1 p2 p7 p11 p16 p17 p18 p19
  by_cases p20 : x1 = 8
  · refine L_tabIn C (tgt := 189) dX11_count_1 (by rw [p20]; decide) (by rw [p20]; decide) (by rw [p20]; rfl) rfl ?_
    refine L_aload_n C (i := 0) dX11_count_189 rfl rfl ?_
    refine L_getC C (c' := 14) dX11_count_190 sh_0 fl_X11_26 rfl rfl ?_
    refine L_getC C (c' := 19) dX11_count_193 sh_14 fl_X11_90 rfl rfl ?_
    refine L_iconst C (v := 1) dX11_count_196 rfl ?_
    refine L_sub [] rfl ?_
    refine L_invV1i C dX11_count_197 sh_19 cal_X7_toldAs lk_X11_294 ⟨Nat.le_of_ble_eq_true rfl, Nat.le_of_ble_eq_true rfl⟩ ⟨Nat.le_of_ble_eq_true rfl, Nat.le_of_ble_eq_true rfl⟩ (Nat.le_of_ble_eq_true rfl) ?_
    exact cc11 p1 p2 p7 p11 p16 p17 p18 p19 p20
  by_cases p21 : x1 = 9
  · refine L_tabIn C (tgt := 201) dX11_count_1 (by rw [p21]; decide) (by rw [p21]; decide) (by rw [p21]; rfl) rfl ?_
    refine L_aload_n C (i := 0) dX11_count_201 rfl rfl ?_
    refine L_getC C (c' := 14) dX11_count_202 sh_0 fl_X11_26 rfl rfl ?_
    refine L_getC C (c' := 19) dX11_count_205 sh_14 fl_X11_90 rfl rfl ?_
    refine L_iconst C (v := 2) dX11_count_208 rfl ?_
    refine L_sub [] rfl ?_
    refine L_invV1i C dX11_count_209 sh_19 cal_X7_toldAs lk_X11_294 ⟨Nat.le_of_ble_eq_true rfl, Nat.le_of_ble_eq_true rfl⟩ ⟨Nat.le_of_ble_eq_true rfl, Nat.le_of_ble_eq_true rfl⟩ (Nat.le_of_ble_eq_true rfl) ?_
    exact cc12 p1 p2 p7 p11 p16 p17 p18 p19 p20 p21
  by_cases p22 : x1 = 10
  · refine L_tabIn C (tgt := 213) dX11_count_1 (by rw [p22]; decide) (by rw [p22]; decide) (by rw [p22]; rfl) rfl ?_
    refine L_aload_n C (i := 0) dX11_count_213 rfl rfl ?_
    refine L_getI C dX11_count_214 sh_0 fl_X11_97 rfl ?_
    exact L_irI C dX11_count_217 rfl (rr13 p1 p2 p7 p11 p16 p17 p18 p19 p20 p21 p22)
  by_cases p23 : x1 = 11
  · refine L_tabIn C (tgt := 218) dX11_count_1 (by rw [p23]; decide) (by rw [p23]; decide) (by rw [p23]; rfl) rfl ?_
    refine L_aload_n C (i := 0) dX11_count_218 rfl rfl ?_
    refine L_getC C (c' := 14) dX11_count_219 sh_0 fl_X11_26 rfl rfl ?_
    refine L_getI C dX11_count_222 sh_14 fl_X11_242 rfl ?_
    exact L_irI C dX11_count_225 rfl (rr14 p1 p2 p7 p11 p16 p17 p18 p19 p20 p21 p22 p23)
  by_cases p24 : x1 = 12
  · refine L_tabIn C (tgt := 226) dX11_count_1 (by rw [p24]; decide) (by rw [p24]; decide) (by rw [p24]; rfl) rfl ?_
    refine L_aload_n C (i := 0) dX11_count_226 rfl rfl ?_
    refine L_getC C (c' := 1) dX11_count_227 sh_0 fl_X11_10 rfl rfl ?_
    refine L_getI C dX11_count_230 sh_1 fl_X11_65 rfl ?_
    exact L_irI C dX11_count_233 rfl (rr15 p1 p2 p7 p11 p16 p17 p18 p19 p20 p21 p22 p23 p24)
  refine L_tabOut C (tgt := 234) dX11_count_1 (by have ep1 := lv_neT (a := 0) p1 rfl; have ep2 := lv_neT (a := 1) p2 rfl; have ep7 := lv_neT (a := 2) p7 rfl; have ep11 := lv_neT (a := 3) p11 rfl; have ep16 := lv_neT (a := 4) p16 rfl; have ep17 := lv_neT (a := 5) p17 rfl; have ep18 := lv_neT (a := 6) p18 rfl; have ep19 := lv_neT (a := 7) p19 rfl; have ep20 := lv_neT (a := 8) p20 rfl; have ep21 := lv_neT (a := 9) p21 rfl; have ep22 := lv_neT (a := 10) p22 rfl; have ep23 := lv_neT (a := 11) p23 rfl; have ep24 := lv_neT (a := 12) p24 rfl; omega) rfl ?_
  refine L_iconst C (v := (-1)) dX11_count_234 rfl ?_
  exact L_irI C dX11_count_235 rfl (rr16 p1 p2 p7 p11 p16 p17 p18 p19 p20 p21 p22 p23 p24)
theorem e_X11_count {G : mG} {Q : Int32 → mM → Prop} {μ : mM} {x1 : Int32} (k : ∀ E, Cx G mX11_count E → Wm G mX11_count E (bm G mX11_count E (pI Q)) μ 0 [(0, .ref (gb G + 0)), (1, .int x1)] []) : CtI G mX11_count [.ref (gb G + 0), .int x1] μ Q := CtI.of pn_X11 (Nat.le_of_ble_eq_true rfl) k
set_option maxRecDepth 4000 in
theorem k_X11_count_167 {G : mG} {E : mE} {Q : Int32 → mM → Prop} {μ : mM} (C : Cx G mX11_count E) {sx0 : Int32} (rr1 : Q sx0 μ) : Wm G mX11_count E (bm G mX11_count E (pI Q)) μ 167 [] [.int sx0] := by
  exact L_irI C dX11_count_167 rfl (rr1)
set_option maxRecDepth 4000 in
theorem k_X11_count_188 {G : mG} {E : mE} {Q : Int32 → mM → Prop} {μ : mM} (C : Cx G mX11_count E) {sx0 : Int32} (rr1 : Q sx0 μ) : Wm G mX11_count E (bm G mX11_count E (pI Q)) μ 188 [] [.int sx0] := by
  exact L_irI C dX11_count_188 rfl (rr1)
set_option maxRecDepth 4000 in
theorem k_X11_count_200 {G : mG} {E : mE} {Q : Int32 → mM → Prop} {μ : mM} (C : Cx G mX11_count E) {sx0 : Int32} (rr1 : Q sx0 μ) : Wm G mX11_count E (bm G mX11_count E (pI Q)) μ 200 [] [.int sx0] := by
  exact L_irI C dX11_count_200 rfl (rr1)
set_option maxRecDepth 4000 in
theorem k_X11_count_212 {G : mG} {E : mE} {Q : Int32 → mM → Prop} {μ : mM} (C : Cx G mX11_count E) {sx0 : Int32} (rr1 : Q sx0 μ) : Wm G mX11_count E (bm G mX11_count E (pI Q)) μ 212 [] [.int sx0] := by
  exact L_irI C dX11_count_212 rfl (rr1)

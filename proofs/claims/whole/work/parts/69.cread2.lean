/-! THE CLASS: the plan reader -/
theorem s_readLevels {G : mG} {Q : mM → Prop} {μ : mM} {T : Tx} {h : Bool} {a : Nat} (hT : TxOk T) (H : Rd T a h μ) (hp : PlC 4 (0, 2, fun _ => 0, 0, fun _ _ => 0) μ)
    (kF : ∀ f μ', Fr [3, 4, 5] μ μ' → Rf f μ' → (wdB T 0 a = false ∧ f = 8 * a + 1 ∨ wdB T 0 a = true ∧ lvP T 10 (sb T (a + 6)) 0 (fun _ => 0) = .inl f) → Q μ')
    (kP : ∀ b C L μ', Fr [3, 4, 5] μ μ' → Rd T b h μ' → wdB T 0 a = true → lvP T 10 (sb T (a + 6)) 0 (fun _ => 0) = .inr (b, C, L) → PlC 4 (C, 2, L, 0, fun _ _ => 0) μ' → Q μ') :
    CtV G mX5_readLevels [.ref (gb G + 3)] μ Q := by
  have h200 := hT.1
  have h4 : sh 4 = (0, 3) := rfl
  refine e_X5_readLevels fun E C => k_X5_readLevels_0 C ?_
  refine s_takeWord hT H (w := 0) (by omega) (fun ew ν F R => k_X5_readLevels_6 C ?_) (fun ew ν F R => k_X5_readLevels_6 C ?_)
  · have F3 : Fr [3, 4, 5] μ ν := F.mono (by simp)
    have loop : ∀ (d c b : Nat) (L : Nat → Nat) (μ' : mM), c + d = 9 → Fr [3, 4, 5] μ μ' → Rd T b h μ' → PlC 4 (c, 2, L, 0, fun _ _ => 0) μ' → (∀ i, c ≤ i → L i = 0) → lvP T (d + 1) b c L = lvP T 10 (sb T (a + 6)) 0 (fun _ => 0) → c ≤ 8 →
        Wm G mX5_readLevels E (bm G mX5_readLevels E (pV Q)) μ' 8 [(0, .ref (gb G + 3)), (1, .int (nI c))] [] := by
      intro d
      induction d with
      | zero => intro c b L μ' hc _ _ _ _ _ h8; omega
      | succ d ih =>
        intro c b L μ' hc F R hp hz he h8
        have hle := R.2.2.2.2.2.2
        obtain ⟨d0, d1⟩ := R.isD hT
        have n8 : ¬ 8 < nI c := by
          rw [show (8 : Int32) = nI 8 from rfl, nI_ltI (by omega) (by omega)]
          omega
        have n2 : nI c < 2 ↔ c < 2 := nI_ltI (b := 2) (by omega) (by omega)
        refine k_X5_readLevels_8 C (fun z => ?_) (fun _ _ z => ?_) (fun _ _ _ _ => R.tx) (fun _ _ _ z => R.ix hT z)
        · -- the end
          have z' : ¬ nI c < 2 ∧ isD T b = false := by
            rcases z with z | ⟨-, z | ⟨-, z1, z2⟩⟩
            · exact absurd R.2.2.2.1 z
            · exact absurd z n8
            · exact ⟨z1, d0 z2⟩
          rw [n2] at z'
          have e2 : lvP T (d + 1 + 1) b c L = .inr (b, c, L) := by
            rw [lvP, if_neg (by rw [z'.2]; exact Bool.false_ne_true), if_neg (by omega)]
          rw [e2] at he
          exact kP b c L μ' F R ew he.symm hp
        · refine k_X5_readLevels_34 C (s_takeNumber (lo := 2) (hi := 4) hT R (by omega) (by omega) (fun ed q1 q2 ν F2 R2 => ?_) (fun ed q ν F2 R2 => ?_) (fun ed ν F2 R2 => ?_))
          · have e8 : nI c = 8 ↔ c = 8 := nI_eq (b := 8) (by omega) (by omega)
            have F4 : Fr [3, 4, 5] μ ν := F.tr (F2.mono (by simp))
            have hp2 : PlC 4 (c, 2, L, 0, fun _ _ => 0) ν := hp.of (F2 4 (by decide)) (F2 5 (by decide)) (F2 6 (by decide)) (F2 7 (by decide))
            rw [R.2.2.1]
            refine k_X5_readLevels_45 C (fun y => ?_) (fun y => ?_)
            · rw [e8] at y
              refine k_X5_readLevels_58 C (fun w => absurd R2.2.2.2.1 w) (fun _ => ?_)
              refine s_addColumn h4 hp2 (show c < 8 by omega) q2 hz fun ν2 F5 hp3 => k_X5_readLevels_74 C ?_
              rw [nI_1]
              refine ih (c + 1) _ (up L c (nm T b)) ν2 (by omega) (F4.tr (F5.mono (by simp))) (R2.of (F5 3 (by decide)) (F5 2 (by decide))) hp3 (fun i hi => ?_) ?_ (by omega)
              · rw [up_at, if_neg (by omega)]
                exact hz i (by omega)
              · have e3 : lvP T (d + 1 + 1) b c L = lvP T (d + 1) (sb T (sd T b)) (c + 1) (up L c (nm T b)) := by
                  rw [lvP, if_pos ed, if_neg (by omega), if_neg y]
                exact e3.symm.trans he
            · rw [e8] at y
              refine s_failN (c := 3) R2 (by omega) (by omega) fun ν2 F5 R5 => ?_
              refine k_X5_readLevels_58 C (fun _ => k_X5_readLevels_74 C ?_) (fun w => absurd w R5.ne)
              refine k_X5_readLevels_8 C (fun _ => kF _ ν2 (F4.tr (F5.mono (by simp))) R5 (Or.inr ⟨ew, ?_⟩)) (fun w => absurd w R5.ne) (fun w => absurd w R5.ne) (fun w => absurd w R5.ne)
              rw [← he, lvP, if_pos ed, if_neg (by omega), if_pos y]
          · have F4 : Fr [3, 4, 5] μ ν := F.tr (F2.mono (by simp))
            have fin : lvP T 10 (sb T (a + 6)) 0 (fun _ => 0) = .inl (8 * b + 2) := by
              rw [← he, lvP, if_pos ed, if_pos q]
            have tail : ∀ x1 x3 : Int32, Wm G mX5_readLevels E (bm G mX5_readLevels E (pV Q)) ν 58 [(0, .ref (gb G + 3)), (1, .int x1), (3, .int x3)] [] := fun x1 x3 => by
              refine k_X5_readLevels_58 C (fun _ => k_X5_readLevels_74 C ?_) (fun w => absurd w R2.ne)
              exact k_X5_readLevels_8 C (fun _ => kF _ ν F4 R2 (Or.inr ⟨ew, fin⟩)) (fun w => absurd w R2.ne) (fun w => absurd w R2.ne) (fun w => absurd w R2.ne)
            exact k_X5_readLevels_45 C (fun _ => tail _ _) (fun _ => s_failF R2 (tail _ _))
          · have F4 : Fr [3, 4, 5] μ ν := F.tr (F2.mono (by simp))
            have c1 : c ≤ 1 := by
              rcases z with z | ⟨z, y1, y2, y3⟩
              · rw [n2] at z; omega
              · rw [d1 y1 y2 y3] at ed; cases ed
            have fin : lvP T 10 (sb T (a + 6)) 0 (fun _ => 0) = .inl (8 * b + 1) := by
              rw [← he, lvP, if_neg (by rw [ed]; exact Bool.false_ne_true), if_pos c1]
            have tail : ∀ x1 x3 : Int32, Wm G mX5_readLevels E (bm G mX5_readLevels E (pV Q)) ν 58 [(0, .ref (gb G + 3)), (1, .int x1), (3, .int x3)] [] := fun x1 x3 => by
              refine k_X5_readLevels_58 C (fun _ => k_X5_readLevels_74 C ?_) (fun w => absurd w R2.ne)
              exact k_X5_readLevels_8 C (fun _ => kF _ ν F4 R2 (Or.inr ⟨ew, fin⟩)) (fun w => absurd w R2.ne) (fun w => absurd w R2.ne) (fun w => absurd w R2.ne)
            exact k_X5_readLevels_45 C (fun _ => tail _ _) (fun _ => s_failF R2 (tail _ _))
    exact loop 9 0 _ (fun _ => 0) ν (by omega) F3 R (hp.of (F 4 (by decide)) (F 5 (by decide)) (F 6 (by decide)) (F 7 (by decide))) (fun _ _ => rfl) rfl (by omega)
  · exact k_X5_readLevels_8 C (fun _ => kF _ ν (F.mono (by simp)) R (Or.inl ⟨ew, rfl⟩)) (fun w => absurd w R.ne) (fun w => absurd w R.ne) (fun w => absurd w R.ne)
/-- one cell -/
def ceP (T : Tx) (C : Nat) (L : Nat → Nat) (a k : Nat) (V : Nat → Nat) : Nat ⊕ (Nat × Nat × Nat) :=
  if isD T a = true then
      (if C ≤ nm T a ∨ V (nm T a) ≠ 0 then .inl (8 * a + 2) else if k = 3 then .inl (8 * a + 3) else
      if isC T (sb T (sd T a)) 46 = true then
        (if isD T (sb T (sb T (sd T a) + 1)) = true then
          (if L (nm T a) ≤ nm T (sb T (sb T (sd T a) + 1)) then .inl (8 * sb T (sb T (sd T a) + 1) + 2) else .inr (sb T (sd T (sb T (sb T (sd T a) + 1))), nm T a, nm T (sb T (sb T (sd T a) + 1))))
        else .inl (8 * sb T (sb T (sd T a) + 1) + 1))
      else .inl (8 * sb T (sd T a) + 1))
    else .inl (8 * a + 1)
theorem cl_ce (T : Tx) (C : Nat) (L : Nat → Nat) (f a k : Nat) (V : Nat → Nat) : clP T C L (f + 1) a k V = match ceP T C L a k V with
    | .inl x => .inl x
    | .inr q => if isC T q.1 38 = true then clP T C L f (sb T (q.1 + 1)) (k + 1) (up V q.2.1 (q.2.2 + 1)) else .inr (q.1, up V q.2.1 (q.2.2 + 1)) := by
  rw [clP, ceP]
  split
  · split
    · rfl
    · split
      · rfl
      · split
        · split
          · split
            · rfl
            · rfl
          · rfl
        · rfl
  · rfl
theorem s_readCell {G : mG} {Q : Int32 → mM → Prop} {μ : mM} {T : Tx} {h : Bool} {a k : Nat} {P : Pl} {V : Nat → Nat} (hT : TxOk T) (H : Rd T a h μ) (hW : PW P) (hp : PlC 4 P μ) (hV : ∀ c, V c ≤ qL P c) (hk : k ≤ 3)
    (kF : ∀ f μ', Fr [3] μ μ' → Rf f μ' → ceP T (qC P) (qL P) a k V = .inl f → Q 0 μ') (kP : ∀ b c v μ', Fr [3] μ μ' → Rd T b h μ' → ceP T (qC P) (qL P) a k V = .inr (b, c, v) → c < qC P → V c = 0 → v < qL P c → Q (ceI c v) μ') :
    CtI G mX5_readCell [.ref (gb G + 3), .int (rowI V), .int (nI (decide (k = 3)).toNat)] μ Q := by
  have h200 := hT.1
  have hle := H.2.2.2.2.2.2
  have hC8 := hW.ct.2.2.2
  have hC2 := hW.1
  refine e_X5_readCell fun E C => k_X5_readCell_0 C ?_
  have e0 : μ 4 0 - 1 = nI (qC P - 1) := by rw [hp.1, show (1 : Int32) = nI 1 from rfl, nI_subr (by omega)]
  rw [e0, H.2.2.1]
  -- behind a fault
  have tail45 : ∀ (ν : mM) (f : Nat) (x2 x3 x4 : Int32), Fr [3] μ ν → Rf f ν → ceP T (qC P) (qL P) a k V = .inl f → Wm G mX5_readCell E (bm G mX5_readCell E (pI Q)) ν 45 [(0, .ref (gb G + 3)), (2, .int x2), (3, .int x3), (4, .int x4)] [] := fun ν f x2 x3 x4 F R e => by
    have t55 : Wm G mX5_readCell E (bm G mX5_readCell E (pI Q)) ν 55 [(0, .ref (gb G + 3)), (4, .int x4)] [] := k_X5_readCell_55 C (s_takeByteF R (k_X5_readCell_61 C (fun w => absurd w R.ne) (fun w => absurd w R.ne) (fun _ => kF f ν F R e)))
    exact k_X5_readCell_45 C (fun _ => t55) (fun _ => s_failF R t55)
  have tail19 : ∀ (ν : mM) (f : Nat) (x1 x2 x3 x4 : Int32), Fr [3] μ ν → Rf f ν → ceP T (qC P) (qL P) a k V = .inl f → Wm G mX5_readCell E (bm G mX5_readCell E (pI Q)) ν 19 [(0, .ref (gb G + 3)), (1, .int x1), (2, .int x2), (3, .int x3)] [.int x4] := fun ν f x1 x2 x3 x4 F R e =>
    k_X5_readCell_19 C (fun _ => tail45 ν f _ _ _ F R e) (fun w => absurd w R.ne)
  have e100 : qC P - 1 < 100 := by omega
  refine s_takeNumber (lo := 0) hT H (by omega) e100 (fun ed _ q2 ν F R => ?_) (fun ed q ν F R => tail19 ν _ _ _ _ _ F R ?_) (fun ed ν F R => tail19 ν _ _ _ _ _ F R ?_)
  · have hcC : nm T a < qC P := by omega
    have V4 : V (nm T a) ≤ 4 := RwOk.le4 hW hV _
    have en := nib_row (r := V) (c := nm T a) (by omega) V4
    have cond : ((¬ iush (rowI V) (4 * nI (nm T a)) &&& 15 = 0 ∧ (((iush (rowI V) (4 * nI (nm T a)) &&& 15) >>> (1 &&& 31)) - ((iush (rowI V) (4 * nI (nm T a)) &&& 15) >>> (3 &&& 31))) = -1) ∨ iush (rowI V) (4 * nI (nm T a)) &&& 15 = 0) → V (nm T a) = 0 := fun z => by
      rw [en, pw_0 _ (by omega)] at z
      rcases z with ⟨z1, z2⟩ | z
      · rw [pw_v _ (by omega) z1, cv_pos z1] at z2
        exact absurd z2 (noI_m' (by omega))
      · exact z
    refine k_X5_readCell_19 C (fun z => ?_) (fun _ z1 z2 => ?_)
    · have hv0 : V (nm T a) = 0 := by
        rcases z with z | ⟨-, z⟩
        · exact absurd R.2.2.2.1 z
        · exact cond z
      refine k_X5_readCell_45 C (fun z => ?_) (fun z => ?_)
      · have k3 : k ≠ 3 := fun y => by rw [decide_eq_true y] at z; exact absurd z (by decide)
        have ce1 : ceP T (qC P) (qL P) a k V = if isC T (sb T (sd T a)) 46 = true then
            (if isD T (sb T (sb T (sd T a) + 1)) = true then
              (if qL P (nm T a) ≤ nm T (sb T (sb T (sd T a) + 1)) then .inl (8 * sb T (sb T (sd T a) + 1) + 2) else .inr (sb T (sd T (sb T (sb T (sd T a) + 1))), nm T a, nm T (sb T (sb T (sd T a) + 1))))
            else .inl (8 * sb T (sb T (sd T a) + 1) + 1))
          else .inl (8 * sb T (sd T a) + 1) := by
          unfold ceP
          rw [if_pos ed, if_neg (by omega), if_neg k3]
        obtain ⟨lv2, lv4⟩ := hW.lv hcC
        refine k_X5_readCell_55 C (s_takeByte (ch := 46) hT R (by omega) (fun ec ν2 F2 R2 => ?_) (fun ec ν2 F2 R2 => ?_))
        · have hp2 : PlC 4 P ν2 := hp.of ((F2 4 (by decide)).trans (F 4 (by decide))) ((F2 5 (by decide)).trans (F 5 (by decide))) ((F2 6 (by decide)).trans (F 6 (by decide))) ((F2 7 (by decide)).trans (F 7 (by decide)))
          have e5 : ν2 5 (nI (nm T a)).toNatClampNeg - 1 = nI (qL P (nm T a) - 1) := by
            rw [nI_clamp (by omega), show (1 : Int32) = nI 1 from rfl]
            have : ν2 5 (nm T a) = nI (qL P (nm T a)) := hp2.2.2.2.2.1 _ hcC
            rw [this, nI_subr (by omega)]
          refine k_X5_readCell_61 C (fun _ => ?_) (fun _ => ?_) (fun w => absurd R2.2.2.2.1 w)
          · simp (disch := omega) only [ofNat_nI, nI_add, pk_mul, nI_clamp, nI_leI, nI_ltI, nI_eq, vp_in_nI_iff, nI_subr, nI_m1r, m1_eq, m1_eq2, m1_le, m1_le2, m1_lt, m1_lt2, m1_self, cv_sub, cv_add1, cv_eq, cv_eqI, cv_eqI2, cv_m1, cv_lt0, cv_leI, cv_Ile, cv_le, cv_lt, cv_Ilt, cv_ltI, not_true, not_false_iff, true_implies, false_implies, false_or, or_false, true_and, and_true, false_and, and_false, true_or, or_true]
            omega
          · rw [e5]
            refine s_takeNumber (lo := 0) hT R2 (by omega) (by omega) (fun ed2 _ y2 ν3 F3 R3 => ?_) (fun ed2 y ν3 F3 R3 => ?_) (fun ed2 ν3 F3 R3 => ?_)
            · refine k_X5_readCell_88 C (fun w => absurd R3.2.2.2.1 w) (fun _ => kP _ _ _ ν3 ((F.tr F2).tr F3) R3 ?_ hcC hv0 (by omega))
              rw [ce1, if_pos ec, if_pos ed2, if_neg (by omega)]
            · refine k_X5_readCell_88 C (fun _ => kF _ ν3 ((F.tr F2).tr F3) R3 ?_) (fun w => absurd w R3.ne)
              rw [ce1, if_pos ec, if_pos ed2, if_pos (by omega)]
            · refine k_X5_readCell_88 C (fun _ => kF _ ν3 ((F.tr F2).tr F3) R3 ?_) (fun w => absurd w R3.ne)
              rw [ce1, if_pos ec, if_neg (by rw [ed2]; exact Bool.false_ne_true)]
        · refine k_X5_readCell_61 C (fun w => absurd w R2.ne) (fun w => absurd w R2.ne) (fun _ => kF _ ν2 (F.tr F2) R2 ?_)
          rw [ce1, if_neg (by rw [ec]; exact Bool.false_ne_true)]
      · have k3 : k = 3 := Classical.byContradiction fun y => z (by rw [decide_eq_false y]; rfl)
        refine s_failN (c := 3) R (by omega) (by omega) fun ν2 F2 R2 => ?_
        refine k_X5_readCell_55 C (s_takeByteF R2 (k_X5_readCell_61 C (fun w => absurd w R2.ne) (fun w => absurd w R2.ne) (fun _ => kF _ ν2 (F.tr F2) R2 ?_)))
        unfold ceP
        rw [if_pos ed, if_neg (by omega), if_pos k3]
    · rw [en, pw_0 _ (by omega)] at z1
      refine s_failN (c := 2) R (by omega) (by omega) fun ν2 F2 R2 => tail45 ν2 _ _ _ _ (F.tr F2) R2 ?_
      unfold ceP
      rw [if_pos ed, if_pos (Or.inr z1)]
  · unfold ceP
    rw [if_pos ed, if_pos (Or.inl (by omega))]
  · unfold ceP
    rw [if_neg (by rw [ed]; exact Bool.false_ne_true)]

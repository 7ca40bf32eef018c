/-! THE CLASS: lines are read, and plans -/
def npR (T : Tx) (P : Pl) (a : Nat) : Nat ⊕ (Nat × (Nat → Nat)) := if wdB T 2 a = true then (if qN P = 12 then .inl (8 * a + 3) else clP T (qC P) (qL P) 4 (sb T (a + 5)) 0 (fun _ => 0)) else .inl (8 * a + 1)
abbrev pNv (P : Pl) (V : Nat → Nat) : Pl := (qC P, qT P, qL P, qN P + 1, fun i => if i = qN P then V else qV P i)
theorem ce_no {T : Tx} {C : Nat} {L : Nat → Nat} {a k : Nat} {V : Nat → Nat} {q : Nat × Nat × Nat} (h : ceP T C L a k V = .inr q) : k ≠ 3 := fun z => by
  unfold ceP at h
  split at h
  · split at h
    · cases h
    · first
        | cases h
        | (rw [if_pos z] at h; cases h)
  · cases h
theorem s_readNever {G : mG} {Q : mM → Prop} {μ : mM} {T : Tx} {h : Bool} {a : Nat} {P : Pl} (hT : TxOk T) (H : Rd T a h μ) (hW : PW P) (hp : PlC 4 P μ)
    (kF : ∀ f μ', Fr [3, 4, 6, 7] μ μ' → Rf f μ' → npR T P a = .inl f → Q μ') (kP : ∀ b V μ', Fr [3, 4, 6, 7] μ μ' → Rd T b h μ' → npR T P a = .inr (b, V) → PlC 4 (pNv P V) μ' → Q μ') : CtV G mX5_readNever [.ref (gb G + 3)] μ Q := by
  have h200 := hT.1
  have hle := H.2.2.2.2.2.2
  have hC8 := hW.ct.2.2.2
  have hN := hW.2.2.2.2.1
  have h4 : sh 4 = (0, 3) := rfl
  refine e_X5_readNever fun E C => k_X5_readNever_0 C (s_isWord hT H (w := 2) (by omega) ?_)
  -- behind a fault
  have t116 : ∀ (ν : mM) (f : Nat) (x1 : Int32), Fr [3, 4, 6, 7] μ ν → Rf f ν → npR T P a = .inl f → Wm G mX5_readNever E (bm G mX5_readNever E (pV Q)) ν 116 [(0, .ref (gb G + 3)), (1, .int x1)] [] := fun ν f x1 F R e =>
    k_X5_readNever_116 C (fun _ => k_X5_readNever_132 C (kF f ν F R e)) (fun w => absurd w R.ne)
  have t42 : ∀ (ν : mM) (f : Nat) (x1 x2 x3 : Int32), Fr [3, 4, 6, 7] μ ν → Rf f ν → npR T P a = .inl f → Wm G mX5_readNever E (bm G mX5_readNever E (pV Q)) ν 42 [(0, .ref (gb G + 3)), (1, .int x1), (2, .int x2), (3, .int x3)] [] := fun ν f x1 x2 x3 F R e => by
    refine k_X5_readNever_42 C (fun _ => t116 ν f x1 F R e) (fun _ w => absurd w R.ne)
  have e12 : μ 4 2 = 12 ↔ qN P = 12 := by
    rw [hp.2.2.1]
    exact nI_eq (b := 12) (by omega) (by omega)
  refine k_X5_readNever_6 C (fun z => ?_) (fun z1 z2 => ?_)
  · refine k_X5_readNever_30 C (s_takeWord hT H (w := 2) (by omega) (fun ew ν F R => k_X5_readNever_36 C ?_) (fun ew ν F R => k_X5_readNever_36 C (t42 ν _ _ _ _ (F.mono (by simp)) R ?_)))
    · have n12 : qN P ≠ 12 := fun y => by
        rcases z with z | ⟨-, z⟩
        · rw [ew] at z; exact absurd z (by decide)
        · exact z (e12.mpr y)
      have enp : npR T P a = clP T (qC P) (qL P) 4 (sb T (a + 5)) 0 (fun _ => 0) := by
        unfold npR
        rw [if_pos ew, if_neg n12]
      have loop : ∀ (d k b : Nat) (V : Nat → Nat) (μ' : mM), k + d = 3 → Fr [3] μ μ' → Rd T b h μ' → (∀ c, V c ≤ qL P c) → clP T (qC P) (qL P) (d + 1) b k V = npR T P a → Wm G mX5_readNever E (bm G mX5_readNever E (pV Q)) μ' 42 [(0, .ref (gb G + 3)), (1, .int (rowI V)), (2, .int 1), (3, .int (nI k))] [] := by
        intro d
        induction d with
        | zero =>
          intro k b V μ' hk F R hV he
          have hk3 : k = 3 := by omega
          subst hk3
          have hp' : PlC 4 P μ' := hp.of (F 4 (by decide)) (F 5 (by decide)) (F 6 (by decide)) (F 7 (by decide))
          have n3 : ¬ (3 : Int32) < nI 3 := by decide
          refine k_X5_readNever_42 C (fun y => ?_) (fun _ _ _ v hv => ?_)
          · exfalso
            rcases y with y | ⟨-, y | ⟨-, y⟩⟩
            · exact absurd y (by decide)
            · exact y R.2.2.2.1
            · exact n3 y
          · have ev : v = nI (decide (3 = 3)).toNat := by
              rcases hv with ⟨y, -⟩ | ⟨-, y⟩
              · exact absurd rfl y
              · exact y
            rw [ev]
            refine s_readCell (k := 3) hT R hW hp' hV (by omega) (fun f ν2 F2 R2 e => ?_) (fun b2 c v2 ν2 F2 R2 e => absurd rfl (ce_no e))
            have e1 : npR T P a = .inl f := by rw [← he, cl_ce, e]
            have F3 : Fr [3, 4, 6, 7] μ ν2 := (F.tr F2).mono (by simp)
            exact k_X5_readNever_75 C (fun _ => k_X5_readNever_98 C (k_X5_readNever_110 C (t42 ν2 f _ _ _ F3 R2 e1))) (fun w => absurd w R2.ne) (fun w => absurd w R2.ne) (fun w => absurd w R2.ne)
        | succ d ih =>
          intro k b V μ' hk F R hV he
          have hp' : PlC 4 P μ' := hp.of (F 4 (by decide)) (F 5 (by decide)) (F 6 (by decide)) (F 7 (by decide))
          have n3 : ¬ (3 : Int32) < nI k := by
            rw [show (3 : Int32) = nI 3 from rfl, nI_ltI (by omega) (by omega)]
            omega
          have e3 : nI k = 3 ↔ k = 3 := nI_eq (b := 3) (by omega) (by omega)
          refine k_X5_readNever_42 C (fun y => ?_) (fun _ _ _ v hv => ?_)
          · exfalso
            rcases y with y | ⟨-, y | ⟨-, y⟩⟩
            · exact absurd y (by decide)
            · exact y R.2.2.2.1
            · exact n3 y
          · have ev : v = nI (decide (k = 3)).toNat := by
              rw [e3] at hv
              rcases hv with ⟨y, e⟩ | ⟨y, e⟩
              · rw [e, decide_eq_false y]; rfl
              · rw [e, decide_eq_true y]; rfl
            rw [ev]
            refine s_readCell (k := k) hT R hW hp' hV (by omega) (fun f ν2 F2 R2 e => ?_) (fun b2 c v2 ν2 F2 R2 e hc hv0 hv2 => ?_)
            · have e1 : npR T P a = .inl f := by rw [← he, cl_ce, e]
              have F3 : Fr [3, 4, 6, 7] μ ν2 := (F.tr F2).mono (by simp)
              exact k_X5_readNever_75 C (fun _ => k_X5_readNever_98 C (k_X5_readNever_110 C (t42 ν2 f _ _ _ F3 R2 e1))) (fun w => absurd w R2.ne) (fun w => absurd w R2.ne) (fun w => absurd w R2.ne)
            · have l4 := (hW.lv hc).2
              have eor : rowI V ||| ceI c v2 = rowI (up V c (v2 + 1)) := row_bit (by omega) (by omega) hv0
              have ecl : npR T P a = if isC T b2 38 = true then clP T (qC P) (qL P) (d + 1) (sb T (b2 + 1)) (k + 1) (up V c (v2 + 1)) else .inr (b2, up V c (v2 + 1)) := by rw [← he, cl_ce, e]
              obtain ⟨c0, c1⟩ := R2.isC hT (ch := 38) (by omega)
              refine k_X5_readNever_75 C (fun y => ?_) (fun _ _ => R2.tx) (fun _ y => R2.ix hT y) (fun _ y1 y2 => ?_)
              · have ec : isC T b2 38 = false := c0 (by
                  rcases y with y | ⟨-, y⟩
                  · exact absurd R2.2.2.2.1 y
                  · exact y)
                rw [eor]
                refine k_X5_readNever_98 C (k_X5_readNever_110 C (k_X5_readNever_42 C (fun _ => ?_) (fun w => absurd rfl w)))
                refine k_X5_readNever_116 C (fun w => absurd R2.2.2.2.1 w) (fun _ => ?_)
                have hp2 : PlC 4 P ν2 := hp'.of (F2 4 (by decide)) (F2 5 (by decide)) (F2 6 (by decide)) (F2 7 (by decide))
                refine s_addNever h4 hp2 (by omega) fun ν3 F3 hp3 => k_X5_readNever_132 C (kP b2 (up V c (v2 + 1)) ν3 (((F.tr F2).mono (by simp)).tr (F3.mono (by simp))) (R2.of (F3 3 (by decide)) (F3 2 (by decide))) ?_ hp3)
                rw [ecl, if_neg (by rw [ec]; exact Bool.false_ne_true)]
              · have ec := c1 y1 y2
                rw [if_pos ec] at ecl
                rw [eor]
                refine s_takeByte (ch := 38) hT R2 (by omega) (fun _ ν3 F3 R3 => k_X5_readNever_110 C ?_) (fun w => by rw [ec] at w; cases w)
                rw [nI_1]
                refine ih (k + 1) _ _ ν3 (by omega) ((F.tr F2).tr F3) R3 (fun c' => ?_) ecl.symm
                rw [up_at]
                split
                · rename_i w; rw [w]; omega
                · exact hV c'
      have := loop 3 0 (sb T (a + 5)) (fun _ => 0) ν (by omega) F R (fun _ => Nat.zero_le _) enp.symm
      rw [rowI_0] at this
      exact this
    · unfold npR
      rw [if_neg (by rw [ew]; exact Bool.false_ne_true)]
  · have ew : wdB T 2 a = true := by
      cases q : wdB T 2 a with
      | true => rfl
      | false => rw [q] at z1; exact absurd rfl z1
    rw [H.2.2.1]
    refine s_failN (c := 3) H (by omega) (by omega) fun ν F R => k_X5_readNever_30 C (s_takeWordF R (k_X5_readNever_36 C (t42 ν _ _ _ _ (F.mono (by simp)) R ?_)))
    unfold npR
    rw [if_pos ew, if_pos (e12.mp z2)]
def stR (T : Tx) (P : Pl) (h : Bool) (a : Nat) : Nat ⊕ (Nat × Nat) := if h = true then .inl (8 * a + 3) else if isD T (sb T (a + 8)) = true then
   (if nm T (sb T (a + 8)) < 1 ∨ min 3 (qC P) < nm T (sb T (a + 8)) then .inl (8 * sb T (a + 8) + 2) else .inr (sb T (sd T (sb T (a + 8))), nm T (sb T (a + 8)))) else .inl (8 * sb T (a + 8) + 1)
abbrev pSt (P : Pl) (t : Nat) : Pl := (qC P, t, qL P, qN P, qV P)
theorem s_readStrength {G : mG} {Q : mM → Prop} {μ : mM} {T : Tx} {h : Bool} {a : Nat} {P : Pl} (hT : TxOk T) (H : Rd T a h μ) (hW : PW P) (hp : PlC 4 P μ) (ew : wdB T 1 a = true)
    (kF : ∀ f μ', Fr [3, 4] μ μ' → Rf f μ' → stR T P h a = .inl f → Q μ') (kP : ∀ b t μ', Fr [3, 4] μ μ' → Rd T b true μ' → stR T P h a = .inr (b, t) → PlC 4 (pSt P t) μ' → Q μ') : CtV G mX5_readStrength [.ref (gb G + 3)] μ Q := by
  have h200 := hT.1
  have hle := H.2.2.2.2.2.2
  have hC8 := hW.ct.2.2.2
  have e6 : μ 3 6 = 0 ↔ h = false := by
    rw [H.2.2.2.2.1, nI_b0]
  refine e_X5_readStrength fun E C => k_X5_readStrength_0 C (fun z => ?_) (fun z => ?_)
  · rw [e6] at z
    have R1 : Rd T a true (ms μ 3 6 1) := by
      obtain ⟨h1, h2, h3, h4, h5, h6, h7⟩ := H
      refine ⟨?_, ?_, ?_, ?_, ?_, ?_, h7⟩
      · rw [ms_row, upd_at, if_neg (by decide)]; exact h1
      · rw [ms_row, upd_at, if_neg (by decide)]; exact h2
      · rw [ms_row, upd_at, if_neg (by decide)]; exact h3
      · rw [ms_row, upd_at, if_neg (by decide)]; exact h4
      · rw [ms_row, upd_at, if_pos rfl]; rfl
      · rw [ms_ne (by decide)]; exact h6
    have F1 : Fr [3] μ (ms μ 3 6 1) := (Fr.rf _ μ).ms (by decide)
    have es : stR T P h a = if isD T (sb T (a + 8)) = true then
   (if nm T (sb T (a + 8)) < 1 ∨ min 3 (qC P) < nm T (sb T (a + 8)) then .inl (8 * sb T (a + 8) + 2) else .inr (sb T (sd T (sb T (a + 8))), nm T (sb T (a + 8)))) else .inl (8 * sb T (a + 8) + 1) := by
      unfold stR
      rw [if_neg (by rw [z]; exact Bool.false_ne_true)]
    refine k_X5_readStrength_16 C (s_takeWord hT R1 (w := 1) (by omega) (fun _ ν F R => k_X5_readStrength_27 C ?_) (fun w => by rw [ew] at w; cases w))
    have em : (if ν 4 0 < 3 then ν 4 0 else 3) = nI (min 3 (qC P)) := by
      have e4 : ν 4 0 = nI (qC P) := by rw [F 4 (by decide), F1 4 (by decide)]; exact hp.1
      rw [e4]
      have hlt : nI (qC P) < 3 ↔ qC P < 3 := nI_ltI (b := 3) (by omega) (by omega)
      by_cases q : qC P < 3
      · rw [if_pos (hlt.mpr q), Nat.min_eq_right (by omega)]
      · rw [if_neg (fun y => q (hlt.mp y)), Nat.min_eq_left (by omega)]; rfl
    rw [em]
    refine s_takeNumber (lo := 1) hT R (by omega) (by omega) (fun ed q1 q2 ν2 F2 R2 => k_X5_readStrength_43 C (fun w => absurd R2.2.2.2.1 w) (fun _ => kP _ (nm T (sb T (a + wln 1))) _ ((((F1.tr F).tr F2).mono (by simp)).ms (by decide)) (R2.of (ms_ne (by decide)) (ms_ne (by decide))) ?_ ?_)) (fun ed q ν2 F2 R2 => k_X5_readStrength_43 C (fun _ => kF _ ν2 (((F1.tr F).tr F2).mono (by simp)) R2 ?_) (fun w => absurd w R2.ne)) (fun ed ν2 F2 R2 => k_X5_readStrength_43 C (fun _ => kF _ ν2 (((F1.tr F).tr F2).mono (by simp)) R2 ?_) (fun w => absurd w R2.ne))
    · rw [es]
      show (if isD T (sb T (a + wln 1)) = true then _ else _) = _
      rw [if_pos ed, if_neg]
      · rfl
      · show ¬ (nm T (sb T (a + wln 1)) < 1 ∨ min 3 (qC P) < nm T (sb T (a + wln 1)))
        omega
    · have hp2 : PlC 4 P ν2 := hp.of (((F2 4 (by decide)).trans (F 4 (by decide))).trans (F1 4 (by decide))) (((F2 5 (by decide)).trans (F 5 (by decide))).trans (F1 5 (by decide))) (((F2 6 (by decide)).trans (F 6 (by decide))).trans (F1 6 (by decide))) (((F2 7 (by decide)).trans (F 7 (by decide))).trans (F1 7 (by decide)))
      obtain ⟨p0, p1, p2, p3, p4, p5⟩ := hp2
      refine ⟨?_, ?_, ?_, ?_, ?_, ?_⟩
      · rw [ms_row, upd_at, if_neg (by decide)]; exact p0
      · rw [ms_row, upd_at, if_pos rfl]
      · rw [ms_row, upd_at, if_neg (by decide)]; exact p2
      · rw [ms_row, upd_at, if_neg (by decide)]; exact p3
      · rw [ms_ne (by decide)]; exact p4
      · rw [ms_ne (by decide), ms_ne (by decide)]; exact p5
    · rw [es]
      show (if isD T (sb T (a + wln 1)) = true then _ else _) = _
      rw [if_pos ed, if_pos]
      · rfl
      · exact q
    · rw [es]
      show (if isD T (sb T (a + wln 1)) = true then _ else _) = _
      rw [if_neg (by rw [ed]; exact Bool.false_ne_true)]
      rfl
  · have hh : h = true := by
      cases q : h with
      | true => rfl
      | false => exact absurd (e6.mpr q) z
    rw [H.2.2.1]
    refine s_failN (c := 3) H (by omega) (by omega) fun ν F R => k_X5_readStrength_16 C ?_
    have R2 : Rf (8 * a + 3) (ms ν 3 6 1) := ⟨by rw [ms_row, upd_at, if_neg (by decide)]; exact R.1, R.2⟩
    refine s_takeWordF R2 (k_X5_readStrength_27 C (s_takeNumberF R2 (k_X5_readStrength_43 C (fun _ => kF _ _ ((F.mono (by simp)).ms (by decide)) R2 ?_) (fun w => absurd w R2.ne))))
    unfold stR
    rw [if_pos hh]
/-- one line -/
def lnS (T : Tx) (a : Nat) (h : Bool) (P : Pl) : Nat ⊕ (Nat × Bool × Pl) := if isC T a 59 = true then
    (if wdB T 1 (sb T (a + 1)) = true then (match stR T P h (sb T (a + 1)) with | .inl x => .inl x | .inr q => .inr (q.1, true, pSt P q.2))
     else (match npR T P (sb T (a + 1)) with | .inl x => .inl x | .inr q => .inr (q.1, h, pNv P q.2))) else .inl (8 * a + 1)
theorem ln_s (T : Tx) (f a : Nat) (h : Bool) (P : Pl) : lnP T (f + 1) a h P = if T.2 ≤ a then .inr P else match lnS T a h P with
    | .inl x => .inl x
    | .inr q => lnP T f q.1 q.2.1 q.2.2 := by
  rw [lnP, lnS]
  split
  · rfl
  · split
    · split
      · unfold stR
        split
        · rfl
        · split
          · split
            · rfl
            · rfl
          · rfl
      · unfold npR
        split
        · split
          · rfl
          · split
            · rename_i q hq
              rw [hq]
            · rename_i q hq
              rw [hq]
        · rfl
    · rfl
theorem s_readLine {G : mG} {Q : mM → Prop} {μ : mM} {T : Tx} {h : Bool} {a : Nat} {P : Pl} (hT : TxOk T) (H : Rd T a h μ) (hW : PW P) (hp : PlC 4 P μ)
    (kF : ∀ f μ', Fr [3, 4, 6, 7] μ μ' → Rf f μ' → lnS T a h P = .inl f → Q μ') (kP : ∀ b h' P' μ', Fr [3, 4, 6, 7] μ μ' → Rd T b h' μ' → lnS T a h P = .inr (b, h', P') → PlC 4 P' μ' → Q μ') : CtV G mX5_readLine [.ref (gb G + 3)] μ Q := by
  refine e_X5_readLine fun E C => k_X5_readLine_0 C (s_takeByte (ch := 59) hT H (by omega) (fun ec ν F R => k_X5_readLine_6 C (fun _ => ?_) (fun w => absurd R.2.2.2.1 w)) (fun ec ν F R => k_X5_readLine_6 C (fun w => absurd w R.ne) (fun _ => kF _ ν (F.mono (by simp)) R ?_)))
  · have hp' : PlC 4 P ν := hp.of (F 4 (by decide)) (F 5 (by decide)) (F 6 (by decide)) (F 7 (by decide))
    refine s_isWord hT R (w := 1) (by omega) (k_X5_readLine_21 C (fun z => ?_) (fun z => ?_))
    · have ew : wdB T 1 (sb T (a + 1)) = false := (nI_b0 _).mp z
      have el : lnS T a h P = match npR T P (sb T (a + 1)) with | .inl x => .inl x | .inr q => .inr (q.1, h, pNv P q.2) := by
        unfold lnS
        rw [if_pos ec, if_neg (by rw [ew]; exact Bool.false_ne_true)]
      refine s_readNever hT R hW hp' (fun f ν2 F2 R2 e => k_X5_readLine_35 C (kF f ν2 ((F.mono (by simp)).tr F2) R2 ?_)) (fun b V ν2 F2 R2 e hp2 => k_X5_readLine_35 C (kP b h (pNv P V) ν2 ((F.mono (by simp)).tr F2) R2 ?_ hp2))
      · rw [el, e]
      · rw [el, e]
    · have ew : wdB T 1 (sb T (a + 1)) = true := by
        cases q : wdB T 1 (sb T (a + 1)) with
        | true => rfl
        | false => rw [q] at z; exact absurd rfl z
      have el : lnS T a h P = match stR T P h (sb T (a + 1)) with | .inl x => .inl x | .inr q => .inr (q.1, true, pSt P q.2) := by
        unfold lnS
        rw [if_pos ec, if_pos ew]
      refine s_readStrength hT R hW hp' ew (fun f ν2 F2 R2 e => k_X5_readLine_28 C (k_X5_readLine_35 C (kF f ν2 ((F.mono (by simp)).tr (F2.mono (by simp))) R2 ?_))) (fun b t ν2 F2 R2 e hp2 => k_X5_readLine_28 C (k_X5_readLine_35 C (kP b true (pSt P t) ν2 ((F.mono (by simp)).tr (F2.mono (by simp))) R2 ?_ hp2)))
      · rw [el, e]
      · rw [el, e]
  · unfold lnS
    rw [if_neg (by rw [ec]; exact Bool.false_ne_true)]

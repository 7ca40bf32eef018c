/-! THE CLASS'S MEMORY OF THE STATE -/
def CrT (t : Nat → Nat) (z : Nat) (μ : mM) : Prop := μ 1 1 = nI z ∧ ∀ k, k < z → μ 2 k = nI (t k)
def CrN (s : Ps) (μ : mM) : Prop := StC 14 s μ ∧ (zC s ≠ 0 → MxC (zP s) (fun m => rwN (zP s) (zR s) m (zn s)) μ)
def CrF (μ : mM) : Prop := μ 10 0 = 0 ∧ μ 25 0 = 0 ∧ μ 47 0 = 0
def rgI (e u i : Nat) : Nat := (e + 8 - u + i) % 8
def CrU (u : Nat) (A : Nat → Ps) (μ : mM) : Prop := ∃ e, e < 8 ∧ μ 0 8 = nI e ∧ μ 0 9 = nI u ∧ ∀ i, i < u → StC (52 + 8 * rgI e u i) (A i) μ
def CrK (K : Nat → Option Ps) (μ : mM) : Prop := ∀ i, i < 2 → (K i = none → μ (117 + 8 * i) 0 = 0) ∧ ∀ s, K i = some s → StC (116 + 8 * i) s μ
def Cr (σ : Sg) (μ : mM) : Prop := CrT (yT σ) (yz σ) μ ∧ CrN (ys σ) μ ∧ CrF μ ∧ CrU (yu σ) (yA σ) μ ∧ CrK (yK σ) μ
theorem CrT.of {t : Nat → Nat} {z : Nat} {μ μ' : mM} (h : CrT t z μ) (e1 : μ' 1 = μ 1) (e2 : μ' 2 = μ 2) : CrT t z μ' := by
  unfold CrT
  rw [e1, e2]
  exact h
theorem CrN.of {s : Ps} {μ μ' : mM} (h : CrN s μ) (e : ∀ c, 14 ≤ c → c ≤ 30 → μ' c = μ c) : CrN s μ' :=
  ⟨h.1.of (fun i hi => e _ (by omega) (by omega)), fun hC => (h.2 hC).of (fun c hc => e c (by omega) (by omega))⟩
theorem CrF.of {μ μ' : mM} (h : CrF μ) (e10 : μ' 10 0 = μ 10 0) (e25 : μ' 25 0 = μ 25 0) (e47 : μ' 47 0 = μ 47 0) : CrF μ' := by
  unfold CrF
  rw [e10, e25, e47]
  exact h
theorem rg_lt (e u i : Nat) : rgI e u i < 8 := Nat.mod_lt _ (by decide)
theorem CrU.of {u : Nat} {A : Nat → Ps} {μ μ' : mM} (h : CrU u A μ) (e0 : μ' 0 = μ 0) (e : ∀ c, 52 ≤ c → c < 116 → μ' c = μ c) : CrU u A μ' := by
  obtain ⟨x, h1, h2, h3, h4⟩ := h
  refine ⟨x, h1, by rw [e0]; exact h2, by rw [e0]; exact h3, fun i hi => (h4 i hi).of fun j hj => e _ (by omega) ?_⟩
  have := rg_lt x u i
  omega
theorem CrK.of {K : Nat → Option Ps} {μ μ' : mM} (h : CrK K μ) (e : ∀ c, 116 ≤ c → c < 132 → μ' c = μ c) : CrK K μ' := fun i hi => by
  obtain ⟨a, b⟩ := h i hi
  exact ⟨fun z => by rw [e _ (by omega) (by omega)]; exact a z, fun s hs => (b s hs).of fun j hj => e _ (by omega) (by omega)⟩
theorem Cr.now {σ : Sg} {μ μ' : mM} {s : Ps} (h : Cr σ μ) (F : ∀ c, c < 3 ∨ 50 ≤ c → μ' c = μ c) (hN : CrN s μ') (hF : CrF μ') : Cr (sS σ s) μ' :=
  ⟨h.1.of (F 1 (by omega)) (F 2 (by omega)), hN, hF, h.2.2.2.1.of (F 0 (by omega)) (fun c h1 _ => F c (by omega)), h.2.2.2.2.of (fun c h1 _ => F c (by omega))⟩
/-- only what is for a call alone has changed -/
theorem Cr.fr {σ : Sg} {μ μ' : mM} (h : Cr σ μ) (F : ∀ c, c < 3 ∨ (14 ≤ c ∧ c ≤ 30) ∨ 50 ≤ c → μ' c = μ c) (e10 : μ' 10 0 = 0) (e47 : μ' 47 0 = 0) : Cr σ μ' :=
  h.now (fun c hc => F c (by omega)) (h.2.1.of fun c h1 h2 => F c (by omega)) ⟨e10, by rw [F 25 (by omega)]; exact h.2.2.1.2.1, e47⟩
theorem Cr.rw {σ : Sg} {μ : mM} (h : Cr σ μ) (hC : zC (ys σ) ≠ 0) : PlC 15 (zP (ys σ)) μ ∧ RowsC 19 (zn (ys σ)) (zR (ys σ)) (zt (ys σ)) μ ∧ MxC (zP (ys σ)) (fun m => rwN (zP (ys σ)) (zR (ys σ)) m (zn (ys σ))) μ := ⟨h.2.1.1.1, h.2.1.1.2.1, h.2.1.2 hC⟩
/-- what is a call's, on the class's side -/
def Kc (G : mG) (M : mMt) (av : List Value) (μ : mM) (o : Int32 × Sg) : Prop := ∀ Q : Int32 → mM → Prop, (∀ μ', (∀ c, 132 ≤ c → μ' c = μ c) → Cr o.2 μ' → Q o.1 μ') → CtI G M av μ Q
def KcL (G : mG) (M : mMt) (av : List Value) (μ : mM) (o : Int64 × Sg) : Prop := ∀ Q : Int64 → mM → Prop, (∀ μ', (∀ c, 132 ≤ c → μ' c = μ c) → Cr o.2 μ' → Q o.1 μ') → CtL G M av μ Q
/-- rows change -/
theorem rwN_psh (P : Pl) (R : Nat → Nat → Nat) (m n : Nat) (r : Nat → Nat) : rwN P (psh R n r) m (n + 1) = rwN P R m n + (hasM P r m).toNat := by
  show sm n _ + (hasM P (psh R n r n) m).toNat = _
  have e : psh R n r n = r := if_pos rfl
  rw [e]
  congr 1
  exact sm_congr fun i hi => by
    have : psh R n r i = R i := if_neg (by omega)
    show (hasM P (psh R n r i) m).toNat = _
    rw [this]
theorem rwN_set {P : Pl} {R : Nat → Nat → Nat} {m n j : Nat} {r : Nat → Nat} (hj : j < n) : rwN P (psh R j r) m n = rwN P R m n - (hasM P (R j) m).toNat + (hasM P r m).toNat := by
  have e := sm_pt (f := fun i => (hasM P (psh R j r i) m).toNat) (g := fun i => (hasM P (R i) m).toNat) hj (fun i _ hne => by
    have : psh R j r i = R i := if_neg hne
    show (hasM P (psh R j r i) m).toNat = _
    rw [this])
  have e2 : psh R j r j = r := if_pos rfl
  have e3 : (hasM P (R j) m).toNat ≤ rwN P R m n := by
    have := sm_part (fun i => (hasM P (R i) m).toNat) (show j + 1 ≤ n by omega)
    have e4 : sm (j + 1) (fun i => (hasM P (R i) m).toNat) = sm j (fun i => (hasM P (R i) m).toNat) + (hasM P (R j) m).toNat := rfl
    unfold rwN
    omega
  simp only [e2] at e
  unfold rwN at *
  omega
theorem sm_rmv {f : Nat → Nat} {j : Nat} : ∀ {n : Nat}, j < n → sm (n - 1) (fun i => if i < j then f i else f (i + 1)) = sm n f - f j
  | 0, h => by omega
  | n + 1, h => by
    show sm n _ = sm n f + f n - f j
    by_cases q : j = n
    · rw [q, Nat.add_sub_cancel]
      refine sm_congr fun i hi => if_pos hi
    · have ih := sm_rmv (f := f) (j := j) (n := n) (by omega)
      obtain ⟨n', rfl⟩ : ∃ n', n = n' + 1 := ⟨n - 1, by omega⟩
      rw [Nat.add_sub_cancel] at ih
      have e3 : f j ≤ sm (n' + 1) f := by
        have := sm_part f (show j + 1 ≤ n' + 1 by omega)
        have e4 : sm (j + 1) f = sm j f + f j := rfl
        omega
      rw [sm, ih, if_neg (by omega)]
      omega
theorem rwN_rmv {P : Pl} {R : Nat → Nat → Nat} {m n j : Nat} (hj : j < n) : rwN P (rmv R j) m (n - 1) = rwN P R m n - (hasM P (R j) m).toNat := by
  have e := sm_rmv (f := fun i => (hasM P (R i) m).toNat) hj
  unfold rwN
  rw [← e]
  refine sm_congr fun i _ => ?_
  show (hasM P (rmv R j i) m).toNat = _
  unfold rmv
  split <;> rfl
theorem has_pos {P : Pl} {R : Nat → Nat → Nat} {m n j : Nat} (hj : j < n) (h : hasM P (R j) m = true) : 0 < rwN P R m n := sm_pos.mpr ⟨j, hj, by rw [h]; decide⟩
theorem has_0 {P : Pl} (h : PW P) (m : Nat) : hasM P (fun _ => 0) m = false := bnot fun z => by
  have := (hasM_iff.mp z) 0 (by have := h.ct.1; omega)
  omega
theorem MxC.f25 {P : Pl} {h : Nat → Nat} {μ : mM} (H : MxC P h μ) : μ 25 0 = 0 := H.1.2.2.2.1 0 (Nat.zero_le _)
theorem c_append {G : mG} {Q : mM → Prop} {σ : Sg} {μ : mM} {r : Nat → Nat} (ok : SgOk σ) (h : Cr σ μ) (hC : zC (ys σ) ≠ 0) (hn : zn (ys σ) < 64) (hr : ∀ c, r c ≤ qL (zP (ys σ)) c) (k : ∀ μ', Fr [19, 20, 21, 30] μ μ' → Cr (sS σ (sAdd (ys σ) r)) μ' → Q μ') : CtV G mX11_append [.ref (gb G + 0), .int (rowI r)] μ Q := by
  obtain ⟨⟨hW, hM, -⟩, hrow⟩ := ok.2.2.1.2.2.2 hC
  obtain ⟨hp, hrw, hX⟩ := h.rw hC
  refine e_X11_append fun E C => k_X11_append_0 C (s_append (by rfl) hn hrw fun μ1 F1 r1 => k_X11_append_11 C ?_)
  rw [← rowI_0]
  have hX1 : MxC (zP (ys σ)) (fun m => rwN (zP (ys σ)) (zR (ys σ)) m (zn (ys σ))) μ1 := hX.of fun c hc => F1 c (by simp; omega)
  refine s_change hW hM hX1 (fun _ => Nat.zero_le _) hr (fun m hm z => by rw [has_0 hW m] at z; cases z) fun μ2 F2 X2 => k_X11_append_20 C (k μ2 ((F1.mono (by simp)).tr (F2.mono (by simp))) ?_)
  have hX2 : MxC (zP (ys σ)) (fun m => rwN (zP (ys σ)) (psh (zR (ys σ)) (zn (ys σ)) r) m (zn (ys σ) + 1)) μ2 := X2.had fun m hm => by
    rw [rwN_psh]
    unfold hdS
    rw [has_0 hW m]
    rfl
  refine h.now (fun c hc => by rw [F2 c (by simp; omega), F1 c (by simp; omega)]) ⟨⟨?_, ?_, ?_⟩, fun _ => hX2⟩ ⟨?_, hX2.f25, ?_⟩
  · exact hp.of ((F2 15 (by decide)).trans (F1 15 (by decide))) ((F2 16 (by decide)).trans (F1 16 (by decide))) ((F2 17 (by decide)).trans (F1 17 (by decide))) ((F2 18 (by decide)).trans (F1 18 (by decide)))
  · exact r1.of (F2 19 (by decide)) (F2 20 (by decide)) (F2 21 (by decide))
  · rw [F2 14 (by decide), F1 14 (by decide)]; exact h.2.1.1.2.2
  · rw [F2 10 (by decide), F1 10 (by decide)]; exact h.2.2.1.1
  · rw [F2 47 (by decide), F1 47 (by decide)]; exact h.2.2.1.2.2
theorem c_takeAway {G : mG} {Q : mM → Prop} {σ : Sg} {μ : mM} {j : Nat} (ok : SgOk σ) (h : Cr σ μ) (hj : j < zn (ys σ)) (k : ∀ μ', Fr [19, 20, 21, 30] μ μ' → Cr (sS σ (sDrop (ys σ) j)) μ' → Q μ') : CtV G mX11_takeAway [.ref (gb G + 0), .int (nI j)] μ Q := by
  have hC := zn_C ok.2.2.1 (by omega)
  have hn := ok.2.2.1.2.1
  obtain ⟨⟨hW, hM, -⟩, hrow⟩ := ok.2.2.1.2.2.2 hC
  obtain ⟨hp, hrw, hX⟩ := h.rw hC
  have er : μ 20 (nI j).toNatClampNeg = rowI (zR (ys σ) j) := by rw [nI_clamp (by omega)]; exact hrw.2.1 j hj
  refine e_X11_takeAway fun E C => k_X11_takeAway_0 C ?_ ?_
  · simp (disch := omega) only [ofNat_nI, nI_add, pk_mul, nI_clamp, nI_leI, nI_ltI, nI_eq, vp_in_nI_iff, nI_subr, nI_m1r, m1_eq, m1_eq2, m1_le, m1_le2, m1_lt, m1_lt2, m1_self, cv_sub, cv_add1, cv_eq, cv_eqI, cv_eqI2, cv_m1, cv_lt0, cv_leI, cv_Ile, cv_le, cv_lt, cv_Ilt, cv_ltI, not_true, not_false_iff, true_implies, false_implies, false_or, or_false, true_and, and_true, false_and, and_false, true_or, or_true]
    omega
  · rw [er, ← rowI_0]
    refine s_change hW hM hX (hrow j hj).1.1 (fun _ => Nat.zero_le _) (fun m hm z => has_pos hj z) fun μ1 F1 X1 => k_X11_takeAway_20 C ?_
    have hrw1 := hrw.of (F1 19 (by decide)) (F1 20 (by decide)) (F1 21 (by decide))
    refine s_remove (by rfl) hn hj hrw1 fun μ2 F2 r2 => k_X11_takeAway_31 C (k μ2 ((F1.mono (by simp)).tr (F2.mono (by simp))) ?_)
    have hX2 : MxC (zP (ys σ)) (fun m => rwN (zP (ys σ)) (rmv (zR (ys σ)) j) m (zn (ys σ) - 1)) μ2 := (X1.of fun c hc => F2 c (by simp; omega)).had fun m hm => by
      rw [rwN_rmv hj]
      unfold hdS
      rw [has_0 hW m]
      rfl
    refine h.now (fun c hc => by rw [F2 c (by simp; omega), F1 c (by simp; omega)]) ⟨⟨?_, r2, ?_⟩, fun _ => hX2⟩ ⟨?_, hX2.f25, ?_⟩
    · exact hp.of ((F2 15 (by decide)).trans (F1 15 (by decide))) ((F2 16 (by decide)).trans (F1 16 (by decide))) ((F2 17 (by decide)).trans (F1 17 (by decide))) ((F2 18 (by decide)).trans (F1 18 (by decide)))
    · rw [F2 14 (by decide), F1 14 (by decide)]; exact h.2.1.1.2.2
    · rw [F2 10 (by decide), F1 10 (by decide)]; exact h.2.2.1.1
    · rw [F2 47 (by decide), F1 47 (by decide)]; exact h.2.2.1.2.2
/-- rebuilt from plan and rows -/
theorem c_rebuild {G : mG} {Q : mM → Prop} {μ : mM} {s : Ps} (hs : PsOk s) (hC : zC s ≠ 0) (hS : StC 14 s μ) (hf : μ 25 0 = 0) (k : ∀ μ', Fr [22, 23, 24, 25, 26, 27, 28, 29, 30] μ μ' → CrN s μ' → Q μ') : CtV G mX11_rebuild [.ref (gb G + 0)] μ Q := by
  obtain ⟨hP, hrow⟩ := hs.2.2.2 hC
  obtain ⟨hW, hM, -⟩ := id hP
  obtain ⟨p1, p2, p3⟩ := id hS
  refine e_X11_rebuild fun E C => k_X11_rebuild_0 C (s_buildMix (by rfl) (by omega) hP p1 hf fun μ1 h F1 X1 => k_X11_rebuild_14 C ?_)
  have r1 := p2.of (F1 19 (by decide)) (F1 20 (by decide)) (F1 21 (by decide))
  refine s_recount (by rfl) (by omega) hW hM X1 hs.2.1 r1 (fun j hj => (hrow j hj).1.1) fun μ2 F2 X2 => k_X11_rebuild_28 C (k μ2 ((F1.mono (by simp)).tr (F2.mono (by simp))) ⟨hS.of fun i hi => ?_, fun _ => X2⟩)
  rw [F2 _ (by simp; omega), F1 _ (by simp; omega)]
theorem c_restore {G : mG} {Q : mM → Prop} {μ : mM} {a : Nat} {s s' : Ps} (h0 : sh a = (0, 7)) (ha1 : sh (a + 1) = (0, 3)) (ha5 : sh (a + 5) = (0, 6)) (ha : 22 ≤ a) (hb : 52 ≤ a) (hs : PsOk s) (hN : CrN s μ) (hs' : PsOk s') (hC' : zC s' ≠ 0) (hS : StC a s' μ) (hf : μ 25 0 = 0)
    (k : ∀ μ', (∀ c, c < 14 ∨ 31 ≤ c → μ' c = μ c) → CrN s' μ' → Q μ') : CtV G mX11_restore [.ref (gb G + 0), .ref (gb G + a)] μ Q := by
  obtain ⟨hP', hrow'⟩ := hs'.2.2.2 hC'
  obtain ⟨hW', hM', -⟩ := id hP'
  have h15 : sh 15 = (0, 3) := rfl
  refine e_X11_restore h0 fun E C => k_X11_restore_0 C h0 (s_sameAs h15 ha1 hN.1.1 hS.1 ?_ hW' fun v hv hv2 => k_X11_restore_14 C h0 ?_)
  · by_cases q : zC s = 0
    · exact Or.inl q
    · exact Or.inr (hs.2.2.2 q).1.1
  · refine s_copyState (by rfl) h0 (by rfl) (by rfl) ha1 ha5 (by omega) hs' hS fun μ1 F1 S1 => k_X11_restore_23 C (fun z => ?_) (fun z => ?_)
    · refine c_rebuild hs' hC' S1 (by rw [F1 25 (by decide)]; exact hf) fun μ2 F2 N2 => k_X11_restore_48 C (k μ2 (fun c hc => ?_) N2)
      rw [F2 c (by simp; omega), F1 c (by simp; omega)]
    · have eP : zP s = zP s' := hv2 z
      have X : MxC (zP s') (fun m => rwN (zP s) (zR s) m (zn s)) μ := by
        have hC : zC s ≠ 0 := by show qC (zP s) ≠ 0; rw [eP]; exact hC'
        have := hN.2 hC
        rw [eP] at this
        rw [eP]
        exact this
      have X1 := X.of (μ' := μ1) fun c hc => F1 c (by simp; omega)
      refine s_recount (by rfl) (by omega) hW' hM' X1 hs'.2.1 S1.2.1 (fun j hj => (hrow' j hj).1.1) fun μ2 F2 X2 => k_X11_restore_41 C (k_X11_restore_48 C (k μ2 (fun c hc => ?_) ⟨S1.of fun i hi => F2 _ (by simp; omega), fun _ => X2⟩))
      rw [F2 c (by simp; omega), F1 c (by simp; omega)]
theorem shPast : ∀ k, k < 8 → sh (stO 50 + 8 * k) = (0, 7) ∧ sh (52 + 8 * k) = (0, 7) ∧ sh (52 + 8 * k + 1) = (0, 3) ∧ sh (52 + 8 * k + 5) = (0, 6) := by decide
theorem shShelf : ∀ k, k < 2 → sh (116 + 8 * k) = (0, 7) ∧ sh (116 + 8 * k + 1) = (0, 3) ∧ sh (116 + 8 * k + 5) = (0, 6) := by decide
theorem stO_50 : stO 50 = 52 ∧ stO 51 = 116 := by decide
theorem c_remember {G : mG} {Q : mM → Prop} {σ : Sg} {μ : mM} (ok : SgOk σ) (h : Cr σ μ) (k : ∀ μ', (∀ c, c ≠ 0 → c < 52 ∨ 116 ≤ c → μ' c = μ c) → Cr (kpS σ) μ' → Q μ') : CtV G mX11_remember [.ref (gb G + 0)] μ Q := by
  have hu := ok.2.2.2.1
  obtain ⟨hT, hN, hF, ⟨e, he, u8, u9, hA⟩, hK⟩ := id h
  obtain ⟨-, s1, s2, s3⟩ := shPast e he
  refine e_X11_remember fun E C => k_X11_remember_0 C ?_ ?_
  · rw [u8]
    simp (disch := omega) only [ofNat_nI, nI_add, pk_mul, nI_clamp, nI_leI, nI_ltI, nI_eq, vp_in_nI_iff, nI_subr, nI_m1r, m1_eq, m1_eq2, m1_le, m1_le2, m1_lt, m1_lt2, m1_self, cv_sub, cv_add1, cv_eq, cv_eqI, cv_eqI2, cv_m1, cv_lt0, cv_leI, cv_Ile, cv_le, cv_lt, cv_Ilt, cv_ltI, not_true, not_false_iff, true_implies, false_implies, false_or, or_false, true_and, and_true, false_and, and_false, true_or, or_true]
    omega
  · rw [u8, nI_clamp (by omega), stO_50.1]
    refine s_copyState s1 (by rfl) s2 s3 (by rfl) (by rfl) (by omega) ok.2.2.1 hN.1 fun μ1 F1 S1 => k_X11_remember_16 C ?_
    have f1 : ∀ c, c < 52 + 8 * e ∨ 52 + 8 * e + 8 ≤ c → μ1 c = μ c := fun c hc => F1 c (by simp; omega)
    rw [f1 0 (by omega), u8, u9]
    have e1 : nI e + 1 - (nI e + 1) / 8 * 8 = nI ((e + 1) % 8) := by
      have : ∀ e, e < 8 → nI e + 1 - (nI e + 1) / 8 * 8 = nI ((e + 1) % 8) := by decide
      exact this e he
    have e2 : (if 8 < nI (yu σ) + 1 then 8 else nI (yu σ) + 1) = nI ((if yu σ = 8 then 7 else yu σ) + 1) := by
      have : ∀ u, u < 9 → (if 8 < nI u + 1 then 8 else nI u + 1) = nI ((if u = 8 then 7 else u) + 1) := by decide
      exact this _ (by omega)
    have g0 : ∀ v w c, c ≠ 0 → ms (ms μ1 0 8 v) 0 9 w c = μ1 c := fun v w c hc => by rw [ms_ne hc, ms_ne hc]
    have g9 : ∀ v, ms μ1 0 8 v 0 9 = nI (yu σ) := fun v => by rw [ms_row, upd_at, if_neg (by decide), f1 0 (by omega)]; exact u9
    first
      | rw [g9]
      | skip
    rw [e1, e2]
    refine k _ (fun c h1 h2 => ?_) ⟨hT.of ?_ ?_, hN.of fun c h1 h2 => ?_, hF.of ?_ ?_ ?_, ⟨(e + 1) % 8, by omega, ?_, ?_, fun i hi => ?_⟩, hK.of fun c h1 h2 => ?_⟩
    · rw [g0 _ _ _ h1, f1 c (by omega)]
    · rw [g0 _ _ _ (by decide), f1 1 (by omega)]
    · rw [g0 _ _ _ (by decide), f1 2 (by omega)]
    · rw [g0 _ _ _ (by omega), f1 c (by omega)]
    · rw [g0 _ _ _ (by decide), f1 10 (by omega)]
    · rw [g0 _ _ _ (by decide), f1 25 (by omega)]
    · rw [g0 _ _ _ (by decide), f1 47 (by omega)]
    · rw [ms_row, upd_at, if_neg (by decide), ms_row, upd_at, if_pos rfl]
    · rw [ms_row, upd_at, if_pos rfl]
      rfl
    · replace hi : i < (if yu σ = 8 then 7 else yu σ) + 1 := hi
      show StC (52 + 8 * rgI ((e + 1) % 8) ((if yu σ = 8 then 7 else yu σ) + 1) i) (kpA (yu σ) (yA σ) (ys σ) i) _
      unfold kpA
      by_cases q : i = (if yu σ = 8 then 7 else yu σ)
      · rw [if_pos q]
        have er : rgI ((e + 1) % 8) ((if yu σ = 8 then 7 else yu σ) + 1) i = e := by
          unfold rgI
          rw [q]
          split <;> omega
        rw [er]
        exact S1.of fun j hj => g0 _ _ _ (by omega)
      · rw [if_neg q]
        by_cases z : yu σ = 8
        · rw [if_pos z] at hi q ⊢
          rw [if_pos z]
          have er : rgI ((e + 1) % 8) (7 + 1) i = rgI e (yu σ) (i + 1) := by
            unfold rgI
            omega
          rw [er]
          have ne : rgI e (yu σ) (i + 1) ≠ e := by
            unfold rgI
            omega
          exact (hA (i + 1) (by omega)).of fun j hj => by rw [g0 _ _ _ (by omega), f1 _ (by omega)]
        · rw [if_neg z] at hi q ⊢
          rw [if_neg z]
          have er : rgI ((e + 1) % 8) (yu σ + 1) i = rgI e (yu σ) i := by
            unfold rgI
            omega
          rw [er]
          have ne : rgI e (yu σ) i ≠ e := by
            unfold rgI
            omega
          exact (hA i (by omega)).of fun j hj => by rw [g0 _ _ _ (by omega), f1 _ (by omega)]
    · rw [g0 _ _ _ (by omega), f1 c (by omega)]

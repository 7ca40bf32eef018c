/-! THE STATE, and the model's memory of it -/
abbrev Ps : Type := Pl × Nat × (Nat → Nat → Nat) × (Nat → Nat) × Nat
abbrev zP (s : Ps) : Pl := s.1
abbrev zn (s : Ps) : Nat := s.2.1
abbrev zR (s : Ps) : Nat → Nat → Nat := s.2.2.1
abbrev zt (s : Ps) : Nat → Nat := s.2.2.2.1
abbrev zx (s : Ps) : Nat := s.2.2.2.2
abbrev zC (s : Ps) : Nat := qC (zP s)
def RwOk (P : Pl) (r : Nat → Nat) : Prop := (∀ c, r c ≤ qL P c) ∧ canB P r = true
def PlOk (P : Pl) : Prop := PW P ∧ MM P ≤ 1200 ∧ canB P (fun _ => 0) = true
def PsOk (s : Ps) : Prop := zx s < 2 ^ 31 ∧ zn s ≤ 64 ∧ (zC s = 0 → zn s = 0 ∧ qN (zP s) = 0) ∧ (zC s ≠ 0 → PlOk (zP s) ∧ ∀ j, j < zn s → RwOk (zP s) (zR s j) ∧ zt s j ≤ 2)
/-- tape, its size, what is now, how many acts can be undone, what was ahead of them, the shelves -/
abbrev Sg : Type := (Nat → Nat) × Nat × Ps × Nat × (Nat → Ps) × (Nat → Option Ps)
abbrev yT (σ : Sg) : Nat → Nat := σ.1
abbrev yz (σ : Sg) : Nat := σ.2.1
abbrev ys (σ : Sg) : Ps := σ.2.2.1
abbrev yu (σ : Sg) : Nat := σ.2.2.2.1
abbrev yA (σ : Sg) : Nat → Ps := σ.2.2.2.2.1
abbrev yK (σ : Sg) : Nat → Option Ps := σ.2.2.2.2.2
def SgOk (σ : Sg) : Prop := (∀ k, yT σ k < 256) ∧ yz σ ≤ 200 ∧ PsOk (ys σ) ∧ yu σ ≤ 8 ∧ (∀ i, i < yu σ → PsOk (yA σ i) ∧ zC (yA σ i) ≠ 0) ∧ ∀ i s, yK σ i = some s → PsOk s ∧ zC s ≠ 0
def sS (σ : Sg) (s : Ps) : Sg := (yT σ, yz σ, s, yu σ, yA σ, yK σ)
def sT (σ : Sg) (t : Nat → Nat) (z : Nat) : Sg := (t, z, ys σ, yu σ, yA σ, yK σ)
def sU (σ : Sg) (u : Nat) (A : Nat → Ps) : Sg := (yT σ, yz σ, ys σ, u, A, yK σ)
def sK (σ : Sg) (K : Nat → Option Ps) : Sg := (yT σ, yz σ, ys σ, yu σ, yA σ, K)
/-- what is now is kept behind the others; of 9 the oldest goes -/
def kpA (u : Nat) (A : Nat → Ps) (s : Ps) : Nat → Ps := fun i => if i = (if u = 8 then 7 else u) then s else if u = 8 then A (i + 1) else A i
def kpS (σ : Sg) : Sg := sU σ ((if yu σ = 8 then 7 else yu σ) + 1) (kpA (yu σ) (yA σ) (ys σ))
theorem SgOk.kpS {σ : Sg} (h : SgOk σ) (hc : zC (ys σ) ≠ 0) : SgOk (kpS σ) := by
  obtain ⟨a, b, c, d, e, f⟩ := h
  refine ⟨a, b, c, ?_, fun i hi => ?_, f⟩
  · show (if yu σ = 8 then 7 else yu σ) + 1 ≤ 8
    split <;> omega
  · show PsOk (kpA (yu σ) (yA σ) (ys σ) i) ∧ zC (kpA (yu σ) (yA σ) (ys σ) i) ≠ 0
    replace hi : i < (if yu σ = 8 then 7 else yu σ) + 1 := hi
    unfold kpA
    by_cases q : i = (if yu σ = 8 then 7 else yu σ)
    · rw [if_pos q]; exact ⟨c, hc⟩
    · rw [if_neg q]
      by_cases z : yu σ = 8
      · rw [if_pos z] at hi q ⊢
        exact e (i + 1) (by omega)
      · rw [if_neg z] at hi q ⊢
        exact e i (by omega)
theorem SgOk.sS {σ : Sg} (h : SgOk σ) {s : Ps} (hs : PsOk s) : SgOk (sS σ s) := ⟨h.1, h.2.1, hs, h.2.2.2⟩
theorem SgOk.sT {σ : Sg} (h : SgOk σ) {t : Nat → Nat} {z : Nat} (ht : ∀ k, t k < 256) (hz : z ≤ 200) : SgOk (sT σ t z) := ⟨ht, hz, h.2.2⟩
/-- the model's array -/
def NowS (g : Nat → Int32) (s : Ps) : Prop := g 4 = nI (zx s) ∧ g 0 = nI (zC s) ∧ g 3 = nI (zn s) ∧ g 2 = nI (qN (zP s)) ∧ (zC s ≠ 0 → NowP g (zP s) ∧ RowsM g (zn s) (zR s) (zt s))
theorem NowS.of {g g' : Nat → Int32} {s : Ps} (hs : PsOk s) (h : NowS g s) (he : ∀ j, j < 673 → g' j = g j) : NowS g' s := by
  obtain ⟨a, b, c, d, e⟩ := h
  refine ⟨by rw [he 4 (by omega)]; exact a, by rw [he 0 (by omega)]; exact b, by rw [he 3 (by omega)]; exact c, by rw [he 2 (by omega)]; exact d, fun hC => ?_⟩
  obtain ⟨e1, r3, r64, rr, rt⟩ := e hC
  have hP := (hs.2.2.2 hC).1.1
  refine ⟨NowP.of hP.ct.2.2.2 hP.2.2.2.2.1 e1 (fun j hj _ _ => he j (by omega)), by rw [he 3 (by omega)]; exact r3, r64, fun j hj => (rr j hj).of (fun c hc => he _ (by omega)), fun j hj => ?_⟩
  rw [he _ (by omega)]
  exact rt j hj
/-- letters of the words that a plan has -/
def wrB : Nat → Nat := fun k => [108, 101, 118, 101, 108, 115, 0, 0, 115, 116, 114, 101, 110, 103, 116, 104, 110, 101, 118, 101, 114, 0, 0, 0].getD k 0
def MrT (t : Nat → Nat) (z : Nat) (μ : mM) : Prop := μ 132 1 = nI z ∧ (∀ k, k < z → μ 133 k &&& 255 = nI (t k)) ∧ ∀ k, k < 24 → μ 134 k = nI (wrB k)
def MrN (s : Ps) (μ : mM) : Prop := NowS (μ 135) s ∧ (zC s ≠ 0 → MixM μ (zP s))
def MrU (u : Nat) (A : Nat → Ps) (μ : mM) : Prop := μ 132 26 = nI u ∧ ∀ i, i < u → NowS (fun j => μ 149 (673 * i + j)) (A i)
def MrK (K : Nat → Option Ps) (μ : mM) : Prop := ∀ i, i < 2 → μ 151 i = nI (K i).isSome.toNat ∧ ∀ s, K i = some s → NowS (fun j => μ 150 (673 * i + j)) s
def Mr (σ : Sg) (μ : mM) : Prop := MrT (yT σ) (yz σ) μ ∧ MrN (ys σ) μ ∧ MrU (yu σ) (yA σ) μ ∧ MrK (yK σ) μ
theorem MrT.of {t : Nat → Nat} {z : Nat} {μ μ' : mM} (h : MrT t z μ) (h1 : μ' 132 1 = μ 132 1) (h2 : μ' 133 = μ 133) (h3 : μ' 134 = μ 134) : MrT t z μ' :=
  ⟨h1.trans h.1, by rw [h2]; exact h.2.1, by rw [h3]; exact h.2.2⟩
theorem MrN.of {s : Ps} {μ μ' : mM} (h : MrN s μ) (h1 : μ' 135 = μ 135) (h2 : μ' 132 13 = μ 132 13) (h3 : μ' 140 = μ 140) (h4 : μ' 141 = μ 141) (h5 : μ' 142 = μ 142) : MrN s μ' :=
  ⟨by rw [h1]; exact h.1, fun hC => (h.2 hC).of h2 h3 h4 h5⟩
theorem MrU.of {u : Nat} {A : Nat → Ps} {μ μ' : mM} (h : MrU u A μ) (h1 : μ' 132 26 = μ 132 26) (h2 : μ' 149 = μ 149) : MrU u A μ' :=
  ⟨h1.trans h.1, by rw [h2]; exact h.2⟩
theorem MrK.of {K : Nat → Option Ps} {μ μ' : mM} (h : MrK K μ) (h1 : μ' 150 = μ 150) (h2 : μ' 151 = μ 151) : MrK K μ' := by
  intro i hi
  rw [h1, h2]
  exact h i hi
/-- only what is for a call alone has changed -/
abbrev scM : List Nat := [138, 139, 143, 144, 145, 146, 147, 148]
theorem Mr.fr {σ : Sg} {μ μ' : mM} (h : Mr σ μ) (F : Fr scM μ μ') : Mr σ μ' := by
  obtain ⟨a, b, c, d⟩ := h
  have e132 := F 132 (by decide)
  exact ⟨a.of (by rw [e132]) (F 133 (by decide)) (F 134 (by decide)), b.of (F 135 (by decide)) (by rw [e132]) (F 140 (by decide)) (F 141 (by decide)) (F 142 (by decide)), c.of (by rw [e132]) (F 149 (by decide)), d.of (F 150 (by decide)) (F 151 (by decide))⟩
/-- all cells of the model -/
abbrev KM : List Nat := [132, 133, 134, 135, 136, 137, 138, 139, 140, 141, 142, 143, 144, 145, 146, 147, 148, 149, 150, 151]
/-- rows or x change, the plan stays -/
theorem Mr.row {σ : Sg} {μ : mM} (h : Mr σ μ) {g : Nat → Int32} {s : Ps} (hP : zP s = zP (ys σ)) (hg : NowS g s) : Mr (sS σ s) (mrw μ 135 g) := by
  obtain ⟨a, b, c, d⟩ := h
  refine ⟨a.of (by rw [mrw_ne (by decide)]) (mrw_ne (by decide)) (mrw_ne (by decide)), ⟨by rw [mrw_at]; exact hg, fun hC => ?_⟩, c.of (by rw [mrw_ne (by decide)]) (mrw_ne (by decide)), d.of (mrw_ne (by decide)) (mrw_ne (by decide))⟩
  show MixM _ (zP s)
  rw [hP]
  exact (b.2 (by rw [zC, ← hP]; exact hC)).of (by rw [mrw_ne (by decide)]) (mrw_ne (by decide)) (mrw_ne (by decide)) (mrw_ne (by decide))
theorem NowS.row {g g' : Nat → Int32} {s s' : Ps} (hs : PsOk s) (h : NowS g s) (hC : zC s ≠ 0) (hP : zP s' = zP s) (hx : zx s' = zx s) (he : ∀ j, j < 97 → j ≠ 3 → g' j = g j) (hr : RowsM g' (zn s') (zR s') (zt s')) : NowS g' s' := by
  obtain ⟨a, b, c, d, e⟩ := h
  have hW := (hs.2.2.2 hC).1.1
  refine ⟨by rw [he 4 (by omega) (by omega), hx]; exact a, by rw [he 0 (by omega) (by omega), zC, hP]; exact b, hr.1, by rw [he 2 (by omega) (by omega), hP]; exact d, fun _ => ⟨?_, hr⟩⟩
  rw [hP]
  exact NowP.of hW.ct.2.2.2 hW.2.2.2.2.1 (e hC).1 (fun j hj h3 _ => he j hj h3)
theorem m_keepsAct {G : mG} {Q : mM → Prop} {μ : mM} {σ : Sg} (ok : SgOk σ) (hm : Mr σ μ) (k : ∀ μ', Fr [132, 149] μ μ' → μ' 135 = μ 135 → Mr (kpS σ) μ' → Q μ') : CtV G mX12_keepsAct [.ref (gb G + 132)] μ Q := by
  obtain ⟨hT, hN, hU, hK⟩ := hm
  refine s_keepsAct ok.2.2.2.1 hU.1 fun g f g1 g2 f1 f2 => k _ (((Fr.rf _ μ).mrw (by decide)).mrw (by decide)) (by rw [mrw_ne (by decide), mrw_ne (by decide)]) ⟨?_, ?_, ⟨?_, fun i hi => ?_⟩, ?_⟩
  · exact hT.of (by rw [mrw_at]; exact f1 1 (by decide)) (by rw [mrw_ne (by decide), mrw_ne (by decide)]) (by rw [mrw_ne (by decide), mrw_ne (by decide)])
  · exact hN.of (by rw [mrw_ne (by decide), mrw_ne (by decide)]) (by rw [mrw_at]; exact f1 13 (by decide)) (by rw [mrw_ne (by decide), mrw_ne (by decide)]) (by rw [mrw_ne (by decide), mrw_ne (by decide)]) (by rw [mrw_ne (by decide), mrw_ne (by decide)])
  · rw [mrw_at]; exact f2
  · rw [mrw_ne (by decide), mrw_at]
    show NowS (fun j => g (673 * i + j)) (kpA (yu σ) (yA σ) (ys σ) i)
    replace hi : i < (if yu σ = 8 then 7 else yu σ) + 1 := hi
    unfold kpA
    by_cases q : i = (if yu σ = 8 then 7 else yu σ)
    · rw [if_pos q, q]
      exact hN.1.of ok.2.2.1 (fun j hj => g2 j hj)
    · rw [if_neg q]
      by_cases z : yu σ = 8
      · simp only [if_pos z] at hi q g1 ⊢
        exact (hU.2 (i + 1) (by omega)).of (ok.2.2.2.2.1 (i + 1) (by omega)).1 (fun j hj => by
          rw [g1 _ (by omega)]
          congr 1
          omega)
      · simp only [if_neg z] at hi q g1 ⊢
        exact (hU.2 i (by omega)).of (ok.2.2.2.2.1 i (by omega)).1 (fun j hj => g1 _ (by
          have : i + 1 ≤ yu σ := by omega
          have := Nat.mul_le_mul_left 673 this
          omega))
  · exact hK.of (by rw [mrw_ne (by decide), mrw_ne (by decide)]) (by rw [mrw_ne (by decide), mrw_ne (by decide)])

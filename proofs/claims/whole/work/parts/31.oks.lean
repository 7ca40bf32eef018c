/-! STATES STAY WELL-FORMED -/
theorem can_up {P : Pl} {r : Nat → Nat} {c : Nat} (h : can P r) (hc : c < qC P) (hr : r c = 0) : ∃ v, v < qL P c ∧ can P (up r c (v + 1)) := by
  obtain ⟨f, h1, h2, h3⟩ := h
  refine ⟨f c, h1 c hc, f, h1, fun j hj hn => ?_, h3⟩
  rw [up_at] at hn ⊢
  by_cases q : j = c
  · rw [if_pos q, q]
  · rw [if_neg q] at hn ⊢
    exact h2 j hj hn
theorem can_mono {P : Pl} {r r' : Nat → Nat} (h : can P r') (hr : ∀ c, c < qC P → r c ≠ 0 → r c = r' c) : can P r := by
  obtain ⟨f, h1, h2, h3⟩ := h
  exact ⟨f, h1, fun j hj hn => by
    rw [hr j hj hn]
    exact h2 j hj (by rw [← hr j hj hn]; exact hn), h3⟩
theorem canB_congr {P : Pl} (h : PW P) {r r' : Nat → Nat} (hr : ∀ c, c < qC P → r c = r' c) : canB P r = canB P r' := by
  have : canB P r = true ↔ canB P r' = true := by
    rw [canB_iff h, canB_iff h]
    exact ⟨fun z => can_mono z (fun c hc _ => (hr c hc).symm), fun z => can_mono z (fun c hc _ => hr c hc)⟩
  cases e : canB P r with
  | true => exact (this.mp e).symm
  | false =>
    cases e2 : canB P r' with
    | false => rfl
    | true => rw [this.mpr e2] at e; cases e
theorem bst_some {can : Nat → Bool} {h : Nat → Nat} : ∀ {n}, (∃ v, v < n ∧ can v = true) → (bst can h n).1 ≠ 0 ∧ can ((bst can h n).1 - 1) = true
  | 0, e => by obtain ⟨v, hv, -⟩ := e; omega
  | n + 1, e => by
    rw [bst]
    by_cases q : can n = true ∧ (bst can h n).2 < h n + 1
    · rw [if_pos q]
      exact ⟨Nat.succ_ne_zero n, q.1⟩
    · rw [if_neg q]
      by_cases z : ∃ v, v < n ∧ can v = true
      · exact bst_some z
      · exfalso
        obtain ⟨v, hv, hc⟩ := e
        have hvn : v = n := by
          by_cases y : v = n
          · exact y
          · exact absurd ⟨v, by omega, hc⟩ z
        subst hvn
        have : bst can h v = (0, 0) := by
          have : ∀ m, m ≤ v → bst can h m = (0, 0) := by
            intro m
            induction m with
            | zero => intro _; rfl
            | succ m ih =>
              intro hm
              rw [bst, ih (by omega), if_neg (fun y => z ⟨m, by omega, y.1⟩)]
          exact this v (Nat.le_refl v)
        rw [this] at q
        exact q ⟨hc, Nat.succ_pos _⟩
/-- a free cell gets a level by which the row can be -/
theorem bst_row {P : Pl} (h : PW P) {r : Nat → Nat} {c : Nat} {w : Nat → Nat} (hr : RwOk P r) (hc : c < qC P) (h0 : r c = 0) :
    let b := (bst (fun v => canB P (up r c (v + 1))) w (qL P c)).1
    b ≠ 0 ∧ RwOk P (up r c b) := by
  intro b
  obtain ⟨v, hv, hcan⟩ := can_up ((canB_iff h).mp hr.2) hc h0
  obtain ⟨a1, a2⟩ := bst_some (h := w) (n := qL P c) (can := fun v => canB P (up r c (v + 1))) ⟨v, hv, (canB_iff h).mpr hcan⟩
  refine ⟨a1, fun j => ?_, ?_⟩
  · rw [up_at]
    by_cases q : j = c
    · rw [if_pos q, q]; exact bst_le _ _ _
    · rw [if_neg q]; exact hr.1 j
  · have e : b - 1 + 1 = b := by
      have : b ≠ 0 := a1
      omega
    have a3 : canB P (up r c (b - 1 + 1)) = true := a2
    rw [e] at a3
    exact a3
theorem grR_ok {P : Pl} (h : PW P) (hz : canB P (fun _ => 0) = true) (o : Nat → Bool) : ∀ c, c ≤ qC P → RwOk P (grR P o c)
  | 0, _ => ⟨fun _ => Nat.zero_le _, hz⟩
  | c + 1, hc => (bst_row h (grR_ok h hz o c (by omega)) (by omega) (grR_hi P o (Nat.le_refl c))).2
theorem PsOk.mk {s : Ps} (h : PsOk s) (hC : zC s ≠ 0) {n : Nat} {R : Nat → Nat → Nat} {t : Nat → Nat} (hn : n ≤ 64) (hr : ∀ j, j < n → RwOk (zP s) (R j) ∧ t j ≤ 2) : PsOk (sR s n R t) :=
  ⟨h.1, hn, fun z => absurd z hC, fun _ => ⟨(h.2.2.2 hC).1, hr⟩⟩
theorem PsOk.add {s : Ps} (h : PsOk s) (hC : zC s ≠ 0) (hn : zn s < 64) {r : Nat → Nat} (hr : RwOk (zP s) r) : PsOk (sAdd s r) := by
  refine h.mk hC (by omega) (fun j hj => ?_)
  unfold psh
  by_cases q : j = zn s
  · rw [if_pos q, if_pos q]; exact ⟨hr, by omega⟩
  · rw [if_neg q, if_neg q]; exact (h.2.2.2 hC).2 j (by omega)
theorem PsOk.drop {s : Ps} (h : PsOk s) {i : Nat} (hi : i < zn s) : PsOk (sDrop s i) := by
  have hC := zn_C h (by omega)
  have hn := h.2.1
  refine h.mk hC (by omega) (fun j hj => ?_)
  unfold rmv
  by_cases q : j < i
  · rw [if_pos q, if_pos q]; exact (h.2.2.2 hC).2 j (by omega)
  · rw [if_neg q, if_neg q]; exact (h.2.2.2 hC).2 (j + 1) (by omega)
theorem PsOk.cel {s : Ps} (h : PsOk s) {i c v : Nat} (hi : i < zn s) (hr : RwOk (zP s) (up (zR s i) c v)) : PsOk (sCel s i c v) := by
  have hC := zn_C h (by omega)
  have hn := h.2.1
  refine h.mk hC (by omega) (fun j hj => ?_)
  unfold psh
  have := (h.2.2.2 hC).2 j hj
  by_cases q : j = i
  · rw [if_pos q]; exact ⟨hr, this.2⟩
  · rw [if_neg q]; exact this
theorem PsOk.told {s : Ps} (h : PsOk s) {i v : Nat} (hi : i < zn s) (hv : v ≤ 2) : PsOk (sTold s i v) := by
  have hC := zn_C h (by omega)
  have hn := h.2.1
  refine h.mk hC (by omega) (fun j hj => ?_)
  have := (h.2.2.2 hC).2 j hj
  rw [up_at]
  by_cases q : j = i
  · rw [if_pos q]; exact ⟨this.1, hv⟩
  · rw [if_neg q]; exact this
theorem PsOk.x {s : Ps} (h : PsOk s) {x : Nat} (hx : x < 2 ^ 31) : PsOk (sX s x) := ⟨hx, h.2.1, h.2.2.1, h.2.2.2⟩
theorem giv_some {P : Pl} {x : Int32} {d : Nat} (h : giv P x = some d) : qC P ≠ 0 ∧ okD (qC P) (qL P) d := by
  unfold giv at h
  by_cases q : qC P = 0 ∨ x < 0
  · rw [if_pos q] at h; cases h
  · rw [if_neg q] at h
    by_cases z : okDB (qC P) (qL P) x.toNatClampNeg = true
    · rw [if_pos z] at h
      cases h
      exact ⟨fun y => q (Or.inl y), okDB_iff.mp z⟩
    · rw [if_neg z] at h; cases h
theorem ok_add {σ : Sg} (ok : SgOk σ) (x : Int32) : SgOk (o_add σ x).2 := by
  unfold o_add
  cases e : giv (zP (ys σ)) x with
  | none => exact ok
  | some d =>
    simp only []
    obtain ⟨hC, hd⟩ := giv_some e
    by_cases q : zn (ys σ) = 64
    · rw [if_pos q]; exact ok
    · rw [if_neg q]
      by_cases z : canB (zP (ys σ)) (rowD (zC (ys σ)) d) = true
      · rw [if_pos z]
        exact (ok.kpS hC).sS (ok.2.2.1.add hC (by have := ok.2.2.1.2.1; omega) ⟨fun c => rowD_le hd c, z⟩)
      · rw [if_neg z]; exact ok
theorem ok_tell {σ : Sg} (ok : SgOk σ) (x y z : Int32) : SgOk (o_tell σ x y z).2 := by
  unfold o_tell
  cases e : ix x (zn (ys σ)) with
  | none => exact ok
  | some j =>
    cases e2 : ix y (zC (ys σ)) with
    | none => exact ok
    | some c =>
      simp only []
      have hj : j < zn (ys σ) := by
        unfold ix at e
        by_cases q : x < 0 ∨ nI (zn (ys σ)) ≤ x
        · rw [if_pos q] at e; cases e
        · rw [if_neg q] at e
          cases e
          obtain ⟨i, hi, rfl⟩ := ix_not (x := x) (n := zn (ys σ)) (by have := ok.2.2.1.2.1; omega) (fun z => q (Or.inl z)) (fun z => q (Or.inr z))
          rw [nI_clamp (by have := ok.2.2.1.2.1; omega)]; exact hi
      have hC := zn_C ok.2.2.1 (by omega)
      have hW := (ok.2.2.1.2.2.2 hC).1.1
      cases e3 : ix (z + 1) (qL (zP (ys σ)) c + 1) with
      | none => exact ok
      | some v =>
        simp only []
        by_cases q : zR (ys σ) j c = v
        · rw [if_pos q]; exact ok
        · rw [if_neg q]
          by_cases w : canB (zP (ys σ)) (up (zR (ys σ) j) c v) = true
          · rw [if_pos w]
            refine (ok.kpS hC).sS (ok.2.2.1.cel hj ⟨fun i => ?_, w⟩)
            rw [up_at]
            by_cases u : i = c
            · rw [if_pos u, u]
              unfold ix at e3
              by_cases q5 : z + 1 < 0 ∨ nI (qL (zP (ys σ)) c + 1) ≤ z + 1
              · rw [if_pos q5] at e3; cases e3
              · rw [if_neg q5] at e3
                cases e3
                have l4 : qL (zP (ys σ)) c ≤ 4 := by
                  by_cases y : c < zC (ys σ)
                  · exact (hW.lv y).2
                  · rw [hW.2.2.2.1 c (Nat.le_of_not_lt y)]; omega
                obtain ⟨i', hi', e5⟩ := ix_not (x := z + 1) (n := qL (zP (ys σ)) c + 1) (by omega) (fun z => q5 (Or.inl z)) (fun z => q5 (Or.inr z))
                rw [e5, nI_clamp (by omega)]
                omega
            · rw [if_neg u]; exact ((ok.2.2.1.2.2.2 hC).2 j hj).1.1 i
          · rw [if_neg w]; exact ok
theorem ix_lt {x : Int32} {n j : Nat} (hn : n < 2 ^ 31) (h : ix x n = some j) : j < n := by
  unfold ix at h
  by_cases q : x < 0 ∨ nI n ≤ x
  · rw [if_pos q] at h; cases h
  · rw [if_neg q] at h
    cases h
    obtain ⟨i, hi, rfl⟩ := ix_not hn (fun z => q (Or.inl z)) (fun z => q (Or.inr z))
    rw [nI_clamp (by omega)]
    exact hi
theorem ok_drop {σ : Sg} (ok : SgOk σ) (x : Int32) : SgOk (o_drop σ x).2 := by
  unfold o_drop
  cases e : ix x (zn (ys σ)) with
  | none => exact ok
  | some j =>
    have hj := ix_lt (by have := ok.2.2.1.2.1; omega) e
    exact (ok.kpS (zn_C ok.2.2.1 (by omega))).sS (ok.2.2.1.drop hj)
theorem ok_result {σ : Sg} (ok : SgOk σ) (x y : Int32) : SgOk (o_result σ x y).2 := by
  unfold o_result
  cases e : ix x (zn (ys σ)) with
  | none => exact ok
  | some j =>
    cases e2 : ix y 3 with
    | none => exact ok
    | some v =>
      have hj := ix_lt (by have := ok.2.2.1.2.1; omega) e
      have hv := ix_lt (by omega) e2
      simp only []
      by_cases q : zt (ys σ) j = v
      · rw [if_pos q]; exact ok
      · rw [if_neg q]; exact (ok.kpS (zn_C ok.2.2.1 (by omega))).sS (ok.2.2.1.told hj (by omega))
theorem ok_draws {σ : Sg} (ok : SgOk σ) (x : Int32) : SgOk (o_draws σ x).2 := by
  unfold o_draws
  by_cases q : x < 0
  · rw [if_pos q]; exact ok
  · rw [if_neg q]
    obtain ⟨j, hj, rfl⟩ := nI_of q
    rw [nI_clamp hj]
    exact ok.sS (ok.2.2.1.x hj)
theorem ok_end {σ : Sg} (ok : SgOk σ) (x : Int32) : SgOk (o_end σ x).2 := by
  unfold o_end
  cases e : ix x (yz σ + 1) with
  | none => exact ok
  | some n =>
    have := ix_lt (by have := ok.2.1; omega) e
    exact ok.sT ok.1 (by have := ok.2.1; omega)

/-! THE CLASS: lawful rows -/
theorem NarR.law {P : Pl} {x y w : Int32} (hy : ∀ i, i < 32 → bt y i = true → bt x i = true) (hf : ∀ f, fitX (qC P) x f → lawX P f → fitX (qC P) y f) (hC8 : qC P ≤ 8) (h : LawR P y w) : LawR P x w := by
  rcases h with ⟨a, b⟩ | ⟨f, a, b, c⟩
  · exact Or.inl ⟨a, fun f h1 h2 => b f (hf f h1 h2) h2⟩
  · exact Or.inr ⟨f, fun c hc => ⟨(a c hc).1, hy _ (by have := (a c hc).1; omega) (a c hc).2⟩, b, c⟩
theorem nv_leaf {P : Pl} (h : PW P) {y : Int32} (hn : ∀ i, i < qN P → ¬ rowI (qV P i) &&& (y ^^^ (-1)) = 0) {f : Nat → Nat} (hf : fitX (qC P) y f) : lawX P f := by
  intro i hi
  refine Classical.byContradiction fun q => hn i hi ((nv_sub h).mpr fun c hc hv => ?_)
  have : qV P i c = f c + 1 := Classical.byContradiction fun z => q ⟨c, hc, hv, z⟩
  rw [this]
  exact (hf c hc).2
theorem bcn_pos {x : Int32} {k : Nat} (hk : k < 32) (h : bt x k = true) : 0 < bcn x := sm_pos.mpr ⟨k, hk, by rw [h]; decide⟩
/-- the two roads at a cell -/
theorem wo_sub {y w : Int32} {k : Nat} (hw : ∀ i, i < 32 → bt w i = decide (i = k)) : ∀ i, i < 32 → bt (y &&& (w ^^^ (-1))) i = true → bt y i = true := fun i hi z => by
  rw [b_wo hw hi, Bool.and_eq_true] at z
  exact z.1
theorem on_sub {y w : Int32} {c l : Nat} (hl : l < 4) (hc : c < 8) (hw : ∀ i, i < 32 → bt w i = decide (i = 4 * c + l)) (hy : bt y (4 * c + l) = true) : ∀ i, i < 32 → bt (onI y w) i = true → bt y i = true := fun i hi z => by
  rw [show i = 4 * (i / 4) + i % 4 by omega, b_on hl hc hw (by omega) (by omega)] at z
  by_cases q : i / 4 = c
  · rw [if_pos q] at z
    have := of_decide_eq_true z
    rw [show i = 4 * c + l by omega]
    exact hy
  · rw [if_neg q, show 4 * (i / 4) + i % 4 = i by omega] at z
    exact z
theorem wo_Lf {P : Pl} {y w : Int32} {c l l' : Nat} (hC8 : qC P ≤ 8) (hl : l < 4) (hw : ∀ i, i < 32 → bt w i = decide (i = 4 * c + l)) (hL : Lf P y) (hl' : l' < 4) (hne : l' ≠ l) (hb : bt y (4 * c + l') = true) : Lf P (y &&& (w ^^^ (-1))) := fun c' hc' => by
  by_cases q : c' = c
  · refine ⟨l', hl', ?_⟩
    rw [b_wo hw (by omega), q, hb, decide_eq_false (by omega)]
    rfl
  · obtain ⟨l2, h2, b2⟩ := hL c' hc'
    refine ⟨l2, h2, ?_⟩
    rw [b_wo hw (by omega), b2, decide_eq_false (by omega)]
    rfl
theorem on_Lf {P : Pl} {y w : Int32} {c l : Nat} (hC8 : qC P ≤ 8) (hl : l < 4) (hc : c < 8) (hw : ∀ i, i < 32 → bt w i = decide (i = 4 * c + l)) (hL : Lf P y) : Lf P (onI y w) := fun c' hc' => by
  by_cases q : c' = c
  · refine ⟨l, hl, ?_⟩
    rw [b_on hl hc hw (by omega) hl, if_pos q]
    exact decide_eq_true rfl
  · obtain ⟨l2, h2, b2⟩ := hL c' hc'
    refine ⟨l2, h2, ?_⟩
    rw [b_on hl hc hw (by omega) h2, if_neg q]
    exact b2
theorem wo_fit {C : Nat} {y w : Int32} {c l : Nat} (hC8 : C ≤ 8) (hl : l < 4) (hw : ∀ i, i < 32 → bt w i = decide (i = 4 * c + l)) (hc : c < C) {f : Nat → Nat} : fitX C (y &&& (w ^^^ (-1))) f ↔ fitX C y f ∧ f c ≠ l := by
  constructor
  · intro z
    refine ⟨fun c' hc' => ⟨(z c' hc').1, wo_sub hw _ (by have := (z c' hc').1; omega) (z c' hc').2⟩, fun e => ?_⟩
    obtain ⟨z1, z2⟩ := z c hc
    rw [b_wo hw (by omega), e, decide_eq_true rfl] at z2
    simp at z2
  · rintro ⟨z, hne⟩ c' hc'
    obtain ⟨z1, z2⟩ := z c' hc'
    refine ⟨z1, ?_⟩
    rw [b_wo hw (by omega), z2]
    have : ¬ 4 * c' + f c' = 4 * c + l := fun e => by
      have : c' = c := by omega
      subst this
      omega
    rw [decide_eq_false this]
    rfl
theorem on_fit {C : Nat} {y w : Int32} {c l : Nat} (hC8 : C ≤ 8) (hl : l < 4) (hw : ∀ i, i < 32 → bt w i = decide (i = 4 * c + l)) (hc : c < C) (hy : bt y (4 * c + l) = true) {f : Nat → Nat} : fitX C (onI y w) f ↔ fitX C y f ∧ f c = l := by
  constructor
  · intro z
    refine ⟨fun c' hc' => ⟨(z c' hc').1, on_sub hl (by omega) hw hy _ (by have := (z c' hc').1; omega) (z c' hc').2⟩, ?_⟩
    obtain ⟨z1, z2⟩ := z c hc
    rw [b_on hl (by omega) hw (by omega) z1, if_pos rfl] at z2
    exact of_decide_eq_true z2
  · rintro ⟨z, he⟩ c' hc'
    obtain ⟨z1, z2⟩ := z c' hc'
    refine ⟨z1, ?_⟩
    rw [b_on hl (by omega) hw (by omega) z1]
    by_cases q : c' = c
    · rw [if_pos q, q]; exact decide_eq_true he
    · rw [if_neg q]; exact z2
theorem s_lawfulRow {G : mG} {μ : mM} {p : Nat} {P : Pl} (h0 : sh p = (0, 3)) (h : PW P) (hp : PlC p P μ) : ∀ (n d dp : Nat) (x : Int32) (Q : Int32 → mM → Prop), bcn x ≤ n → n ≤ dp → d + n ≤ 40 → Lf P x → (∀ w, LawR P x w → Q w μ) → CtI G (mX4_lawfulRow (dp + 4)) [.ref (gb G + p), .int x, .int (nI d)] μ Q := by
  have hC8 := h.ct.2.2.2
  have hC2 := h.1
  intro n
  induction n with
  | zero =>
    intro d dp x Q hb hdp hd hL k
    exfalso
    obtain ⟨l, hl, hbl⟩ := hL 0 (by omega)
    have := bcn_pos (by omega) hbl
    omega
  | succ n ih =>
    intro d dp x Q hb hdp hd hL k
    obtain ⟨dq, rfl⟩ : ∃ dq, dp = dq + 1 := ⟨dp - 1, by omega⟩
    refine e_X4_lawfulRow (dp := dq + 1) h0 fun E C => k_X4_lawfulRow_0 C h0 (s_narrow h0 h hp hL fun y hy => ?_)
    rcases hy with ⟨rfl, hy⟩ | ⟨hLy, hsub, hfy, hst⟩
    · exact k_X4_lawfulRow_5 C h0 (fun _ => k 0 (Or.inl ⟨rfl, hy⟩)) (fun z => absurd rfl z)
    · have ky : ∀ w, LawR P y w → Q w μ := fun w hw => k w (NarR.law hsub hfy hC8 hw)
      have hby := bcn_mono hsub
      refine k_X4_lawfulRow_5 C h0 (fun z => ?_) (fun _ _ => s_openCell h0 h hp hst fun w hw => ?_)
      · exfalso
        rcases z with z | ⟨-, z⟩
        · exact Lf.ne h hLy z
        · exact z ((nI_leI (b := 40) (by omega) (by omega)).mpr (by omega))
      · rcases hw with ⟨rfl, hw⟩ | ⟨c, l, hc, hl, hw, hyc, l', hl', hne, hyl⟩
        · refine k_X4_lawfulRow_23 C h0 (fun z => absurd rfl z) (fun _ => s_leastRow h0 h hp hLy (k_X4_lawfulRow_35 C ?_))
          have hfl : fitX (qC P) y (leastL y) := fun c hc => leastL_spec (hLy c hc)
          exact ky _ (Or.inr ⟨leastL y, hfl, nv_leaf h hw hfl, rfl⟩)
        · have hw0 : w ≠ 0 := b_nz.mpr ⟨4 * c + l, by omega, by rw [hw _ (by omega)]; exact decide_eq_true rfl⟩
          have hlt1 : bcn (y &&& (w ^^^ (-1))) < bcn y := bcn_lt (wo_sub hw) (k := 4 * c + l) (by omega) hyc (by rw [b_wo hw (by omega), decide_eq_true rfl]; simp)
          have hlt2 : bcn (onI y w) < bcn y := bcn_lt (on_sub hl (by omega) hw hyc) (k := 4 * c + l') (by omega) hyl (by
            rw [b_on hl (by omega) hw (by omega) hl', if_pos rfl]
            exact decide_eq_false hne)
          have ed : nI d + 1 = nI (d + 1) := nI_1 d
          refine k_X4_lawfulRow_23 C h0 (fun _ => ?_) (fun z => absurd z hw0)
          rw [ed]
          refine ih (d + 1) dq (y &&& (w ^^^ (-1))) _ (by omega) (by omega) (by omega) (wo_Lf hC8 hl hw hLy hl' hne hyl) fun w1 hw1 => ?_
          refine k_X4_lawfulRow_49 C h0 (fun z => ?_) (fun z => k_X4_lawfulRow_74 C ?_)
          · rw [ed]
            refine ih (d + 1) dq (onI y w) _ (by omega) (by omega) (by omega) (on_Lf hC8 hl (by omega) hw hLy) fun w2 hw2 => k_X4_lawfulRow_74 C ?_
            have no1 : ∀ f, fitX (qC P) (y &&& (w ^^^ (-1))) f → ¬ lawX P f := fun f a b => (hw1.iff h).mpr ⟨f, a, b⟩ z
            refine ky w2 ?_
            rcases hw2 with ⟨a, b⟩ | ⟨f, a, b, e⟩
            · refine Or.inl ⟨a, fun f h1 h2 => ?_⟩
              by_cases q : f c = l
              · exact b f ((on_fit hC8 hl hw hc hyc).mpr ⟨h1, q⟩) h2
              · exact no1 f ((wo_fit hC8 hl hw hc).mpr ⟨h1, q⟩) h2
            · exact Or.inr ⟨f, ((on_fit hC8 hl hw hc hyc).mp a).1, b, e⟩
          · refine ky w1 ?_
            rcases hw1 with ⟨a, b⟩ | ⟨f, a, b, e⟩
            · exact absurd a z
            · exact Or.inr ⟨f, ((wo_fit hC8 hl hw hc).mp a).1, b, e⟩
theorem sm_mul (n a : Nat) (f : Nat → Nat) : sm n (fun i => f i * a) = sm n f * a := by
  induction n with
  | zero => simp [sm]
  | succ n ih => rw [sm, ih, sm, Nat.add_mul]
theorem cnt_fits {y : Int32} {g : (Nat → Nat) → Bool} (C : Nat) (hg : ∀ f, (∀ j, j < C → f j < 4) → (g f = true ↔ ∀ c, c < C → bt y (4 * c + f c) = true)) : ∀ (k c : Nat) (f : Nat → Nat), c + k = C → (∀ j, j < c → f j < 4) → cntF g k c f = (decide (∀ j, j < c → bt y (4 * j + f j) = true)).toNat * pd k (fun i => lvN y (c + i))
  | 0, c, f, hc, h4 => by
    have e : c = C := by omega
    subst e
    rw [cntF, pd, Nat.mul_one]
    have := hg f h4
    cases z : g f with
    | true => rw [decide_eq_true (this.mp z)]
    | false => rw [decide_eq_false (fun y => by rw [this.mpr y] at z; cases z)]
  | k + 1, c, f, hc, h4 => by
    rw [cntF, pd_front]
    have e : ∀ v, v < 4 → cntF g k (c + 1) (up f c v) = (bt y (4 * c + v)).toNat * ((decide (∀ j, j < c → bt y (4 * j + f j) = true)).toNat * pd k (fun i => lvN y (c + (i + 1)))) := fun v hv => by
      rw [cnt_fits C hg k (c + 1) (up f c v) (by omega) (fun j hj => by
        rw [up_at]
        split
        · exact hv
        · exact h4 j (by omega))]
      have e1 : pd k (fun i => lvN y (c + 1 + i)) = pd k (fun i => lvN y (c + (i + 1))) := pd_congr fun i _ => by rw [show c + 1 + i = c + (i + 1) by omega]
      have e2 : (decide (∀ j, j < c + 1 → bt y (4 * j + up f c v j) = true)).toNat = (bt y (4 * c + v)).toNat * (decide (∀ j, j < c → bt y (4 * j + f j) = true)).toNat := by
        by_cases q : ∀ j, j < c → bt y (4 * j + f j) = true
        · rw [decide_eq_true q]
          cases z : bt y (4 * c + v) with
          | true =>
            rw [decide_eq_true (fun j hj => by
              rw [up_at]
              by_cases w : j = c
              · rw [if_pos w, w]; exact z
              · rw [if_neg w]; exact q j (by omega))]
            rfl
          | false =>
            rw [decide_eq_false (fun w => by
              have := w c (by omega)
              rw [up_at, if_pos rfl, z] at this
              cases this)]
            rfl
        · rw [decide_eq_false q, decide_eq_false (fun w => q fun j hj => by
            have := w j (by omega)
            rw [up_at, if_neg (by omega)] at this
            exact this)]
          rw [Nat.mul_comm]
          simp
      rw [e1, e2, Nat.mul_assoc]
    rw [sm_congr e, sm_mul]
    show lvN y c * _ = _ * (lvN y (c + 0) * _)
    rw [Nat.add_zero, Nat.mul_left_comm]
theorem cnt_leaf {P : Pl} (h : PW P) {y : Int32} (hn : ∀ i, i < qN P → ¬ rowI (qV P i) &&& (y ^^^ (-1)) = 0) : cntX P y = pd (qC P) (lvN y) := by
  unfold cntX
  rw [cnt_fits (y := y) (qC P) (fun f h4 => by
    rw [goodX_iff h4]
    exact ⟨fun z c hc => (z.1 c hc).2, fun z => ⟨fun c hc => ⟨h4 c hc, z c hc⟩, nv_leaf h hn (fun c hc => ⟨h4 c hc, z c hc⟩)⟩⟩) (qC P) 0 _ (Nat.zero_add _) (fun j hj => absurd hj (Nat.not_lt_zero j))]
  rw [decide_eq_true (fun j hj => absurd hj (Nat.not_lt_zero j))]
  show 1 * _ = _
  rw [Nat.one_mul]
  exact pd_congr fun i _ => by rw [Nat.zero_add]
theorem cnt_split {P : Pl} (hC8 : qC P ≤ 8) {y w : Int32} {c l : Nat} (hl : l < 4) (hw : ∀ i, i < 32 → bt w i = decide (i = 4 * c + l)) (hc : c < qC P) (hy : bt y (4 * c + l) = true) : cntX P y = cntX P (y &&& (w ^^^ (-1))) + cntX P (onI y w) := by
  refine cntF_split fun f _ h2 => ?_
  have h4 : ∀ c, c < qC P → f c < 4 := fun c hc => h2 c (Nat.zero_le _) (by omega)
  have a := goodX_iff (P := P) (x := y) h4
  have b := goodX_iff (P := P) (x := y &&& (w ^^^ (-1))) h4
  have d := goodX_iff (P := P) (x := onI y w) h4
  rw [wo_fit hC8 hl hw hc] at b
  rw [on_fit hC8 hl hw hc hy] at d
  by_cases q : f c = l
  · have e1 : goodX P (y &&& (w ^^^ (-1))) f = false := bnot fun z => (b.mp z).1.2 q
    have e2 : goodX P y f = goodX P (onI y w) f := by
      cases z : goodX P (onI y w) f with
      | true => exact a.mpr ⟨(d.mp z).1.1, (d.mp z).2⟩
      | false => exact bnot fun v => by rw [d.mpr ⟨⟨(a.mp v).1, q⟩, (a.mp v).2⟩] at z; cases z
    rw [e1, e2]
    show _ = 0 + _
    omega
  · have e1 : goodX P (onI y w) f = false := bnot fun z => q (d.mp z).1.2
    have e2 : goodX P y f = goodX P (y &&& (w ^^^ (-1))) f := by
      cases z : goodX P (y &&& (w ^^^ (-1))) f with
      | true => exact a.mpr ⟨(b.mp z).1.1, (b.mp z).2⟩
      | false => exact bnot fun v => by rw [b.mpr ⟨⟨(a.mp v).1, q⟩, (a.mp v).2⟩] at z; cases z
    rw [e1, e2]
    show _ = _ + 0
    omega
theorem cntX_0 {P : Pl} {x : Int32} (hn : ∀ f, fitX (qC P) x f → ¬ lawX P f) : cntX P x = 0 := cntF_0 fun f _ h2 => bnot fun z => by
  obtain ⟨a, b⟩ := (goodX_iff (fun c hc => h2 c (Nat.zero_le _) (by omega))).mp z
  exact hn f a b
theorem s_lawfulIn {G : mG} {μ : mM} {p : Nat} {P : Pl} (h0 : sh p = (0, 3)) (h : PW P) (hp : PlC p P μ) : ∀ (n d dp : Nat) (x : Int32) (Q : Int32 → mM → Prop), bcn x ≤ n → n ≤ dp → d + n ≤ 40 → Lf P x → Q (nI (cntX P x)) μ → CtI G (mX4_lawfulIn (dp + 4)) [.ref (gb G + p), .int x, .int (nI d)] μ Q := by
  have hC8 := h.ct.2.2.2
  have hC2 := h.1
  intro n
  induction n with
  | zero =>
    intro d dp x Q hb hdp hd hL k
    exfalso
    obtain ⟨l, hl, hbl⟩ := hL 0 (by omega)
    have := bcn_pos (by omega) hbl
    omega
  | succ n ih =>
    intro d dp x Q hb hdp hd hL k
    obtain ⟨dq, rfl⟩ : ∃ dq, dp = dq + 1 := ⟨dp - 1, by omega⟩
    refine e_X4_lawfulIn (dp := dq + 1) h0 fun E C => k_X4_lawfulIn_0 C h0 (s_narrow h0 h hp hL fun y hy => ?_)
    rcases hy with ⟨rfl, hy⟩ | ⟨hLy, hsub, hfy, hst⟩
    · rw [cntX_0 hy] at k
      exact k_X4_lawfulIn_5 C h0 (fun _ => k) (fun z => absurd rfl z)
    · have ey : cntX P x = cntX P y := cntX_congr fun f h4 hl => ⟨fun z => hfy f z hl, fun z c hc => ⟨h4 c hc, hsub _ (by have := h4 c hc; omega) (z c hc).2⟩⟩
      rw [ey] at k
      have hby := bcn_mono hsub
      refine k_X4_lawfulIn_5 C h0 (fun z => ?_) (fun _ _ => s_openCell h0 h hp hst fun w hw => ?_)
      · exfalso
        rcases z with z | ⟨-, z⟩
        · exact Lf.ne h hLy z
        · exact z ((nI_leI (b := 40) (by omega) (by omega)).mpr (by omega))
      · rcases hw with ⟨rfl, hw⟩ | ⟨c, l, hc, hl, hw, hyc, l', hl', hne, hyl⟩
        · rw [cnt_leaf h hw] at k
          exact k_X4_lawfulIn_23 C h0 (fun z => absurd rfl z) (fun _ => s_rowsIn h0 h hp (k_X4_lawfulIn_35 C k))
        · have hw0 : w ≠ 0 := b_nz.mpr ⟨4 * c + l, by omega, by rw [hw _ (by omega)]; exact decide_eq_true rfl⟩
          have hlt1 : bcn (y &&& (w ^^^ (-1))) < bcn y := bcn_lt (wo_sub hw) (k := 4 * c + l) (by omega) hyc (by rw [b_wo hw (by omega), decide_eq_true rfl]; simp)
          have hlt2 : bcn (onI y w) < bcn y := bcn_lt (on_sub hl (by omega) hw hyc) (k := 4 * c + l') (by omega) hyl (by
            rw [b_on hl (by omega) hw (by omega) hl', if_pos rfl]
            exact decide_eq_false hne)
          have ed : nI d + 1 = nI (d + 1) := nI_1 d
          rw [cnt_split hC8 hl hw hc hyc] at k
          refine k_X4_lawfulIn_23 C h0 (fun _ => ?_) (fun z => absurd z hw0)
          rw [ed]
          refine ih (d + 1) dq (y &&& (w ^^^ (-1))) _ (by omega) (by omega) (by omega) (wo_Lf hC8 hl hw hLy hl' hne hyl) (k_X4_lawfulIn_49 C h0 ?_)
          rw [ed]
          refine ih (d + 1) dq (onI y w) _ (by omega) (by omega) (by omega) (on_Lf hC8 hl (by omega) hw hLy) (k_X4_lawfulIn_62 C ?_)
          rw [nI_add]
          exact k
/-- from the top -/
theorem s_lawTop {G : mG} {Q : Int32 → mM → Prop} {μ : mM} {p : Nat} {P : Pl} {x : Int32} (h0 : sh p = (0, 3)) (h : PW P) (hp : PlC p P μ) (hL : Lf P x) (k : ∀ w, LawR P x w → Q w μ) : CtI G (mX4_lawfulRow 63) [.ref (gb G + p), .int x, .int 0] μ Q :=
  s_lawfulRow h0 h hp 32 0 59 x Q (bcn_le32 x) (by omega) (by omega) hL k
theorem s_inTop {G : mG} {Q : Int32 → mM → Prop} {μ : mM} {p : Nat} {P : Pl} {x : Int32} (h0 : sh p = (0, 3)) (h : PW P) (hp : PlC p P μ) (hL : Lf P x) (k : Q (nI (cntX P x)) μ) : CtI G (mX4_lawfulIn 63) [.ref (gb G + p), .int x, .int 0] μ Q :=
  s_lawfulIn h0 h hp 32 0 59 x Q (bcn_le32 x) (by omega) (by omega) hL k
theorem s_allows {G : mG} {Q : Int32 → mM → Prop} {μ : mM} {p : Nat} {P : Pl} {r : Nat → Nat} (h0 : sh p = (0, 3)) (h : PW P) (hp : PlC p P μ) (hr : ∀ c, r c ≤ qL P c) (k : Q (nI (canB P r).toNat) μ) : CtI G mX4_allows [.ref (gb G + p), .int (rowI r)] μ Q := by
  refine e_X4_allows h0 fun E C => k_X4_allows_0 C h0 ?_
  rw [hp.2.2.2.1]
  refine s_lawTop h0 h hp (left_Lf h hr) fun w hw => ?_
  have hi := (hw.iff h).trans (left_can h hr)
  refine k_X4_allows_10 C (fun z => ?_) (fun z => ?_)
  · have : canB P r = false := bnot fun y => hi.mpr y z
    rw [this] at k
    exact k
  · rw [hi.mp z] at k
    exact k

/-! THE TWO OUTER CONSTRUCTORS (rows by wip/tools/mkc.py) -/
def φ0 : mF := fun _ _ => false
def φL (i : Nat) : mF := fun c j => decide (c < 50 ∨ (c = 50 ∧ j < i) ∨ (52 ≤ c ∧ c < 52 + 8 * i))
def φM (i : Nat) : mF := fun c j => decide (c < 51 ∨ (c = 51 ∧ j < i) ∨ (52 ≤ c ∧ c < 116 + 8 * i))
theorem arrV_cg {cA : ClassId} {N : Nat} {f g : Nat → Value} (h : ∀ j, j < N → f j = g j) : arrV cA N f = arrV cA N g := by
  unfold arrV
  congr 2
  funext j
  exact h j.1 j.2
/-- an array's places behind its end don't count -/
theorem Nm.go2 {G : mG} {M : mMt} {E : mE} {B : mB} {n : Nat} {φ φ' : mF} {μ : mM} {pc : Nat} {lv : List (Nat × Value)} {st : List Value} (h : ∀ c, c < n → (∀ j, φ c j = φ' c j) ∨ ∃ N, sh c = (4, N) ∧ ∀ j, j < N → φ c j = φ' c j) (k : Nm G M E B n φ' μ pc lv st) : Nm G M E B n φ μ pc lv st := by
  intro H locs ls hz hP hS hl
  refine k H locs ls hz (fun i q hq => ?_) hS hl
  obtain ⟨hi, rfl⟩ := wl_in hq
  have hp := hP i _ (wl_get hi)
  rcases h i hi with e | ⟨N, hs, e⟩
  · rw [← en_ph e]
    exact hp
  · rw [en_sta hs] at hp ⊢
    refine Eq.trans hp (congrArg some ?_)
    rw [vp_cell_q, vp_cell_q]
    exact arrV_cg fun j hj => by rw [e j hj]
theorem Nm.wd {G : mG} {M : mMt} {E : mE} {R : Room} {Q : State → Prop} {k s k' s' n : Nat} {φ : mF} {μ : mM} {pc : Nat} {lv : List (Nat × Value)} {st : List Value} (h1 : k ≤ k') (h2 : s ≤ s') (kk : Nm G M E (R, k', s', Q) n φ μ pc lv st) : Nm G M E (R, k, s, Q) n φ μ pc lv st :=
  fun H locs ls hz hP hS hl => W.widen h1 h2 (kk H locs ls hz hP hS hl)
set_option maxRecDepth 100000 in
set_option maxHeartbeats 4000000 in
theorem ci_past {G : mG} {E : mE} {Q : State → Prop} (C : Cx G mX11_init E) (kk : Nm G mX11_init E (rmn 4 131 11624, 115, 11278, Q) 116 (φL 8) μs 125 [(0, .ref (gb G + 0)), (1, .int (nI 8))] []) :
    ∀ d i, i + d = 8 → Nm G mX11_init E (rmn 4 131 11624, 51 + 8 * i, 9894 + 173 * i, Q) (52 + 8 * i) (φL i) μs 100 [(0, .ref (gb G + 0)), (1, .int (nI i))] [] := by
  intro d
  induction d with
  | zero =>
    intro i hi
    obtain rfl : i = 8 := by omega
    refine N_iload_n C (i := 1) dX11_init_100 rfl rfl ?_
    refine N_bipush C (v := 8) dX11_init_101 rfl ?_
    exact N_icmp_ge C (tgt := 125) dX11_init_103 rfl (fun _ => kk) (fun p => absurd (by decide) p)
  | succ d ih =>
    intro i hi
    have hs : sh (52 + 8 * i) = (0, 7) := sh_past (by omega)
    have hn3 : 52 + 8 * i ≠ 3 := by omega
    refine N_iload_n C (i := 1) dX11_init_100 rfl rfl ?_
    refine N_bipush C (v := 8) dX11_init_101 rfl ?_
    refine N_icmp_ge C (tgt := 125) dX11_init_103 rfl (fun p => ?_) (fun _ => ?_)
    · have p8 : nI 8 ≤ nI i := p
      rw [nI_leI (by omega) (by omega)] at p8
      omega
    refine N_aload_n C (i := 0) dX11_init_106 rfl rfl ?_
    refine N_get C (c2 := 50) dX11_init_107 sh_0 (by omega) fl_X11_58 rfl (by simp [φL]) rfl ?_
    refine N_iload_n C (i := 1) dX11_init_110 rfl rfl ?_
    have hφ : Vg (φL i) (52 + 8 * i) := fun c j h => by
      simp only [φL, decide_eq_false_iff_not]
      omega
    refine N_new C (N := 3) dX11_init_111 hs clok_7 (big_mem 260 rfl rfl) (big_mem 261 rfl rfl) (big_mem 112 rfl rfl) rfl (new_v (by decide) rfl (by decide) (fun j => hφ _ j (Nat.le_refl _)) (fun j _ => mu_n hn3 j)) ⟨by show 51 + 8 * i + 1 ≤ 131; omega, by show 9894 + 173 * i + 3 ≤ 11624; omega⟩ ?_
    refine N_dup C dX11_init_114 rfl ?_
    refine N_iniN C (mc := 7) (ms := 170) dX11_init_115 rfl rfl cal0_X8_init nk_X11_25 ⟨Nat.le_of_ble_eq_true rfl, Nat.le_of_ble_eq_true rfl⟩ ⟨by show 51 + 8 * i + 1 + 7 ≤ 131; omega, by show 9894 + 173 * i + 3 + 170 ≤ 11624; omega⟩ (Nat.le_of_ble_eq_true rfl) (i_X8 hs hφ) ?_
    refine N_ast C (N := 8) dX11_init_118 sh_50 (by omega) hs (by omega) (vp_in_nI (by omega) (by omega)) (by rw [nI_clamp (by omega)]; rfl) ?_
    refine N_iinc C (i := 1) (v := 1) dX11_init_119 rfl rfl (by decide) ?_
    refine N_goto C (tgt := 100) dX11_init_122 rfl ?_
    have h := ih (i + 1) (by omega)
    rw [← nI_1] at h
    refine Nm.wd (k' := 51 + 8 * (i + 1)) (s' := 9894 + 173 * (i + 1)) (by show 51 + 8 * i + 1 + 7 ≤ _; omega) (by show 9894 + 173 * i + 3 + 170 ≤ _; omega) ?_
    refine Nm.go (wl_cg (φ' := φL (i + 1)) (μ' := μs) fun c hc => en_ph fun j => ?_) h
    rw [nI_clamp (by omega)]
    simp only [fs, fl, φL, ← Bool.decide_or]
    exact decide_eq_decide.mpr (by omega)
set_option maxRecDepth 100000 in
set_option maxHeartbeats 4000000 in
theorem ci_shelves {G : mG} {E : mE} {Q : State → Prop} (C : Cx G mX11_init E) (kk : Nm G mX11_init E (rmn 4 131 11624, 131, 11624, Q) 132 (φM 2) μs 151 [(0, .ref (gb G + 0)), (1, .int (nI 2))] []) :
    ∀ d i, i + d = 2 → Nm G mX11_init E (rmn 4 131 11624, 115 + 8 * i, 11278 + 173 * i, Q) (116 + 8 * i) (φM i) μs 127 [(0, .ref (gb G + 0)), (1, .int (nI i))] [] := by
  intro d
  induction d with
  | zero =>
    intro i hi
    obtain rfl : i = 2 := by omega
    refine N_iload_n C (i := 1) dX11_init_127 rfl rfl ?_
    refine N_iconst C (v := 2) dX11_init_128 rfl ?_
    exact N_icmp_ge C (tgt := 151) dX11_init_129 rfl (fun _ => kk) (fun p => absurd (by decide) p)
  | succ d ih =>
    intro i hi
    have hs : sh (116 + 8 * i) = (0, 7) := sh_shelf (by omega)
    have hn3 : 116 + 8 * i ≠ 3 := by omega
    refine N_iload_n C (i := 1) dX11_init_127 rfl rfl ?_
    refine N_iconst C (v := 2) dX11_init_128 rfl ?_
    refine N_icmp_ge C (tgt := 151) dX11_init_129 rfl (fun p => ?_) (fun _ => ?_)
    · have p8 : nI 2 ≤ nI i := p
      rw [nI_leI (by omega) (by omega)] at p8
      omega
    refine N_aload_n C (i := 0) dX11_init_132 rfl rfl ?_
    refine N_get C (c2 := 51) dX11_init_133 sh_0 (by omega) fl_X11_62 rfl (by simp [φM]) rfl ?_
    refine N_iload_n C (i := 1) dX11_init_136 rfl rfl ?_
    have hφ : Vg (φM i) (116 + 8 * i) := fun c j h => by
      simp only [φM, decide_eq_false_iff_not]
      omega
    refine N_new C (N := 3) dX11_init_137 hs clok_7 (big_mem 260 rfl rfl) (big_mem 261 rfl rfl) (big_mem 112 rfl rfl) rfl (new_v (by decide) rfl (by decide) (fun j => hφ _ j (Nat.le_refl _)) (fun j _ => mu_n hn3 j)) ⟨by show 115 + 8 * i + 1 ≤ 131; omega, by show 11278 + 173 * i + 3 ≤ 11624; omega⟩ ?_
    refine N_dup C dX11_init_140 rfl ?_
    refine N_iniN C (mc := 7) (ms := 170) dX11_init_141 rfl rfl cal0_X8_init nk_X11_25 ⟨Nat.le_of_ble_eq_true rfl, Nat.le_of_ble_eq_true rfl⟩ ⟨by show 115 + 8 * i + 1 + 7 ≤ 131; omega, by show 11278 + 173 * i + 3 + 170 ≤ 11624; omega⟩ (Nat.le_of_ble_eq_true rfl) (i_X8 hs hφ) ?_
    refine N_ast C (N := 2) dX11_init_144 sh_51 (by omega) hs (by omega) (vp_in_nI (by omega) (by omega)) (by rw [nI_clamp (by omega)]; rfl) ?_
    refine N_iinc C (i := 1) (v := 1) dX11_init_145 rfl rfl (by decide) ?_
    refine N_goto C (tgt := 127) dX11_init_148 rfl ?_
    have h := ih (i + 1) (by omega)
    rw [← nI_1] at h
    refine Nm.wd (k' := 115 + 8 * (i + 1)) (s' := 11278 + 173 * (i + 1)) (by show 115 + 8 * i + 1 + 7 ≤ _; omega) (by show 11278 + 173 * i + 3 + 170 ≤ _; omega) ?_
    refine Nm.go (wl_cg (φ' := φM (i + 1)) (μ' := μs) fun c hc => en_ph fun j => ?_) h
    rw [nI_clamp (by omega)]
    simp only [fs, fl, φM, ← Bool.decide_or]
    exact decide_eq_decide.mpr (by omega)
set_option maxRecDepth 100000 in
theorem ci_end {G : mG} {E : mE} (C : Cx G mX11_init E) (hi : E.2.2.2.2.2.2.2.1.name = "<init>") : Nm G mX11_init E (rmn 4 131 11624, 51, 9894, MQ E.2.2.2.2.2.2.1 (Qn G 132 (fl φ0 0 132) μs) E.2.2.2.2.2.1 E.2.2.2.1 131 11624 (gA G)) 52 (φL 0) μs 98 [(0, .ref (gb G + 0))] [] := by
  refine N_iconst C (v := 0) dX11_init_98 rfl ?_
  refine N_istore_n C (i := 1) dX11_init_99 rfl (by decide) ?_
  refine ci_past C ?_ 8 0 rfl
  refine N_iconst C (v := 0) dX11_init_125 rfl ?_
  refine N_istore_n C (i := 1) dX11_init_126 rfl (by decide) ?_
  refine Nm.go2 (φ' := φM 0) (fun c hc => ?_) ?_
  · by_cases z : c = 50
    · subst z
      refine Or.inr ⟨8, sh_50, fun j hj => ?_⟩
      exact decide_eq_decide.mpr (show (50 < 50 ∨ (50 = 50 ∧ j < 8) ∨ (52 ≤ 50 ∧ 50 < 52 + 8 * 8)) ↔ (50 < 51 ∨ (50 = 51 ∧ j < 0) ∨ (52 ≤ 50 ∧ 50 < 116 + 8 * 0)) by omega)
    · refine Or.inl fun j => ?_
      simp only [φL, φM]
      exact decide_eq_decide.mpr (by omega)
  refine ci_shelves C ?_ 2 0 rfl
  refine Nm.go2 (φ' := fl φ0 0 132) (fun c hc => ?_) ?_
  · by_cases z : c = 51
    · subst z
      refine Or.inr ⟨2, sh_51, fun j hj => ?_⟩
      exact decide_eq_decide.mpr (show (51 < 51 ∨ (51 = 51 ∧ j < 2) ∨ (52 ≤ 51 ∧ 51 < 116 + 8 * 2)) ↔ (0 ≤ 51 ∧ 51 < 0 + 132) by omega)
    · refine Or.inl fun j => ?_
      simp only [fl, φ0, φM, Bool.false_or]
      exact decide_eq_decide.mpr (by omega)
  exact N_ret C dX11_init_151 rfl (Nat.le_refl _) (Nat.le_refl _) rfl rfl
/-- the model's words, letter by letter -/
def wb (k : Nat) : mM := fun c j => if c = 134 ∧ j < k then nI (wrB j) else μs c j
theorem wb_0 : wb 0 = μs := by
  funext c j
  exact if_neg (by omega)
theorem wb_n {k c : Nat} (h : c ≠ 134) (h3 : c ≠ 3) (j : Nat) : wb k c j = 0 := (if_neg fun z => h z.1).trans (mu_n h3 j)
theorem wb_n0 (j : Nat) : wb 0 134 j = 0 := (if_neg (by omega)).trans (mu_n (by decide) j)
theorem wb_s {k : Nat} : ms (wb k) 134 k (nI (wrB k)) = wb (k + 1) := by
  funext c j
  rw [ms_at]
  by_cases h : c = 134 ∧ j = k
  · rw [if_pos h]
    obtain ⟨rfl, rfl⟩ := h
    exact (if_pos (by omega)).symm
  · rw [if_neg h]
    unfold wb
    by_cases h2 : c = 134 ∧ j < k
    · rw [if_pos h2, if_pos (by omega)]
    · rw [if_neg h2, if_neg (by omega)]
theorem fs_ne {φ : mF} {a b c j : Nat} (h : c ≠ a) : fs φ a b c j = φ c j := by simp [fs, h]
theorem N_wb {G : mG} {M : mMt} {E : mE} {B : mB} {n : Nat} {φ : mF} {pc : Nat} {lv : List (Nat × Value)} {st : List Value} (C : Cx G M E) {k : Nat} {i x : Int32} (hk : k < 24 ∧ 134 < n) (hi : i = nI k) (hx : vp_nar .byte x = nI (wrB k)) (hd : decode M.2.1 pc = .ok (.bastore, 1)) (kk : Nm G M E B n φ (wb (k + 1)) (pc + 1) lv st) : Nm G M E B n φ (wb k) pc lv (.int x :: .int i :: .ref (gb G + 134) :: st) := by
  subst hi
  refine N_bast C hd sh_134 hk.2 (vp_in_nI hk.1 (by omega)) ?_
  rw [nI_clamp (by omega), hx, wb_s]
  exact kk
set_option maxRecDepth 100000 in
set_option maxHeartbeats 4000000 in
theorem i_X11 {G : mG} : CtN G mX11_init 0 1 φ0 μs 132 (fl φ0 0 132) μs 131 11624 := by
  have hφ : Vg φ0 0 := fun _ _ _ => rfl
  refine CtN.of (by decide) rfl (by decide) fun E C hi => ?_
  refine N_aload_n C (i := 0) dX11_init_0 rfl rfl ?_
  refine N_obj C dX11_init_1 lk_X11_1 ⟨Nat.le_of_ble_eq_true rfl, Nat.le_of_ble_eq_true rfl⟩ (Nat.le_of_ble_eq_true rfl) ?_
  refine N_aload_n C (i := 0) dX11_init_4 rfl rfl ?_
  refine N_new C (N := 2) dX11_init_5 sh_1 clok_9 (big_mem 135 rfl rfl) (big_mem 136 rfl rfl) (big_mem 108 rfl rfl) rfl (new_v (by decide) rfl (by decide) (fun j => (by first | exact hφ | (intro c j h; have h9 := hφ c j (by omega); simp only [fs, fl, h9, Bool.false_or, Bool.or_eq_false_iff, decide_eq_false_iff_not] <;> omega) : Vg _ (1)) _ j (Nat.le_refl _)) (fun j hj => by exact mu_n (sh_n3 sh_1 (by decide)) j)) ⟨Nat.le_of_ble_eq_true rfl, Nat.le_of_ble_eq_true rfl⟩ ?_
  refine N_dup C dX11_init_8 rfl ?_
  refine N_iniN C (mc := 1) (ms := 200) dX11_init_9 rfl rfl cal0_X10_init nk_X11_9 ⟨Nat.le_of_ble_eq_true rfl, Nat.le_of_ble_eq_true rfl⟩ ⟨Nat.le_of_ble_eq_true rfl, Nat.le_of_ble_eq_true rfl⟩ (Nat.le_of_ble_eq_true rfl) (i_X10 (by first | exact hφ | (intro c j h; have h9 := hφ c j (by omega); simp only [fs, fl, h9, Bool.false_or, Bool.or_eq_false_iff, decide_eq_false_iff_not] <;> omega))) ?_
  refine N_putf C hi dX11_init_12 sh_0 (by omega) fl_X11_10 rfl rfl rfl rfl rfl rfl ?_
  refine N_aload_n C (i := 0) dX11_init_15 rfl rfl ?_
  refine N_new C (N := 7) dX11_init_16 sh_3 clok_4 (big_mem 152 rfl rfl) (big_mem 153 rfl rfl) (big_mem 109 rfl rfl) rfl (new_v (by decide) rfl (by decide) (fun j => (by first | exact hφ | (intro c j h; have h9 := hφ c j (by omega); simp only [fs, fl, h9, Bool.false_or, Bool.or_eq_false_iff, decide_eq_false_iff_not] <;> omega) : Vg _ (3)) _ j (Nat.le_refl _)) (fun j hj => by exact mu_3 hj)) ⟨Nat.le_of_ble_eq_true rfl, Nat.le_of_ble_eq_true rfl⟩ ?_
  refine N_dup C dX11_init_19 rfl ?_
  refine N_iniN C (mc := 10) (ms := 281) dX11_init_20 rfl rfl cal0_X5_init nk_X11_18 ⟨Nat.le_of_ble_eq_true rfl, Nat.le_of_ble_eq_true rfl⟩ ⟨Nat.le_of_ble_eq_true rfl, Nat.le_of_ble_eq_true rfl⟩ (Nat.le_of_ble_eq_true rfl) (i_X5 (by first | exact hφ | (intro c j h; have h9 := hφ c j (by omega); simp only [fs, fl, h9, Bool.false_or, Bool.or_eq_false_iff, decide_eq_false_iff_not] <;> omega))) ?_
  refine N_putf C hi dX11_init_23 sh_0 (by omega) fl_X11_19 rfl rfl rfl rfl rfl rfl ?_
  refine N_aload_n C (i := 0) dX11_init_26 rfl rfl ?_
  refine N_new C (N := 3) dX11_init_27 sh_14 clok_7 (big_mem 260 rfl rfl) (big_mem 261 rfl rfl) (big_mem 112 rfl rfl) rfl (new_v (by decide) rfl (by decide) (fun j => (by first | exact hφ | (intro c j h; have h9 := hφ c j (by omega); simp only [fs, fl, h9, Bool.false_or, Bool.or_eq_false_iff, decide_eq_false_iff_not] <;> omega) : Vg _ (14)) _ j (Nat.le_refl _)) (fun j hj => by exact mu_n (sh_n3 sh_14 (by decide)) j)) ⟨Nat.le_of_ble_eq_true rfl, Nat.le_of_ble_eq_true rfl⟩ ?_
  refine N_dup C dX11_init_30 rfl ?_
  refine N_iniN C (mc := 7) (ms := 170) dX11_init_31 rfl rfl cal0_X8_init nk_X11_25 ⟨Nat.le_of_ble_eq_true rfl, Nat.le_of_ble_eq_true rfl⟩ ⟨Nat.le_of_ble_eq_true rfl, Nat.le_of_ble_eq_true rfl⟩ (Nat.le_of_ble_eq_true rfl) (i_X8 sh_14 (by first | exact hφ | (intro c j h; have h9 := hφ c j (by omega); simp only [fs, fl, h9, Bool.false_or, Bool.or_eq_false_iff, decide_eq_false_iff_not] <;> omega))) ?_
  refine N_putf C hi dX11_init_34 sh_0 (by omega) fl_X11_26 rfl rfl rfl rfl rfl rfl ?_
  refine N_aload_n C (i := 0) dX11_init_37 rfl rfl ?_
  refine N_new C (N := 5) dX11_init_38 sh_22 clok_1 (big_mem 308 rfl rfl) (big_mem 309 rfl rfl) (big_mem 114 rfl rfl) rfl (new_v (by decide) rfl (by decide) (fun j => (by first | exact hφ | (intro c j h; have h9 := hφ c j (by omega); simp only [fs, fl, h9, Bool.false_or, Bool.or_eq_false_iff, decide_eq_false_iff_not] <;> omega) : Vg _ (22)) _ j (Nat.le_refl _)) (fun j hj => by exact mu_n (sh_n3 sh_22 (by decide)) j)) ⟨Nat.le_of_ble_eq_true rfl, Nat.le_of_ble_eq_true rfl⟩ ?_
  refine N_dup C dX11_init_41 rfl ?_
  refine N_iniN C (mc := 8) (ms := 3842) dX11_init_42 rfl rfl cal0_X2_init nk_X11_32 ⟨Nat.le_of_ble_eq_true rfl, Nat.le_of_ble_eq_true rfl⟩ ⟨Nat.le_of_ble_eq_true rfl, Nat.le_of_ble_eq_true rfl⟩ (Nat.le_of_ble_eq_true rfl) (i_X2 (by first | exact hφ | (intro c j h; have h9 := hφ c j (by omega); simp only [fs, fl, h9, Bool.false_or, Bool.or_eq_false_iff, decide_eq_false_iff_not] <;> omega))) ?_
  refine N_putf C hi dX11_init_45 sh_0 (by omega) fl_X11_33 rfl rfl rfl rfl rfl rfl ?_
  refine N_aload_n C (i := 0) dX11_init_48 rfl rfl ?_
  refine N_new C (N := 6) dX11_init_49 sh_31 clok_5 (big_mem 341 rfl rfl) (big_mem 342 rfl rfl) (big_mem 115 rfl rfl) rfl (new_v (by decide) rfl (by decide) (fun j => (by first | exact hφ | (intro c j h; have h9 := hφ c j (by omega); simp only [fs, fl, h9, Bool.false_or, Bool.or_eq_false_iff, decide_eq_false_iff_not] <;> omega) : Vg _ (31)) _ j (Nat.le_refl _)) (fun j hj => by exact mu_n (sh_n3 sh_31 (by decide)) j)) ⟨Nat.le_of_ble_eq_true rfl, Nat.le_of_ble_eq_true rfl⟩ ?_
  refine N_dup C dX11_init_52 rfl ?_
  refine N_iniN C (mc := 4) (ms := 3612) dX11_init_53 rfl rfl cal0_X6_init nk_X11_39 ⟨Nat.le_of_ble_eq_true rfl, Nat.le_of_ble_eq_true rfl⟩ ⟨Nat.le_of_ble_eq_true rfl, Nat.le_of_ble_eq_true rfl⟩ (Nat.le_of_ble_eq_true rfl) (i_X6 (by first | exact hφ | (intro c j h; have h9 := hφ c j (by omega); simp only [fs, fl, h9, Bool.false_or, Bool.or_eq_false_iff, decide_eq_false_iff_not] <;> omega))) ?_
  refine N_putf C hi dX11_init_56 sh_0 (by omega) fl_X11_40 rfl rfl rfl rfl rfl rfl ?_
  refine N_aload_n C (i := 0) dX11_init_59 rfl rfl ?_
  refine N_new C (N := 3) dX11_init_60 sh_36 clok_2 (big_mem 366 rfl rfl) (big_mem 367 rfl rfl) (big_mem 116 rfl rfl) rfl (new_v (by decide) rfl (by decide) (fun j => (by first | exact hφ | (intro c j h; have h9 := hφ c j (by omega); simp only [fs, fl, h9, Bool.false_or, Bool.or_eq_false_iff, decide_eq_false_iff_not] <;> omega) : Vg _ (36)) _ j (Nat.le_refl _)) (fun j hj => by exact mu_n (sh_n3 sh_36 (by decide)) j)) ⟨Nat.le_of_ble_eq_true rfl, Nat.le_of_ble_eq_true rfl⟩ ?_
  refine N_dup C dX11_init_63 rfl ?_
  refine N_iniN C (mc := 5) (ms := 1395) dX11_init_64 rfl rfl cal0_X3_init nk_X11_46 ⟨Nat.le_of_ble_eq_true rfl, Nat.le_of_ble_eq_true rfl⟩ ⟨Nat.le_of_ble_eq_true rfl, Nat.le_of_ble_eq_true rfl⟩ (Nat.le_of_ble_eq_true rfl) (i_X3 (by first | exact hφ | (intro c j h; have h9 := hφ c j (by omega); simp only [fs, fl, h9, Bool.false_or, Bool.or_eq_false_iff, decide_eq_false_iff_not] <;> omega))) ?_
  refine N_putf C hi dX11_init_67 sh_0 (by omega) fl_X11_47 rfl rfl rfl rfl rfl rfl ?_
  refine N_aload_n C (i := 0) dX11_init_70 rfl rfl ?_
  refine N_new C (N := 4) dX11_init_71 sh_42 clok_8 (big_mem 385 rfl rfl) (big_mem 386 rfl rfl) (big_mem 117 rfl rfl) rfl (new_v (by decide) rfl (by decide) (fun j => (by first | exact hφ | (intro c j h; have h9 := hφ c j (by omega); simp only [fs, fl, h9, Bool.false_or, Bool.or_eq_false_iff, decide_eq_false_iff_not] <;> omega) : Vg _ (42)) _ j (Nat.le_refl _)) (fun j hj => by exact mu_n (sh_n3 sh_42 (by decide)) j)) ⟨Nat.le_of_ble_eq_true rfl, Nat.le_of_ble_eq_true rfl⟩ ?_
  refine N_dup C dX11_init_74 rfl ?_
  refine N_iniN C (mc := 7) (ms := 354) dX11_init_75 rfl rfl cal0_X9_init nk_X11_53 ⟨Nat.le_of_ble_eq_true rfl, Nat.le_of_ble_eq_true rfl⟩ ⟨Nat.le_of_ble_eq_true rfl, Nat.le_of_ble_eq_true rfl⟩ (Nat.le_of_ble_eq_true rfl) (i_X9 (by first | exact hφ | (intro c j h; have h9 := hφ c j (by omega); simp only [fs, fl, h9, Bool.false_or, Bool.or_eq_false_iff, decide_eq_false_iff_not] <;> omega))) ?_
  refine N_putf C hi dX11_init_78 sh_0 (by omega) fl_X11_54 rfl rfl rfl rfl rfl rfl ?_
  refine N_aload_n C (i := 0) dX11_init_81 rfl rfl ?_
  refine N_bipush C (v := 8) dX11_init_82 rfl ?_
  refine N_newq C (N := 8) dX11_init_84 (big_mem 260 rfl rfl) sh_50 (by decide) rfl (by decide) (fun j => (by first | exact hφ | (intro c j h; have h9 := hφ c j (by omega); simp only [fs, fl, h9, Bool.false_or, Bool.or_eq_false_iff, decide_eq_false_iff_not] <;> omega) : Vg _ (50)) _ j (Nat.le_refl _)) ⟨Nat.le_of_ble_eq_true rfl, Nat.le_of_ble_eq_true rfl⟩ ?_
  refine N_putf C hi dX11_init_87 sh_0 (by omega) fl_X11_58 rfl rfl rfl rfl rfl rfl ?_
  refine N_aload_n C (i := 0) dX11_init_90 rfl rfl ?_
  refine N_iconst C (v := 2) dX11_init_91 rfl ?_
  refine N_newq C (N := 2) dX11_init_92 (big_mem 260 rfl rfl) sh_51 (by decide) rfl (by decide) (fun j => (by first | exact hφ | (intro c j h; have h9 := hφ c j (by omega); simp only [fs, fl, h9, Bool.false_or, Bool.or_eq_false_iff, decide_eq_false_iff_not] <;> omega) : Vg _ (51)) _ j (Nat.le_refl _)) ⟨Nat.le_of_ble_eq_true rfl, Nat.le_of_ble_eq_true rfl⟩ ?_
  refine N_putf C hi dX11_init_95 sh_0 (by omega) fl_X11_62 rfl rfl rfl rfl rfl rfl ?_
  refine Nm.go (wl_done (φ' := φL 0) [0, 1, 2, 3, 4, 5, 6, 7, 10] sh_0 (fun c' h1 h2 j => ?_) (fun j hj => ?_) (refs_in (by decide))) ?_
  · simp only [fs, fl, φ0, φL, Bool.or_assoc, ← Bool.decide_or, Bool.false_or]
    exact decide_eq_decide.mpr (by omega)
  · simp only [List.mem_cons, List.not_mem_nil, or_false] at hj
    rcases hj with rfl | rfl | rfl | rfl | rfl | rfl | rfl | rfl | rfl <;> simp [fs, fl, φL]
  exact ci_end C hi
set_option maxRecDepth 100000 in
set_option maxHeartbeats 8000000 in
theorem i_X12 {G : mG} {φ : mF} (hφ : Vg φ 132) : CtN G mX12_init 132 133 φ μs 152 (fl φ 132 20) (wb 24) 19 18622 := by
  refine CtN.of (by decide) rfl (by decide) fun E C hi => ?_
  rw [← wb_0]
  refine N_aload_n C (i := 0) dX12_init_0 rfl rfl ?_
  refine N_obj C dX12_init_1 lk_X12_1 ⟨Nat.le_of_ble_eq_true rfl, Nat.le_of_ble_eq_true rfl⟩ (Nat.le_of_ble_eq_true rfl) ?_
  refine N_aload_n C (i := 0) dX12_init_4 rfl rfl ?_
  refine N_sipush C (v := 200) dX12_init_5 rfl ?_
  refine N_newB C (N := 200) dX12_init_8 sh_133 (by decide) rfl (by decide) (wb_n (by decide) (by decide)) ⟨Nat.le_of_ble_eq_true rfl, Nat.le_of_ble_eq_true rfl⟩ ?_
  refine N_putf C hi dX12_init_10 sh_132 (by omega) fl_X12_7 rfl rfl rfl rfl rfl rfl ?_
  refine N_aload_n C (i := 0) dX12_init_13 rfl rfl ?_
  refine N_bipush C (v := 24) dX12_init_14 rfl ?_
  refine N_newB C (N := 24) dX12_init_16 sh_134 (by decide) rfl (by decide) (fun j => wb_n0 j) ⟨Nat.le_of_ble_eq_true rfl, Nat.le_of_ble_eq_true rfl⟩ ?_
  refine N_dup C dX12_init_18 rfl ?_
  refine N_iconst C (v := 0) dX12_init_19 rfl ?_
  refine N_bipush C (v := 108) dX12_init_20 rfl ?_
  refine N_wb C (k := 0) (by decide) rfl (by decide) dX12_init_22 ?_
  refine N_dup C dX12_init_23 rfl ?_
  refine N_iconst C (v := 1) dX12_init_24 rfl ?_
  refine N_bipush C (v := 101) dX12_init_25 rfl ?_
  refine N_wb C (k := 1) (by decide) rfl (by decide) dX12_init_27 ?_
  refine N_dup C dX12_init_28 rfl ?_
  refine N_iconst C (v := 2) dX12_init_29 rfl ?_
  refine N_bipush C (v := 118) dX12_init_30 rfl ?_
  refine N_wb C (k := 2) (by decide) rfl (by decide) dX12_init_32 ?_
  refine N_dup C dX12_init_33 rfl ?_
  refine N_iconst C (v := 3) dX12_init_34 rfl ?_
  refine N_bipush C (v := 101) dX12_init_35 rfl ?_
  refine N_wb C (k := 3) (by decide) rfl (by decide) dX12_init_37 ?_
  refine N_dup C dX12_init_38 rfl ?_
  refine N_iconst C (v := 4) dX12_init_39 rfl ?_
  refine N_bipush C (v := 108) dX12_init_40 rfl ?_
  refine N_wb C (k := 4) (by decide) rfl (by decide) dX12_init_42 ?_
  refine N_dup C dX12_init_43 rfl ?_
  refine N_iconst C (v := 5) dX12_init_44 rfl ?_
  refine N_bipush C (v := 115) dX12_init_45 rfl ?_
  refine N_wb C (k := 5) (by decide) rfl (by decide) dX12_init_47 ?_
  refine N_dup C dX12_init_48 rfl ?_
  refine N_bipush C (v := 6) dX12_init_49 rfl ?_
  refine N_iconst C (v := 0) dX12_init_51 rfl ?_
  refine N_wb C (k := 6) (by decide) rfl (by decide) dX12_init_52 ?_
  refine N_dup C dX12_init_53 rfl ?_
  refine N_bipush C (v := 7) dX12_init_54 rfl ?_
  refine N_iconst C (v := 0) dX12_init_56 rfl ?_
  refine N_wb C (k := 7) (by decide) rfl (by decide) dX12_init_57 ?_
  refine N_dup C dX12_init_58 rfl ?_
  refine N_bipush C (v := 8) dX12_init_59 rfl ?_
  refine N_bipush C (v := 115) dX12_init_61 rfl ?_
  refine N_wb C (k := 8) (by decide) rfl (by decide) dX12_init_63 ?_
  refine N_dup C dX12_init_64 rfl ?_
  refine N_bipush C (v := 9) dX12_init_65 rfl ?_
  refine N_bipush C (v := 116) dX12_init_67 rfl ?_
  refine N_wb C (k := 9) (by decide) rfl (by decide) dX12_init_69 ?_
  refine N_dup C dX12_init_70 rfl ?_
  refine N_bipush C (v := 10) dX12_init_71 rfl ?_
  refine N_bipush C (v := 114) dX12_init_73 rfl ?_
  refine N_wb C (k := 10) (by decide) rfl (by decide) dX12_init_75 ?_
  refine N_dup C dX12_init_76 rfl ?_
  refine N_bipush C (v := 11) dX12_init_77 rfl ?_
  refine N_bipush C (v := 101) dX12_init_79 rfl ?_
  refine N_wb C (k := 11) (by decide) rfl (by decide) dX12_init_81 ?_
  refine N_dup C dX12_init_82 rfl ?_
  refine N_bipush C (v := 12) dX12_init_83 rfl ?_
  refine N_bipush C (v := 110) dX12_init_85 rfl ?_
  refine N_wb C (k := 12) (by decide) rfl (by decide) dX12_init_87 ?_
  refine N_dup C dX12_init_88 rfl ?_
  refine N_bipush C (v := 13) dX12_init_89 rfl ?_
  refine N_bipush C (v := 103) dX12_init_91 rfl ?_
  refine N_wb C (k := 13) (by decide) rfl (by decide) dX12_init_93 ?_
  refine N_dup C dX12_init_94 rfl ?_
  refine N_bipush C (v := 14) dX12_init_95 rfl ?_
  refine N_bipush C (v := 116) dX12_init_97 rfl ?_
  refine N_wb C (k := 14) (by decide) rfl (by decide) dX12_init_99 ?_
  refine N_dup C dX12_init_100 rfl ?_
  refine N_bipush C (v := 15) dX12_init_101 rfl ?_
  refine N_bipush C (v := 104) dX12_init_103 rfl ?_
  refine N_wb C (k := 15) (by decide) rfl (by decide) dX12_init_105 ?_
  refine N_dup C dX12_init_106 rfl ?_
  refine N_bipush C (v := 16) dX12_init_107 rfl ?_
  refine N_bipush C (v := 110) dX12_init_109 rfl ?_
  refine N_wb C (k := 16) (by decide) rfl (by decide) dX12_init_111 ?_
  refine N_dup C dX12_init_112 rfl ?_
  refine N_bipush C (v := 17) dX12_init_113 rfl ?_
  refine N_bipush C (v := 101) dX12_init_115 rfl ?_
  refine N_wb C (k := 17) (by decide) rfl (by decide) dX12_init_117 ?_
  refine N_dup C dX12_init_118 rfl ?_
  refine N_bipush C (v := 18) dX12_init_119 rfl ?_
  refine N_bipush C (v := 118) dX12_init_121 rfl ?_
  refine N_wb C (k := 18) (by decide) rfl (by decide) dX12_init_123 ?_
  refine N_dup C dX12_init_124 rfl ?_
  refine N_bipush C (v := 19) dX12_init_125 rfl ?_
  refine N_bipush C (v := 101) dX12_init_127 rfl ?_
  refine N_wb C (k := 19) (by decide) rfl (by decide) dX12_init_129 ?_
  refine N_dup C dX12_init_130 rfl ?_
  refine N_bipush C (v := 20) dX12_init_131 rfl ?_
  refine N_bipush C (v := 114) dX12_init_133 rfl ?_
  refine N_wb C (k := 20) (by decide) rfl (by decide) dX12_init_135 ?_
  refine N_dup C dX12_init_136 rfl ?_
  refine N_bipush C (v := 21) dX12_init_137 rfl ?_
  refine N_iconst C (v := 0) dX12_init_139 rfl ?_
  refine N_wb C (k := 21) (by decide) rfl (by decide) dX12_init_140 ?_
  refine N_dup C dX12_init_141 rfl ?_
  refine N_bipush C (v := 22) dX12_init_142 rfl ?_
  refine N_iconst C (v := 0) dX12_init_144 rfl ?_
  refine N_wb C (k := 22) (by decide) rfl (by decide) dX12_init_145 ?_
  refine N_dup C dX12_init_146 rfl ?_
  refine N_bipush C (v := 23) dX12_init_147 rfl ?_
  refine N_iconst C (v := 0) dX12_init_149 rfl ?_
  refine N_wb C (k := 23) (by decide) rfl (by decide) dX12_init_150 ?_
  refine N_putf C hi dX12_init_151 sh_132 (by omega) fl_X12_13 rfl rfl rfl rfl rfl rfl ?_
  refine N_aload_n C (i := 0) dX12_init_154 rfl rfl ?_
  refine N_sipush C (v := 673) dX12_init_155 rfl ?_
  refine N_newI C (N := 673) dX12_init_158 sh_135 (by decide) rfl (by decide) (wb_n (by decide) (by decide)) ⟨Nat.le_of_ble_eq_true rfl, Nat.le_of_ble_eq_true rfl⟩ ?_
  refine N_putf C hi dX12_init_160 sh_132 (by omega) fl_X12_16 rfl rfl rfl rfl rfl rfl ?_
  refine N_aload_n C (i := 0) dX12_init_163 rfl rfl ?_
  refine N_sipush C (v := 673) dX12_init_164 rfl ?_
  refine N_newI C (N := 673) dX12_init_167 sh_136 (by decide) rfl (by decide) (wb_n (by decide) (by decide)) ⟨Nat.le_of_ble_eq_true rfl, Nat.le_of_ble_eq_true rfl⟩ ?_
  refine N_putf C hi dX12_init_169 sh_132 (by omega) fl_X12_20 rfl rfl rfl rfl rfl rfl ?_
  refine N_aload_n C (i := 0) dX12_init_172 rfl rfl ?_
  refine N_sipush C (v := 673) dX12_init_173 rfl ?_
  refine N_newI C (N := 673) dX12_init_176 sh_137 (by decide) rfl (by decide) (wb_n (by decide) (by decide)) ⟨Nat.le_of_ble_eq_true rfl, Nat.le_of_ble_eq_true rfl⟩ ?_
  refine N_putf C hi dX12_init_178 sh_132 (by omega) fl_X12_23 rfl rfl rfl rfl rfl rfl ?_
  refine N_aload_n C (i := 0) dX12_init_181 rfl rfl ?_
  refine N_bipush C (v := 8) dX12_init_182 rfl ?_
  refine N_newI C (N := 8) dX12_init_184 sh_138 (by decide) rfl (by decide) (wb_n (by decide) (by decide)) ⟨Nat.le_of_ble_eq_true rfl, Nat.le_of_ble_eq_true rfl⟩ ?_
  refine N_putf C hi dX12_init_186 sh_132 (by omega) fl_X12_26 rfl rfl rfl rfl rfl rfl ?_
  refine N_aload_n C (i := 0) dX12_init_189 rfl rfl ?_
  refine N_bipush C (v := 8) dX12_init_190 rfl ?_
  refine N_newI C (N := 8) dX12_init_192 sh_139 (by decide) rfl (by decide) (wb_n (by decide) (by decide)) ⟨Nat.le_of_ble_eq_true rfl, Nat.le_of_ble_eq_true rfl⟩ ?_
  refine N_putf C hi dX12_init_194 sh_132 (by omega) fl_X12_29 rfl rfl rfl rfl rfl rfl ?_
  refine N_aload_n C (i := 0) dX12_init_197 rfl rfl ?_
  refine N_sipush C (v := 3600) dX12_init_198 rfl ?_
  refine N_newI C (N := 3600) dX12_init_201 sh_140 (by decide) rfl (by decide) (wb_n (by decide) (by decide)) ⟨Nat.le_of_ble_eq_true rfl, Nat.le_of_ble_eq_true rfl⟩ ?_
  refine N_putf C hi dX12_init_203 sh_132 (by omega) fl_X12_32 rfl rfl rfl rfl rfl rfl ?_
  refine N_aload_n C (i := 0) dX12_init_206 rfl rfl ?_
  refine N_sipush C (v := 3600) dX12_init_207 rfl ?_
  refine N_newI C (N := 3600) dX12_init_210 sh_141 (by decide) rfl (by decide) (wb_n (by decide) (by decide)) ⟨Nat.le_of_ble_eq_true rfl, Nat.le_of_ble_eq_true rfl⟩ ?_
  refine N_putf C hi dX12_init_212 sh_132 (by omega) fl_X12_35 rfl rfl rfl rfl rfl rfl ?_
  refine N_aload_n C (i := 0) dX12_init_215 rfl rfl ?_
  refine N_sipush C (v := 1200) dX12_init_216 rfl ?_
  refine N_newZ C (N := 1200) dX12_init_219 sh_142 (by decide) rfl (by decide) (wb_n (by decide) (by decide)) ⟨Nat.le_of_ble_eq_true rfl, Nat.le_of_ble_eq_true rfl⟩ ?_
  refine N_putf C hi dX12_init_221 sh_132 (by omega) fl_X12_38 rfl rfl rfl rfl rfl rfl ?_
  refine N_aload_n C (i := 0) dX12_init_224 rfl rfl ?_
  refine N_iconst C (v := 3) dX12_init_225 rfl ?_
  refine N_newI C (N := 3) dX12_init_226 sh_143 (by decide) rfl (by decide) (wb_n (by decide) (by decide)) ⟨Nat.le_of_ble_eq_true rfl, Nat.le_of_ble_eq_true rfl⟩ ?_
  refine N_putf C hi dX12_init_228 sh_132 (by omega) fl_X12_42 rfl rfl rfl rfl rfl rfl ?_
  refine N_aload_n C (i := 0) dX12_init_231 rfl rfl ?_
  refine N_sipush C (v := 1200) dX12_init_232 rfl ?_
  refine N_newZ C (N := 1200) dX12_init_235 sh_144 (by decide) rfl (by decide) (wb_n (by decide) (by decide)) ⟨Nat.le_of_ble_eq_true rfl, Nat.le_of_ble_eq_true rfl⟩ ?_
  refine N_putf C hi dX12_init_237 sh_132 (by omega) fl_X12_45 rfl rfl rfl rfl rfl rfl ?_
  refine N_aload_n C (i := 0) dX12_init_240 rfl rfl ?_
  refine N_bipush C (v := 8) dX12_init_241 rfl ?_
  refine N_newI C (N := 8) dX12_init_243 sh_145 (by decide) rfl (by decide) (wb_n (by decide) (by decide)) ⟨Nat.le_of_ble_eq_true rfl, Nat.le_of_ble_eq_true rfl⟩ ?_
  refine N_putf C hi dX12_init_245 sh_132 (by omega) fl_X12_48 rfl rfl rfl rfl rfl rfl ?_
  refine N_aload_n C (i := 0) dX12_init_248 rfl rfl ?_
  refine N_bipush C (v := 8) dX12_init_249 rfl ?_
  refine N_newI C (N := 8) dX12_init_251 sh_146 (by decide) rfl (by decide) (wb_n (by decide) (by decide)) ⟨Nat.le_of_ble_eq_true rfl, Nat.le_of_ble_eq_true rfl⟩ ?_
  refine N_putf C hi dX12_init_253 sh_132 (by omega) fl_X12_51 rfl rfl rfl rfl rfl rfl ?_
  refine N_aload_n C (i := 0) dX12_init_256 rfl rfl ?_
  refine N_iconst C (v := 3) dX12_init_257 rfl ?_
  refine N_newI C (N := 3) dX12_init_258 sh_147 (by decide) rfl (by decide) (wb_n (by decide) (by decide)) ⟨Nat.le_of_ble_eq_true rfl, Nat.le_of_ble_eq_true rfl⟩ ?_
  refine N_putf C hi dX12_init_260 sh_132 (by omega) fl_X12_54 rfl rfl rfl rfl rfl rfl ?_
  refine N_aload_n C (i := 0) dX12_init_263 rfl rfl ?_
  refine N_bipush C (v := 9) dX12_init_264 rfl ?_
  refine N_newI C (N := 9) dX12_init_266 sh_148 (by decide) rfl (by decide) (wb_n (by decide) (by decide)) ⟨Nat.le_of_ble_eq_true rfl, Nat.le_of_ble_eq_true rfl⟩ ?_
  refine N_putf C hi dX12_init_268 sh_132 (by omega) fl_X12_57 rfl rfl rfl rfl rfl rfl ?_
  refine N_aload_n C (i := 0) dX12_init_271 rfl rfl ?_
  refine N_sipush C (v := 5384) dX12_init_272 rfl ?_
  refine N_newI C (N := 5384) dX12_init_275 sh_149 (by decide) rfl (by decide) (wb_n (by decide) (by decide)) ⟨Nat.le_of_ble_eq_true rfl, Nat.le_of_ble_eq_true rfl⟩ ?_
  refine N_putf C hi dX12_init_277 sh_132 (by omega) fl_X12_60 rfl rfl rfl rfl rfl rfl ?_
  refine N_aload_n C (i := 0) dX12_init_280 rfl rfl ?_
  refine N_sipush C (v := 1346) dX12_init_281 rfl ?_
  refine N_newI C (N := 1346) dX12_init_284 sh_150 (by decide) rfl (by decide) (wb_n (by decide) (by decide)) ⟨Nat.le_of_ble_eq_true rfl, Nat.le_of_ble_eq_true rfl⟩ ?_
  refine N_putf C hi dX12_init_286 sh_132 (by omega) fl_X12_63 rfl rfl rfl rfl rfl rfl ?_
  refine N_aload_n C (i := 0) dX12_init_289 rfl rfl ?_
  refine N_iconst C (v := 2) dX12_init_290 rfl ?_
  refine N_newZ C (N := 2) dX12_init_291 sh_151 (by decide) rfl (by decide) (wb_n (by decide) (by decide)) ⟨Nat.le_of_ble_eq_true rfl, Nat.le_of_ble_eq_true rfl⟩ ?_
  refine N_putf C hi dX12_init_293 sh_132 (by omega) fl_X12_66 rfl rfl rfl rfl rfl rfl ?_
  refine N_ret C dX12_init_296 rfl (Nat.le_of_ble_eq_true rfl) (Nat.le_of_ble_eq_true rfl) rfl (wl_done [0, 4, 7, 8, 10, 11, 12, 14, 15, 16, 17, 18, 19, 20, 21, 22, 23, 24, 25] sh_132 (fun c' h1 h2 j => ?_) (fun j hj => ?_) (refs_in (by decide)))
  · simp only [fs_ne h2, fl, Bool.or_assoc, ← Bool.decide_or]
    exact b_eq (by omega)
  · simp only [List.mem_cons, List.not_mem_nil, or_false] at hj
    rcases hj with rfl | rfl | rfl | rfl | rfl | rfl | rfl | rfl | rfl | rfl | rfl | rfl | rfl | rfl | rfl | rfl | rfl | rfl | rfl <;> simp [fs, fl]

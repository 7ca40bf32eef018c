/-! THE CONSTRUCTORS (rows by wip/tools/mkc.py) -/
/-- the ints at the start: none but where the reader's text lies -/
def μs : mM := fun c j => if c = 3 ∧ j = 2 then 13 else 0
theorem mu_n {c : Nat} (h : c ≠ 3) (j : Nat) : μs c j = 0 := if_neg fun z => h z.1
theorem mu_3 {j : Nat} (h : ((fks 4).getD j (0, 0)).1 = 0) : μs 3 j = 0 := if_neg fun z => by
  rw [z.2] at h
  exact absurd h (by decide)
theorem sh_n3 {c : Nat} {k : Nat × Nat} (h : sh c = k) (hk : k ≠ (0, 4)) : c ≠ 3 := by
  rintro rfl
  rw [sh_3] at h
  exact hk h.symm
def Vg (φ : mF) (n : Nat) : Prop := ∀ c j, n ≤ c → φ c j = false
theorem b_eq {b : Bool} {p q : Prop} [Decidable p] [Decidable q] (h : p ↔ q) : (b || decide p) = (b || decide q) := by
  rw [decide_eq_decide.mpr h]
theorem refs_in {ci : Nat} {L : List Nat} (h : ((List.range (fks ci).length).all (fun j => decide (((fks ci).getD j (0, 0)).1 = 0) || decide (j ∈ L))) = true) : ∀ j q, (fks ci)[j]? = some q → q.1 ≠ 0 → j ∈ L := fun j q hq hne => by
  have hl := (List.getElem?_eq_some_iff.mp hq).1
  have h1 := List.all_eq_true.mp h j (List.mem_range.mpr hl)
  have e : (fks ci).getD j (0, 0) = q := by rw [List.getD_eq_getElem?_getD, hq]; rfl
  rw [e, decide_eq_false hne, Bool.false_or] at h1
  exact of_decide_eq_true h1
set_option maxRecDepth 100000 in
theorem dv_ok : ∀ ci, ci < 12 → ∀ j, j < 27 → j < (clq ci).2.2 → defaultValue (clTy ci j) = (if ((fks ci).getD j (0, 0)).1 = 0 then Value.int 0 else .null) := by decide +kernel
theorem new_v {G : mG} {φ : mF} {μ : mM} {n ci : Nat} (hc : ci < 12) (hl : (fks ci).length = (clq ci).2.2) (h27 : (clq ci).2.2 ≤ 27) (hφ : ∀ j, φ n j = false) (hμ : ∀ j, ((fks ci).getD j (0, 0)).1 = 0 → μ n j = 0) : ∀ j, j < (clq ci).2.2 → defaultValue (clTy ci j) = vp_V (flds G φ μ n ci) j := by
  intro j hj
  have hjl : j < (fks ci).length := by rw [hl]; exact hj
  obtain ⟨q, hq⟩ : ∃ q, (fks ci)[j]? = some q := ⟨_, List.getElem?_eq_getElem hjl⟩
  have e : (fks ci).getD j (0, 0) = q := by rw [List.getD_eq_getElem?_getD, hq]; rfl
  rw [dv_ok ci hc j (by omega) hj, e]
  unfold vp_V
  rw [List.getD_eq_getElem?_getD, flds_at hq]
  show _ = fv G φ μ n j q
  have hm := hμ j
  rw [e] at hm
  obtain ⟨a, b⟩ := q
  match a with
  | 0 =>
    show Value.int 0 = .int (μ n j)
    rw [hm rfl]
  | 1 => simp [fv, hφ]
  | a + 2 => simp [fv, hφ]
set_option maxRecDepth 100000 in
set_option maxHeartbeats 4000000 in
theorem i_X10 {G : mG} {φ : mF} (hφ : Vg φ (1)) : CtN G mX10_init (1) (2) φ μs (3) (fl φ (1) 2) μs 1 200 := by
  refine CtN.of (by decide) rfl (by decide) fun E C hi => ?_
  refine N_aload_n C (i := 0) dX10_init_0 rfl rfl ?_
  refine N_obj C dX10_init_1 lk_X10_3 ⟨Nat.le_of_ble_eq_true rfl, Nat.le_of_ble_eq_true rfl⟩ (Nat.le_of_ble_eq_true rfl) ?_
  refine N_aload_n C (i := 0) dX10_init_4 rfl rfl ?_
  refine N_sipush C (v := 200) dX10_init_5 rfl ?_
  refine N_newI C (N := 200) dX10_init_8 sh_2 (by decide) rfl (by decide) (mu_n (sh_n3 sh_2 (by decide))) ⟨Nat.le_of_ble_eq_true rfl, Nat.le_of_ble_eq_true rfl⟩ ?_
  refine N_putf C hi dX10_init_10 sh_1 (by omega) fl_X10_9 rfl rfl rfl rfl rfl rfl ?_
  refine N_ret C dX10_init_13 rfl (Nat.le_of_ble_eq_true rfl) (Nat.le_of_ble_eq_true rfl) rfl (wl_done [0] sh_1 (fun c' h1 h2 j => ?_) (fun j hj => ?_) (refs_in (by decide)))
  · simp only [fs, fl, Bool.or_assoc, ← Bool.decide_or]
    exact b_eq (by omega)
  · simp only [List.mem_cons, List.not_mem_nil, or_false] at hj
    rcases hj with rfl <;> simp [fs, fl]
set_option maxRecDepth 100000 in
set_option maxHeartbeats 4000000 in
theorem i_X4 {G : mG} {φ : mF} {n : Nat} (hn : sh n = (0, 3)) (hφ : Vg φ (n)) : CtN G mX4_init (n) (n + 1) φ μs (n + 4) (fl φ (n) 4) μs 3 32 := by
  have hn3 : n ≠ 3 := sh_n3 hn (by decide)
  refine CtN.of (by decide) rfl (by decide) fun E C hi => ?_
  refine N_aload_n C (i := 0) dX4_init_0 rfl rfl ?_
  refine N_obj C dX4_init_1 lk_X4_3 ⟨Nat.le_of_ble_eq_true rfl, Nat.le_of_ble_eq_true rfl⟩ (Nat.le_of_ble_eq_true rfl) ?_
  refine N_aload_n C (i := 0) dX4_init_4 rfl rfl ?_
  refine N_bipush C (v := 8) dX4_init_5 rfl ?_
  refine N_newI C (N := 8) dX4_init_7 (shd_3_1 hn) (by decide) rfl (by decide) (mu_n (sh_n3 (shd_3_1 hn) (by decide))) ⟨Nat.le_of_ble_eq_true rfl, Nat.le_of_ble_eq_true rfl⟩ ?_
  refine N_putf C hi dX4_init_9 hn (by omega) fl_X4_9 rfl rfl rfl rfl rfl rfl ?_
  refine N_aload_n C (i := 0) dX4_init_12 rfl rfl ?_
  refine N_bipush C (v := 12) dX4_init_13 rfl ?_
  refine N_newI C (N := 12) dX4_init_15 (shd_3_2 hn) (by decide) rfl (by decide) (mu_n (sh_n3 (shd_3_2 hn) (by decide))) ⟨Nat.le_of_ble_eq_true rfl, Nat.le_of_ble_eq_true rfl⟩ ?_
  refine N_putf C hi dX4_init_17 hn (by omega) fl_X4_15 rfl rfl rfl rfl rfl rfl ?_
  refine N_aload_n C (i := 0) dX4_init_20 rfl rfl ?_
  refine N_bipush C (v := 12) dX4_init_21 rfl ?_
  refine N_newI C (N := 12) dX4_init_23 (shd_3_3 hn) (by decide) rfl (by decide) (mu_n (sh_n3 (shd_3_3 hn) (by decide))) ⟨Nat.le_of_ble_eq_true rfl, Nat.le_of_ble_eq_true rfl⟩ ?_
  refine N_putf C hi dX4_init_25 hn (by omega) fl_X4_18 rfl rfl rfl rfl rfl rfl ?_
  refine N_ret C dX4_init_28 rfl (Nat.le_of_ble_eq_true rfl) (Nat.le_of_ble_eq_true rfl) rfl (wl_done [4, 5, 6] hn (fun c' h1 h2 j => ?_) (fun j hj => ?_) (refs_in (by decide)))
  · simp only [fs, fl, Bool.or_assoc, ← Bool.decide_or]
    exact b_eq (by omega)
  · simp only [List.mem_cons, List.not_mem_nil, or_false] at hj
    rcases hj with rfl | rfl | rfl <;> simp [fs, fl]
set_option maxRecDepth 100000 in
set_option maxHeartbeats 4000000 in
theorem i_X0 {G : mG} {φ : mF} {n : Nat} (hn : sh n = (0, 0)) (hφ : Vg φ (n)) : CtN G mX0_init (n) (n + 1) φ μs (n + 5) (fl φ (n) 5) μs 4 236 := by
  have hn3 : n ≠ 3 := sh_n3 hn (by decide)
  refine CtN.of (by decide) rfl (by decide) fun E C hi => ?_
  refine N_aload_n C (i := 0) dX0_init_0 rfl rfl ?_
  refine N_obj C dX0_init_1 lk_X0_3 ⟨Nat.le_of_ble_eq_true rfl, Nat.le_of_ble_eq_true rfl⟩ (Nat.le_of_ble_eq_true rfl) ?_
  refine N_aload_n C (i := 0) dX0_init_4 rfl rfl ?_
  refine N_sipush C (v := 168) dX0_init_5 rfl ?_
  refine N_newI C (N := 168) dX0_init_8 (shd_0_1 hn) (by decide) rfl (by decide) (mu_n (sh_n3 (shd_0_1 hn) (by decide))) ⟨Nat.le_of_ble_eq_true rfl, Nat.le_of_ble_eq_true rfl⟩ ?_
  refine N_putf C hi dX0_init_10 hn (by omega) fl_X0_9 rfl rfl rfl rfl rfl rfl ?_
  refine N_aload_n C (i := 0) dX0_init_13 rfl rfl ?_
  refine N_bipush C (v := 57) dX0_init_14 rfl ?_
  refine N_newI C (N := 57) dX0_init_16 (shd_0_2 hn) (by decide) rfl (by decide) (mu_n (sh_n3 (shd_0_2 hn) (by decide))) ⟨Nat.le_of_ble_eq_true rfl, Nat.le_of_ble_eq_true rfl⟩ ?_
  refine N_putf C hi dX0_init_18 hn (by omega) fl_X0_15 rfl rfl rfl rfl rfl rfl ?_
  refine N_aload_n C (i := 0) dX0_init_21 rfl rfl ?_
  refine N_iconst C (v := 3) dX0_init_22 rfl ?_
  refine N_newI C (N := 3) dX0_init_23 (shd_0_3 hn) (by decide) rfl (by decide) (mu_n (sh_n3 (shd_0_3 hn) (by decide))) ⟨Nat.le_of_ble_eq_true rfl, Nat.le_of_ble_eq_true rfl⟩ ?_
  refine N_putf C hi dX0_init_25 hn (by omega) fl_X0_18 rfl rfl rfl rfl rfl rfl ?_
  refine N_aload_n C (i := 0) dX0_init_28 rfl rfl ?_
  refine N_bipush C (v := 8) dX0_init_29 rfl ?_
  refine N_newI C (N := 8) dX0_init_31 (shd_0_4 hn) (by decide) rfl (by decide) (mu_n (sh_n3 (shd_0_4 hn) (by decide))) ⟨Nat.le_of_ble_eq_true rfl, Nat.le_of_ble_eq_true rfl⟩ ?_
  refine N_putf C hi dX0_init_33 hn (by omega) fl_X0_21 rfl rfl rfl rfl rfl rfl ?_
  refine N_ret C dX0_init_36 rfl (Nat.le_of_ble_eq_true rfl) (Nat.le_of_ble_eq_true rfl) rfl (wl_done [2, 3, 4, 5] hn (fun c' h1 h2 j => ?_) (fun j hj => ?_) (refs_in (by decide)))
  · simp only [fs, fl, Bool.or_assoc, ← Bool.decide_or]
    exact b_eq (by omega)
  · simp only [List.mem_cons, List.not_mem_nil, or_false] at hj
    rcases hj with rfl | rfl | rfl | rfl <;> simp [fs, fl]
set_option maxRecDepth 100000 in
set_option maxHeartbeats 4000000 in
theorem i_X5 {G : mG} {φ : mF} (hφ : Vg φ (3)) : CtN G mX5_init (3) (4) φ μs (14) (fl φ (3) 11) μs 10 281 := by
  refine CtN.of (by decide) rfl (by decide) fun E C hi => ?_
  refine N_aload_n C (i := 0) dX5_init_0 rfl rfl ?_
  refine N_obj C dX5_init_1 lk_X5_3 ⟨Nat.le_of_ble_eq_true rfl, Nat.le_of_ble_eq_true rfl⟩ (Nat.le_of_ble_eq_true rfl) ?_
  refine N_aload_n C (i := 0) dX5_init_4 rfl rfl ?_
  refine N_new C (N := 7) dX5_init_5 sh_4 clok_3 (big_mem 158 rfl rfl) (big_mem 159 rfl rfl) (big_mem 110 rfl rfl) rfl (new_v (by decide) rfl (by decide) (fun j => (by first | exact hφ | (intro c j h; have h9 := hφ c j (by omega); simp only [fs, fl, h9, Bool.false_or, Bool.or_eq_false_iff, decide_eq_false_iff_not] <;> omega) : Vg _ (4)) _ j (Nat.le_refl _)) (fun j hj => by exact mu_n (sh_n3 sh_4 (by decide)) j)) ⟨Nat.le_of_ble_eq_true rfl, Nat.le_of_ble_eq_true rfl⟩ ?_
  refine N_dup C dX5_init_8 rfl ?_
  refine N_iniN C (mc := 3) (ms := 32) dX5_init_9 rfl rfl cal0_X4_init nk_X5_11 ⟨Nat.le_of_ble_eq_true rfl, Nat.le_of_ble_eq_true rfl⟩ ⟨Nat.le_of_ble_eq_true rfl, Nat.le_of_ble_eq_true rfl⟩ (Nat.le_of_ble_eq_true rfl) (i_X4 sh_4 (by first | exact hφ | (intro c j h; have h9 := hφ c j (by omega); simp only [fs, fl, h9, Bool.false_or, Bool.or_eq_false_iff, decide_eq_false_iff_not] <;> omega))) ?_
  refine N_putf C hi dX5_init_12 sh_3 (by omega) fl_X5_12 rfl rfl rfl rfl rfl rfl ?_
  refine N_aload_n C (i := 0) dX5_init_15 rfl rfl ?_
  refine N_new C (N := 6) dX5_init_16 sh_8 clok_0 (big_mem 202 rfl rfl) (big_mem 203 rfl rfl) (big_mem 111 rfl rfl) rfl (new_v (by decide) rfl (by decide) (fun j => (by first | exact hφ | (intro c j h; have h9 := hφ c j (by omega); simp only [fs, fl, h9, Bool.false_or, Bool.or_eq_false_iff, decide_eq_false_iff_not] <;> omega) : Vg _ (8)) _ j (Nat.le_refl _)) (fun j hj => by exact mu_n (sh_n3 sh_8 (by decide)) j)) ⟨Nat.le_of_ble_eq_true rfl, Nat.le_of_ble_eq_true rfl⟩ ?_
  refine N_dup C dX5_init_19 rfl ?_
  refine N_iniN C (mc := 4) (ms := 236) dX5_init_20 rfl rfl cal0_X0_init nk_X5_20 ⟨Nat.le_of_ble_eq_true rfl, Nat.le_of_ble_eq_true rfl⟩ ⟨Nat.le_of_ble_eq_true rfl, Nat.le_of_ble_eq_true rfl⟩ (Nat.le_of_ble_eq_true rfl) (i_X0 sh_8 (by first | exact hφ | (intro c j h; have h9 := hφ c j (by omega); simp only [fs, fl, h9, Bool.false_or, Bool.or_eq_false_iff, decide_eq_false_iff_not] <;> omega))) ?_
  refine N_putf C hi dX5_init_23 sh_3 (by omega) fl_X5_21 rfl rfl rfl rfl rfl rfl ?_
  refine N_aload_n C (i := 0) dX5_init_26 rfl rfl ?_
  refine N_iconst C (v := 0) dX5_init_27 rfl ?_
  refine N_newI C (N := 0) dX5_init_28 sh_13 (by decide) rfl (by decide) (mu_n (sh_n3 sh_13 (by decide))) ⟨Nat.le_of_ble_eq_true rfl, Nat.le_of_ble_eq_true rfl⟩ ?_
  refine N_putv C dX5_init_30 sh_3 (by omega) fl_X5_25 rfl rfl rfl rfl rfl ?_
  refine N_ret C dX5_init_33 rfl (Nat.le_of_ble_eq_true rfl) (Nat.le_of_ble_eq_true rfl) rfl (wl_done [0, 1, 2] sh_3 (fun c' h1 h2 j => ?_) (fun j hj => ?_) (refs_in (by decide)))
  · simp only [fs, fl, Bool.or_assoc, ← Bool.decide_or]
    exact b_eq (by omega)
  · simp only [List.mem_cons, List.not_mem_nil, or_false] at hj
    rcases hj with rfl | rfl | rfl <;> simp [fs, fl]
set_option maxRecDepth 100000 in
set_option maxHeartbeats 4000000 in
theorem i_X7 {G : mG} {φ : mF} {n : Nat} (hn : sh n = (0, 6)) (hφ : Vg φ (n)) : CtN G mX7_init (n) (n + 1) φ μs (n + 3) (fl φ (n) 3) μs 2 128 := by
  have hn3 : n ≠ 3 := sh_n3 hn (by decide)
  refine CtN.of (by decide) rfl (by decide) fun E C hi => ?_
  refine N_aload_n C (i := 0) dX7_init_0 rfl rfl ?_
  refine N_obj C dX7_init_1 lk_X7_3 ⟨Nat.le_of_ble_eq_true rfl, Nat.le_of_ble_eq_true rfl⟩ (Nat.le_of_ble_eq_true rfl) ?_
  refine N_aload_n C (i := 0) dX7_init_4 rfl rfl ?_
  refine N_bipush C (v := 64) dX7_init_5 rfl ?_
  refine N_newI C (N := 64) dX7_init_7 (shd_6_1 hn) (by decide) rfl (by decide) (mu_n (sh_n3 (shd_6_1 hn) (by decide))) ⟨Nat.le_of_ble_eq_true rfl, Nat.le_of_ble_eq_true rfl⟩ ?_
  refine N_putf C hi dX7_init_9 hn (by omega) fl_X7_9 rfl rfl rfl rfl rfl rfl ?_
  refine N_aload_n C (i := 0) dX7_init_12 rfl rfl ?_
  refine N_bipush C (v := 64) dX7_init_13 rfl ?_
  refine N_newI C (N := 64) dX7_init_15 (shd_6_2 hn) (by decide) rfl (by decide) (mu_n (sh_n3 (shd_6_2 hn) (by decide))) ⟨Nat.le_of_ble_eq_true rfl, Nat.le_of_ble_eq_true rfl⟩ ?_
  refine N_putf C hi dX7_init_17 hn (by omega) fl_X7_15 rfl rfl rfl rfl rfl rfl ?_
  refine N_ret C dX7_init_20 rfl (Nat.le_of_ble_eq_true rfl) (Nat.le_of_ble_eq_true rfl) rfl (wl_done [1, 2] hn (fun c' h1 h2 j => ?_) (fun j hj => ?_) (refs_in (by decide)))
  · simp only [fs, fl, Bool.or_assoc, ← Bool.decide_or]
    exact b_eq (by omega)
  · simp only [List.mem_cons, List.not_mem_nil, or_false] at hj
    rcases hj with rfl | rfl <;> simp [fs, fl]
set_option maxRecDepth 100000 in
set_option maxHeartbeats 4000000 in
theorem i_X8 {G : mG} {φ : mF} {n : Nat} (hn : sh n = (0, 7)) (hφ : Vg φ (n)) : CtN G mX8_init (n) (n + 1) φ μs (n + 8) (fl φ (n) 8) μs 7 170 := by
  have hn3 : n ≠ 3 := sh_n3 hn (by decide)
  refine CtN.of (by decide) rfl (by decide) fun E C hi => ?_
  refine N_aload_n C (i := 0) dX8_init_0 rfl rfl ?_
  refine N_obj C dX8_init_1 lk_X8_1 ⟨Nat.le_of_ble_eq_true rfl, Nat.le_of_ble_eq_true rfl⟩ (Nat.le_of_ble_eq_true rfl) ?_
  refine N_aload_n C (i := 0) dX8_init_4 rfl rfl ?_
  refine N_new C (N := 7) dX8_init_5 (shd_7_1 hn) clok_3 (big_mem 266 rfl rfl) (big_mem 159 rfl rfl) (big_mem 110 rfl rfl) rfl (new_v (by decide) rfl (by decide) (fun j => (by first | exact hφ | (intro c j h; have h9 := hφ c j (by omega); simp only [fs, fl, h9, Bool.false_or, Bool.or_eq_false_iff, decide_eq_false_iff_not] <;> omega) : Vg _ (n + 1)) _ j (Nat.le_refl _)) (fun j hj => by exact mu_n (sh_n3 (shd_7_1 hn) (by decide)) j)) ⟨Nat.le_of_ble_eq_true rfl, Nat.le_of_ble_eq_true rfl⟩ ?_
  refine N_dup C dX8_init_8 rfl ?_
  refine N_iniN C (mc := 3) (ms := 32) dX8_init_9 rfl rfl cal0_X4_init nk_X8_9 ⟨Nat.le_of_ble_eq_true rfl, Nat.le_of_ble_eq_true rfl⟩ ⟨Nat.le_of_ble_eq_true rfl, Nat.le_of_ble_eq_true rfl⟩ (Nat.le_of_ble_eq_true rfl) (i_X4 (shd_7_1 hn) (by first | exact hφ | (intro c j h; have h9 := hφ c j (by omega); simp only [fs, fl, h9, Bool.false_or, Bool.or_eq_false_iff, decide_eq_false_iff_not] <;> omega))) ?_
  refine N_putf C hi dX8_init_12 hn (by omega) fl_X8_10 rfl rfl rfl rfl rfl rfl ?_
  refine N_aload_n C (i := 0) dX8_init_15 rfl rfl ?_
  refine N_new C (N := 3) dX8_init_16 (shd_7_5 hn) clok_6 (big_mem 268 rfl rfl) (big_mem 269 rfl rfl) (big_mem 113 rfl rfl) rfl (new_v (by decide) rfl (by decide) (fun j => (by first | exact hφ | (intro c j h; have h9 := hφ c j (by omega); simp only [fs, fl, h9, Bool.false_or, Bool.or_eq_false_iff, decide_eq_false_iff_not] <;> omega) : Vg _ (n + 5)) _ j (Nat.le_refl _)) (fun j hj => by exact mu_n (sh_n3 (shd_7_5 hn) (by decide)) j)) ⟨Nat.le_of_ble_eq_true rfl, Nat.le_of_ble_eq_true rfl⟩ ?_
  refine N_dup C dX8_init_19 rfl ?_
  refine N_iniN C (mc := 2) (ms := 128) dX8_init_20 rfl rfl cal0_X7_init nk_X8_18 ⟨Nat.le_of_ble_eq_true rfl, Nat.le_of_ble_eq_true rfl⟩ ⟨Nat.le_of_ble_eq_true rfl, Nat.le_of_ble_eq_true rfl⟩ (Nat.le_of_ble_eq_true rfl) (i_X7 (shd_7_5 hn) (by first | exact hφ | (intro c j h; have h9 := hφ c j (by omega); simp only [fs, fl, h9, Bool.false_or, Bool.or_eq_false_iff, decide_eq_false_iff_not] <;> omega))) ?_
  refine N_putf C hi dX8_init_23 hn (by omega) fl_X8_19 rfl rfl rfl rfl rfl rfl ?_
  refine N_ret C dX8_init_26 rfl (Nat.le_of_ble_eq_true rfl) (Nat.le_of_ble_eq_true rfl) rfl (wl_done [0, 1] hn (fun c' h1 h2 j => ?_) (fun j hj => ?_) (refs_in (by decide)))
  · simp only [fs, fl, Bool.or_assoc, ← Bool.decide_or]
    exact b_eq (by omega)
  · simp only [List.mem_cons, List.not_mem_nil, or_false] at hj
    rcases hj with rfl | rfl <;> simp [fs, fl]
set_option maxRecDepth 100000 in
set_option maxHeartbeats 4000000 in
theorem i_X2 {G : mG} {φ : mF} (hφ : Vg φ (22)) : CtN G mX2_init (22) (23) φ μs (31) (fl φ (22) 9) μs 8 3842 := by
  refine CtN.of (by decide) rfl (by decide) fun E C hi => ?_
  refine N_aload_n C (i := 0) dX2_init_0 rfl rfl ?_
  refine N_obj C dX2_init_1 lk_X2_3 ⟨Nat.le_of_ble_eq_true rfl, Nat.le_of_ble_eq_true rfl⟩ (Nat.le_of_ble_eq_true rfl) ?_
  refine N_aload_n C (i := 0) dX2_init_4 rfl rfl ?_
  refine N_new C (N := 6) dX2_init_5 sh_23 clok_0 (big_mem 314 rfl rfl) (big_mem 203 rfl rfl) (big_mem 111 rfl rfl) rfl (new_v (by decide) rfl (by decide) (fun j => (by first | exact hφ | (intro c j h; have h9 := hφ c j (by omega); simp only [fs, fl, h9, Bool.false_or, Bool.or_eq_false_iff, decide_eq_false_iff_not] <;> omega) : Vg _ (23)) _ j (Nat.le_refl _)) (fun j hj => by exact mu_n (sh_n3 sh_23 (by decide)) j)) ⟨Nat.le_of_ble_eq_true rfl, Nat.le_of_ble_eq_true rfl⟩ ?_
  refine N_dup C dX2_init_8 rfl ?_
  refine N_iniN C (mc := 4) (ms := 236) dX2_init_9 rfl rfl cal0_X0_init nk_X2_11 ⟨Nat.le_of_ble_eq_true rfl, Nat.le_of_ble_eq_true rfl⟩ ⟨Nat.le_of_ble_eq_true rfl, Nat.le_of_ble_eq_true rfl⟩ (Nat.le_of_ble_eq_true rfl) (i_X0 sh_23 (by first | exact hφ | (intro c j h; have h9 := hφ c j (by omega); simp only [fs, fl, h9, Bool.false_or, Bool.or_eq_false_iff, decide_eq_false_iff_not] <;> omega))) ?_
  refine N_putf C hi dX2_init_12 sh_22 (by omega) fl_X2_12 rfl rfl rfl rfl rfl rfl ?_
  refine N_aload_n C (i := 0) dX2_init_15 rfl rfl ?_
  refine N_sipush C (v := 1200) dX2_init_16 rfl ?_
  refine N_newI C (N := 1200) dX2_init_19 sh_28 (by decide) rfl (by decide) (mu_n (sh_n3 sh_28 (by decide))) ⟨Nat.le_of_ble_eq_true rfl, Nat.le_of_ble_eq_true rfl⟩ ?_
  refine N_putf C hi dX2_init_21 sh_22 (by omega) fl_X2_18 rfl rfl rfl rfl rfl rfl ?_
  refine N_aload_n C (i := 0) dX2_init_24 rfl rfl ?_
  refine N_sipush C (v := 1200) dX2_init_25 rfl ?_
  refine N_newI C (N := 1200) dX2_init_28 sh_29 (by decide) rfl (by decide) (mu_n (sh_n3 sh_29 (by decide))) ⟨Nat.le_of_ble_eq_true rfl, Nat.le_of_ble_eq_true rfl⟩ ?_
  refine N_putf C hi dX2_init_30 sh_22 (by omega) fl_X2_22 rfl rfl rfl rfl rfl rfl ?_
  refine N_aload_n C (i := 0) dX2_init_33 rfl rfl ?_
  refine N_sipush C (v := 1200) dX2_init_34 rfl ?_
  refine N_newI C (N := 1200) dX2_init_37 sh_30 (by decide) rfl (by decide) (mu_n (sh_n3 sh_30 (by decide))) ⟨Nat.le_of_ble_eq_true rfl, Nat.le_of_ble_eq_true rfl⟩ ?_
  refine N_putf C hi dX2_init_39 sh_22 (by omega) fl_X2_25 rfl rfl rfl rfl rfl rfl ?_
  refine N_ret C dX2_init_42 rfl (Nat.le_of_ble_eq_true rfl) (Nat.le_of_ble_eq_true rfl) rfl (wl_done [0, 1, 2, 3] sh_22 (fun c' h1 h2 j => ?_) (fun j hj => ?_) (refs_in (by decide)))
  · simp only [fs, fl, Bool.or_assoc, ← Bool.decide_or]
    exact b_eq (by omega)
  · simp only [List.mem_cons, List.not_mem_nil, or_false] at hj
    rcases hj with rfl | rfl | rfl | rfl <;> simp [fs, fl]
set_option maxRecDepth 100000 in
set_option maxHeartbeats 4000000 in
theorem i_X6 {G : mG} {φ : mF} (hφ : Vg φ (31)) : CtN G mX6_init (31) (32) φ μs (36) (fl φ (31) 5) μs 4 3612 := by
  refine CtN.of (by decide) rfl (by decide) fun E C hi => ?_
  refine N_aload_n C (i := 0) dX6_init_0 rfl rfl ?_
  refine N_obj C dX6_init_1 lk_X6_3 ⟨Nat.le_of_ble_eq_true rfl, Nat.le_of_ble_eq_true rfl⟩ (Nat.le_of_ble_eq_true rfl) ?_
  refine N_aload_n C (i := 0) dX6_init_4 rfl rfl ?_
  refine N_sipush C (v := 1200) dX6_init_5 rfl ?_
  refine N_newI C (N := 1200) dX6_init_8 sh_32 (by decide) rfl (by decide) (mu_n (sh_n3 sh_32 (by decide))) ⟨Nat.le_of_ble_eq_true rfl, Nat.le_of_ble_eq_true rfl⟩ ?_
  refine N_putf C hi dX6_init_10 sh_31 (by omega) fl_X6_9 rfl rfl rfl rfl rfl rfl ?_
  refine N_aload_n C (i := 0) dX6_init_13 rfl rfl ?_
  refine N_sipush C (v := 1200) dX6_init_14 rfl ?_
  refine N_newI C (N := 1200) dX6_init_17 sh_33 (by decide) rfl (by decide) (mu_n (sh_n3 sh_33 (by decide))) ⟨Nat.le_of_ble_eq_true rfl, Nat.le_of_ble_eq_true rfl⟩ ?_
  refine N_putf C hi dX6_init_19 sh_31 (by omega) fl_X6_15 rfl rfl rfl rfl rfl rfl ?_
  refine N_aload_n C (i := 0) dX6_init_22 rfl rfl ?_
  refine N_sipush C (v := 1200) dX6_init_23 rfl ?_
  refine N_newI C (N := 1200) dX6_init_26 sh_34 (by decide) rfl (by decide) (mu_n (sh_n3 sh_34 (by decide))) ⟨Nat.le_of_ble_eq_true rfl, Nat.le_of_ble_eq_true rfl⟩ ?_
  refine N_putf C hi dX6_init_28 sh_31 (by omega) fl_X6_18 rfl rfl rfl rfl rfl rfl ?_
  refine N_aload_n C (i := 0) dX6_init_31 rfl rfl ?_
  refine N_bipush C (v := 12) dX6_init_32 rfl ?_
  refine N_newI C (N := 12) dX6_init_34 sh_35 (by decide) rfl (by decide) (mu_n (sh_n3 sh_35 (by decide))) ⟨Nat.le_of_ble_eq_true rfl, Nat.le_of_ble_eq_true rfl⟩ ?_
  refine N_putf C hi dX6_init_36 sh_31 (by omega) fl_X6_21 rfl rfl rfl rfl rfl rfl ?_
  refine N_ret C dX6_init_39 rfl (Nat.le_of_ble_eq_true rfl) (Nat.le_of_ble_eq_true rfl) rfl (wl_done [0, 1, 2, 4] sh_31 (fun c' h1 h2 j => ?_) (fun j hj => ?_) (refs_in (by decide)))
  · simp only [fs, fl, Bool.or_assoc, ← Bool.decide_or]
    exact b_eq (by omega)
  · simp only [List.mem_cons, List.not_mem_nil, or_false] at hj
    rcases hj with rfl | rfl | rfl | rfl <;> simp [fs, fl]
set_option maxRecDepth 100000 in
set_option maxHeartbeats 4000000 in
theorem i_X3 {G : mG} {φ : mF} (hφ : Vg φ (36)) : CtN G mX3_init (36) (37) φ μs (42) (fl φ (36) 6) μs 5 1395 := by
  refine CtN.of (by decide) rfl (by decide) fun E C hi => ?_
  refine N_aload_n C (i := 0) dX3_init_0 rfl rfl ?_
  refine N_obj C dX3_init_1 lk_X3_3 ⟨Nat.le_of_ble_eq_true rfl, Nat.le_of_ble_eq_true rfl⟩ (Nat.le_of_ble_eq_true rfl) ?_
  refine N_aload_n C (i := 0) dX3_init_4 rfl rfl ?_
  refine N_new C (N := 3) dX3_init_5 sh_37 clok_6 (big_mem 372 rfl rfl) (big_mem 269 rfl rfl) (big_mem 113 rfl rfl) rfl (new_v (by decide) rfl (by decide) (fun j => (by first | exact hφ | (intro c j h; have h9 := hφ c j (by omega); simp only [fs, fl, h9, Bool.false_or, Bool.or_eq_false_iff, decide_eq_false_iff_not] <;> omega) : Vg _ (37)) _ j (Nat.le_refl _)) (fun j hj => by exact mu_n (sh_n3 sh_37 (by decide)) j)) ⟨Nat.le_of_ble_eq_true rfl, Nat.le_of_ble_eq_true rfl⟩ ?_
  refine N_dup C dX3_init_8 rfl ?_
  refine N_iniN C (mc := 2) (ms := 128) dX3_init_9 rfl rfl cal0_X7_init nk_X3_11 ⟨Nat.le_of_ble_eq_true rfl, Nat.le_of_ble_eq_true rfl⟩ ⟨Nat.le_of_ble_eq_true rfl, Nat.le_of_ble_eq_true rfl⟩ (Nat.le_of_ble_eq_true rfl) (i_X7 sh_37 (by first | exact hφ | (intro c j h; have h9 := hφ c j (by omega); simp only [fs, fl, h9, Bool.false_or, Bool.or_eq_false_iff, decide_eq_false_iff_not] <;> omega))) ?_
  refine N_putf C hi dX3_init_12 sh_36 (by omega) fl_X3_12 rfl rfl rfl rfl rfl rfl ?_
  refine N_aload_n C (i := 0) dX3_init_15 rfl rfl ?_
  refine N_bipush C (v := 64) dX3_init_16 rfl ?_
  refine N_newI C (N := 64) dX3_init_18 sh_40 (by decide) rfl (by decide) (mu_n (sh_n3 sh_40 (by decide))) ⟨Nat.le_of_ble_eq_true rfl, Nat.le_of_ble_eq_true rfl⟩ ?_
  refine N_putf C hi dX3_init_20 sh_36 (by omega) fl_X3_18 rfl rfl rfl rfl rfl rfl ?_
  refine N_aload_n C (i := 0) dX3_init_23 rfl rfl ?_
  refine N_sipush C (v := 1200) dX3_init_24 rfl ?_
  refine N_newZ C (N := 1200) dX3_init_27 sh_41 (by decide) rfl (by decide) (mu_n (sh_n3 sh_41 (by decide))) ⟨Nat.le_of_ble_eq_true rfl, Nat.le_of_ble_eq_true rfl⟩ ?_
  refine N_putf C hi dX3_init_29 sh_36 (by omega) fl_X3_22 rfl rfl rfl rfl rfl rfl ?_
  refine N_ret C dX3_init_32 rfl (Nat.le_of_ble_eq_true rfl) (Nat.le_of_ble_eq_true rfl) rfl (wl_done [0, 1, 2] sh_36 (fun c' h1 h2 j => ?_) (fun j hj => ?_) (refs_in (by decide)))
  · simp only [fs, fl, Bool.or_assoc, ← Bool.decide_or]
    exact b_eq (by omega)
  · simp only [List.mem_cons, List.not_mem_nil, or_false] at hj
    rcases hj with rfl | rfl | rfl <;> simp [fs, fl]
set_option maxRecDepth 100000 in
set_option maxHeartbeats 4000000 in
theorem i_X9 {G : mG} {φ : mF} (hφ : Vg φ (42)) : CtN G mX9_init (42) (43) φ μs (50) (fl φ (42) 8) μs 7 354 := by
  refine CtN.of (by decide) rfl (by decide) fun E C hi => ?_
  refine N_aload_n C (i := 0) dX9_init_0 rfl rfl ?_
  refine N_obj C dX9_init_1 lk_X9_3 ⟨Nat.le_of_ble_eq_true rfl, Nat.le_of_ble_eq_true rfl⟩ (Nat.le_of_ble_eq_true rfl) ?_
  refine N_aload_n C (i := 0) dX9_init_4 rfl rfl ?_
  refine N_bipush C (v := 56) dX9_init_5 rfl ?_
  refine N_newI C (N := 56) dX9_init_7 sh_43 (by decide) rfl (by decide) (mu_n (sh_n3 sh_43 (by decide))) ⟨Nat.le_of_ble_eq_true rfl, Nat.le_of_ble_eq_true rfl⟩ ?_
  refine N_putf C hi dX9_init_9 sh_42 (by omega) fl_X9_9 rfl rfl rfl rfl rfl rfl ?_
  refine N_aload_n C (i := 0) dX9_init_12 rfl rfl ?_
  refine N_bipush C (v := 56) dX9_init_13 rfl ?_
  refine N_newI C (N := 56) dX9_init_15 sh_44 (by decide) rfl (by decide) (mu_n (sh_n3 sh_44 (by decide))) ⟨Nat.le_of_ble_eq_true rfl, Nat.le_of_ble_eq_true rfl⟩ ?_
  refine N_putf C hi dX9_init_17 sh_42 (by omega) fl_X9_15 rfl rfl rfl rfl rfl rfl ?_
  refine N_aload_n C (i := 0) dX9_init_20 rfl rfl ?_
  refine N_new C (N := 6) dX9_init_21 sh_45 clok_0 (big_mem 391 rfl rfl) (big_mem 203 rfl rfl) (big_mem 111 rfl rfl) rfl (new_v (by decide) rfl (by decide) (fun j => (by first | exact hφ | (intro c j h; have h9 := hφ c j (by omega); simp only [fs, fl, h9, Bool.false_or, Bool.or_eq_false_iff, decide_eq_false_iff_not] <;> omega) : Vg _ (45)) _ j (Nat.le_refl _)) (fun j hj => by exact mu_n (sh_n3 sh_45 (by decide)) j)) ⟨Nat.le_of_ble_eq_true rfl, Nat.le_of_ble_eq_true rfl⟩ ?_
  refine N_dup C dX9_init_24 rfl ?_
  refine N_iniN C (mc := 4) (ms := 236) dX9_init_25 rfl rfl cal0_X0_init nk_X9_20 ⟨Nat.le_of_ble_eq_true rfl, Nat.le_of_ble_eq_true rfl⟩ ⟨Nat.le_of_ble_eq_true rfl, Nat.le_of_ble_eq_true rfl⟩ (Nat.le_of_ble_eq_true rfl) (i_X0 sh_45 (by first | exact hφ | (intro c j h; have h9 := hφ c j (by omega); simp only [fs, fl, h9, Bool.false_or, Bool.or_eq_false_iff, decide_eq_false_iff_not] <;> omega))) ?_
  refine N_putf C hi dX9_init_28 sh_42 (by omega) fl_X9_21 rfl rfl rfl rfl rfl rfl ?_
  refine N_ret C dX9_init_31 rfl (Nat.le_of_ble_eq_true rfl) (Nat.le_of_ble_eq_true rfl) rfl (wl_done [0, 1, 2] sh_42 (fun c' h1 h2 j => ?_) (fun j hj => ?_) (refs_in (by decide)))
  · simp only [fs, fl, Bool.or_assoc, ← Bool.decide_or]
    exact b_eq (by omega)
  · simp only [List.mem_cons, List.not_mem_nil, or_false] at hj
    rcases hj with rfl | rfl | rfl <;> simp [fs, fl]

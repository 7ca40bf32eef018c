/-! THE LAW'S LOOP (rows by wip/tools/mkw.py) -/
theorem Mr.up {σ : Sg} {μ μ' : mM} (h : Mr σ μ) (F : ∀ c, 132 ≤ c → μ' c = μ c) : Mr σ μ' := by
  obtain ⟨a, b, c, d⟩ := h
  have e := F 132 (by decide)
  exact ⟨a.of (by rw [e]) (F 133 (by decide)) (F 134 (by decide)), b.of (F 135 (by decide)) (by rw [e]) (F 140 (by decide)) (F 141 (by decide)) (F 142 (by decide)), c.of (by rw [e]) (F 149 (by decide)), d.of (F 150 (by decide)) (F 151 (by decide))⟩
theorem KM_lt {c : Nat} (h : c < 132) : c ∉ KM := by
  simp only [KM, List.mem_cons, List.not_mem_nil, or_false]
  omega
theorem Cr.up {σ : Sg} {μ μ' : mM} (h : Cr σ μ) (F : Fr KM μ μ') : Cr σ μ' := by
  obtain ⟨a, b, c, d, e⟩ := h
  have f : ∀ c, c < 132 → μ' c = μ c := fun c hc => F c (KM_lt hc)
  exact ⟨a.of (f 1 (by decide)) (f 2 (by decide)), b.of (fun c h1 h2 => f c (by omega)), c.of (by rw [f 10 (by decide)]) (by rw [f 25 (by decide)]) (by rw [f 47 (by decide)]), d.of (f 0 (by decide)) (fun c h1 h2 => f c (by omega)), e.of (fun c h1 h2 => f c h2)⟩
theorem ok1_levels {σ : Sg} (ok : SgOk σ) (x : Int32) : SgOk (o_levels σ x).2 := by
  unfold o_levels
  split <;> exact ok
theorem ok1_cell {σ : Sg} (ok : SgOk σ) (x y : Int32) : SgOk (o_cell σ x y).2 := by
  unfold o_cell
  split <;> exact ok
theorem ok1_open {σ : Sg} (ok : SgOk σ) : SgOk (o_open σ).2 := by
  unfold o_open
  split <;> exact ok
theorem ok1_openMix {σ : Sg} (ok : SgOk σ) (x : Int32) : SgOk (o_openMix σ x).2 := by
  unfold o_openMix
  split <;> exact ok
theorem ok1_gain {σ : Sg} (ok : SgOk σ) (x : Int32) : SgOk (o_gain σ x).2 := by
  unfold o_gain
  split <;> exact ok
theorem ok1_lawful {σ : Sg} (ok : SgOk σ) (x : Int32) : SgOk (o_lawful σ x).2 := by
  unfold o_lawful
  split <;> exact ok
theorem ok1_hope {σ : Sg} (ok : SgOk σ) (x : Int32) : SgOk (o_hope σ x).2 := by
  unfold o_hope
  split <;> exact ok
theorem ok1_least {σ : Sg} (ok : SgOk σ) : SgOk (o_least σ).2 := by
  unfold o_least
  split <;> exact ok
theorem ok1_count {σ : Sg} (ok : SgOk σ) (x : Int32) : SgOk (o_count σ x).2 := by
  unfold o_count
  split <;> exact ok
theorem ok1_guilty {σ : Sg} (ok : SgOk σ) (x y : Int32) : SgOk (o_guilty σ x y).2 := by
  unfold o_guilty
  split
  · exact ok
  · split
    · exact ok
    · split <;> exact ok
theorem ok1_ask {σ : Sg} (ok : SgOk σ) (x : Int32) : SgOk (o_ask σ x).2 := by
  unfold o_ask
  split
  · exact ok
  · split <;> exact ok
theorem lg_self (x : Int64) : lg_cmp x x = 0 := by
  simp [lg_cmp]
/-- the script, as the law's frame has it -/
def Sc (G : mG) (E : mE) (b L : Nat) (xs : Nat → Int32) : Prop := va_X b L xs E.2.2.2.1 E.2.2.2.1.heap ∧ b < E.2.2.2.1.heap.size ∧ gb G = E.2.2.2.1.heap.size ∧ L ≤ 3072
theorem L_scr {G : mG} {M : mMt} {E : mE} {B : mB} {μ : mM} {pc : Nat} {lv : List (Nat × Value)} {st : List Value} {b L : Nat} {xs : Nat → Int32} (C : Cx G M E) (S : Sc G E b L xs) {i : Int32} (hin : vp_in i L) (hd : decode M.2.1 pc = .ok (.iaload, 1)) (k : Wm G M E B μ (pc + 1) lv (.int (xs i.toNatClampNeg) :: st)) : Wm G M E B μ pc lv (.int i :: .ref b :: st) :=
  fun H locs ls hP hS hl => va_sld C.1 C.2.1 S.1 S.2.1 (A := gA G) (by show ¬ gb G ≤ b; rw [S.2.2.1]; exact Nat.not_le.mpr S.2.1) hS hin hd (k H locs ls hP hS hl)
theorem L_scl {G : mG} {M : mMt} {E : mE} {B : mB} {μ : mM} {pc : Nat} {lv : List (Nat × Value)} {st : List Value} {b L : Nat} {xs : Nat → Int32} (C : Cx G M E) (S : Sc G E b L xs) (hd : decode M.2.1 pc = .ok (.arraylength, 1)) (k : Wm G M E B μ (pc + 1) lv (.int (nI L) :: st)) : Wm G M E B μ pc lv (.ref b :: st) :=
  fun H locs ls hP hS hl => va_slen C.1 C.2.1 S.1 S.2.1 (A := gA G) (by show ¬ gb G ≤ b; rw [S.2.2.1]; exact Nat.not_le.mpr S.2.1) hS hd (k H locs ls hP hS hl)
theorem sc_in {i k L : Nat} (h : i + k < L) (hL : L ≤ 3072) : vp_in (nI i + nI k) L := by
  rw [nI_add]
  exact vp_in_nI h (by omega)
/-- the law's own room: what the two objects took -/
abbrev lB (Q : State → Prop) : mB := (room_1, 152, 30284, Q)
set_option maxRecDepth 100000 in
set_option maxHeartbeats 4000000 in
theorem cs_0 {G : mG} {E : mE} {Q : State → Prop} {b L : Nat} {xs : Nat → Int32} {μ : mM} {σ : Sg} {i : Nat} (C : Cx G mL E) (S : Sc G E b L xs) (hi : i + 6 ≤ L) (h : SgOk σ ∧ Cr σ μ ∧ Mr σ μ) (kk : ∀ σ' μ', SgOk σ' ∧ Cr σ' μ' ∧ Mr σ' μ' → Wm G mL E (lB Q) μ' 876 [(0, .ref b), (1, .ref (gb G + 0)), (2, .ref (gb G + 132)), (3, .int (nI i))] []) : Wm G mL E (lB Q) μ 172 [(0, .ref b), (1, .ref (gb G + 0)), (2, .ref (gb G + 132)), (3, .int (nI i))] [] := by
  obtain ⟨ok, hc, hm⟩ := h
  refine L_aload_n C (i := 1) dL_law_172 rfl rfl ?_
  refine L_aload_n C (i := 0) dL_law_173 rfl rfl ?_
  refine L_iload_n C (i := 3) dL_law_174 rfl rfl ?_
  refine L_iconst C (v := 1) dL_law_175 rfl ?_
  refine L_iadd C dL_law_176 ?_
  refine L_scr C S (sc_in (k := 1) (by omega) S.2.2.2) dL_law_177 ?_
  refine L_aload_n C (i := 0) dL_law_178 rfl rfl ?_
  refine L_iload_n C (i := 3) dL_law_179 rfl rfl ?_
  refine L_iconst C (v := 2) dL_law_180 rfl ?_
  refine L_iadd C dL_law_181 ?_
  refine L_scr C S (sc_in (k := 2) (by omega) S.2.2.2) dL_law_182 ?_
  refine L_aload_n C (i := 0) dL_law_183 rfl rfl ?_
  refine L_iload_n C (i := 3) dL_law_184 rfl rfl ?_
  refine L_iconst C (v := 3) dL_law_185 rfl ?_
  refine L_iadd C dL_law_186 ?_
  refine L_scr C S (sc_in (k := 3) (by omega) S.2.2.2) dL_law_187 ?_
  refine L_aload_n C (i := 0) dL_law_188 rfl rfl ?_
  refine L_iload_n C (i := 3) dL_law_189 rfl rfl ?_
  refine L_iconst C (v := 4) dL_law_190 rfl ?_
  refine L_iadd C dL_law_191 ?_
  refine L_scr C S (sc_in (k := 4) (by omega) S.2.2.2) dL_law_192 ?_
  refine L_aload_n C (i := 0) dL_law_193 rfl rfl ?_
  refine L_iload_n C (i := 3) dL_law_194 rfl rfl ?_
  refine L_iconst C (v := 5) dL_law_195 rfl ?_
  refine L_iadd C dL_law_196 ?_
  refine L_scr C S (sc_in (k := 5) (by omega) S.2.2.2) dL_law_197 ?_
  refine L_invV5i C dL_law_198 sh_0 cal_X11_feed lk_L_13 ⟨Nat.le_of_ble_eq_true rfl, Nat.le_of_ble_eq_true rfl⟩ ⟨Nat.le_of_ble_eq_true rfl, Nat.le_of_ble_eq_true rfl⟩ (Nat.le_of_ble_eq_true rfl) (x_feed ok hc (xs (nI i + 1).toNatClampNeg) (xs (nI i + 2).toNatClampNeg) (xs (nI i + 3).toNatClampNeg) (xs (nI i + 4).toNatClampNeg) (xs (nI i + 5).toNatClampNeg) _ (fun μ1 F1 c1 => ?_))
  refine L_aload_n C (i := 2) dL_law_201 rfl rfl ?_
  refine L_aload_n C (i := 0) dL_law_202 rfl rfl ?_
  refine L_iload_n C (i := 3) dL_law_203 rfl rfl ?_
  refine L_iconst C (v := 1) dL_law_204 rfl ?_
  refine L_iadd C dL_law_205 ?_
  refine L_scr C S (sc_in (k := 1) (by omega) S.2.2.2) dL_law_206 ?_
  refine L_aload_n C (i := 0) dL_law_207 rfl rfl ?_
  refine L_iload_n C (i := 3) dL_law_208 rfl rfl ?_
  refine L_iconst C (v := 2) dL_law_209 rfl ?_
  refine L_iadd C dL_law_210 ?_
  refine L_scr C S (sc_in (k := 2) (by omega) S.2.2.2) dL_law_211 ?_
  refine L_aload_n C (i := 0) dL_law_212 rfl rfl ?_
  refine L_iload_n C (i := 3) dL_law_213 rfl rfl ?_
  refine L_iconst C (v := 3) dL_law_214 rfl ?_
  refine L_iadd C dL_law_215 ?_
  refine L_scr C S (sc_in (k := 3) (by omega) S.2.2.2) dL_law_216 ?_
  refine L_aload_n C (i := 0) dL_law_217 rfl rfl ?_
  refine L_iload_n C (i := 3) dL_law_218 rfl rfl ?_
  refine L_iconst C (v := 4) dL_law_219 rfl ?_
  refine L_iadd C dL_law_220 ?_
  refine L_scr C S (sc_in (k := 4) (by omega) S.2.2.2) dL_law_221 ?_
  refine L_aload_n C (i := 0) dL_law_222 rfl rfl ?_
  refine L_iload_n C (i := 3) dL_law_223 rfl rfl ?_
  refine L_iconst C (v := 5) dL_law_224 rfl ?_
  refine L_iadd C dL_law_225 ?_
  refine L_scr C S (sc_in (k := 5) (by omega) S.2.2.2) dL_law_226 ?_
  refine L_invV5i C dL_law_227 sh_132 cal_X12_feed lk_L_17 ⟨Nat.le_of_ble_eq_true rfl, Nat.le_of_ble_eq_true rfl⟩ ⟨Nat.le_of_ble_eq_true rfl, Nat.le_of_ble_eq_true rfl⟩ (Nat.le_of_ble_eq_true rfl) (m_feed ok (hm.up F1) (xs (nI i + 1).toNatClampNeg) (xs (nI i + 2).toNatClampNeg) (xs (nI i + 3).toNatClampNeg) (xs (nI i + 4).toNatClampNeg) (xs (nI i + 5).toNatClampNeg) _ (fun μ2 F2 m2 => ?_))
  exact L_icmp_eq C (tgt := 876) dL_law_230 rfl (fun _ => kk _ μ2 ⟨ok_feed ok (xs (nI i + 1).toNatClampNeg) (xs (nI i + 2).toNatClampNeg) (xs (nI i + 3).toNatClampNeg) (xs (nI i + 4).toNatClampNeg) (xs (nI i + 5).toNatClampNeg), c1.up F2, m2⟩) (fun p => absurd rfl p)
set_option maxRecDepth 100000 in
set_option maxHeartbeats 4000000 in
theorem cs_1 {G : mG} {E : mE} {Q : State → Prop} {b L : Nat} {xs : Nat → Int32} {μ : mM} {σ : Sg} {i : Nat} (C : Cx G mL E) (S : Sc G E b L xs) (hi : i + 6 ≤ L) (h : SgOk σ ∧ Cr σ μ ∧ Mr σ μ) (kk : ∀ σ' μ', SgOk σ' ∧ Cr σ' μ' ∧ Mr σ' μ' → Wm G mL E (lB Q) μ' 876 [(0, .ref b), (1, .ref (gb G + 0)), (2, .ref (gb G + 132)), (3, .int (nI i))] []) : Wm G mL E (lB Q) μ 235 [(0, .ref b), (1, .ref (gb G + 0)), (2, .ref (gb G + 132)), (3, .int (nI i))] [] := by
  obtain ⟨ok, hc, hm⟩ := h
  refine L_aload_n C (i := 1) dL_law_235 rfl rfl ?_
  refine L_aload_n C (i := 0) dL_law_236 rfl rfl ?_
  refine L_iload_n C (i := 3) dL_law_237 rfl rfl ?_
  refine L_iconst C (v := 1) dL_law_238 rfl ?_
  refine L_iadd C dL_law_239 ?_
  refine L_scr C S (sc_in (k := 1) (by omega) S.2.2.2) dL_law_240 ?_
  refine L_invV1i C dL_law_241 sh_0 cal_X11_end lk_L_18 ⟨Nat.le_of_ble_eq_true rfl, Nat.le_of_ble_eq_true rfl⟩ ⟨Nat.le_of_ble_eq_true rfl, Nat.le_of_ble_eq_true rfl⟩ (Nat.le_of_ble_eq_true rfl) (x_end ok hc (xs (nI i + 1).toNatClampNeg) _ (fun μ1 F1 c1 => ?_))
  refine L_aload_n C (i := 2) dL_law_244 rfl rfl ?_
  refine L_aload_n C (i := 0) dL_law_245 rfl rfl ?_
  refine L_iload_n C (i := 3) dL_law_246 rfl rfl ?_
  refine L_iconst C (v := 1) dL_law_247 rfl ?_
  refine L_iadd C dL_law_248 ?_
  refine L_scr C S (sc_in (k := 1) (by omega) S.2.2.2) dL_law_249 ?_
  refine L_invV1i C dL_law_250 sh_132 cal_X12_end lk_L_22 ⟨Nat.le_of_ble_eq_true rfl, Nat.le_of_ble_eq_true rfl⟩ ⟨Nat.le_of_ble_eq_true rfl, Nat.le_of_ble_eq_true rfl⟩ (Nat.le_of_ble_eq_true rfl) (m_end ok (hm.up F1) (xs (nI i + 1).toNatClampNeg) _ (fun μ2 F2 m2 => ?_))
  exact L_icmp_eq C (tgt := 876) dL_law_253 rfl (fun _ => kk _ μ2 ⟨ok_end ok (xs (nI i + 1).toNatClampNeg), c1.up F2, m2⟩) (fun p => absurd rfl p)
set_option maxRecDepth 100000 in
set_option maxHeartbeats 4000000 in
theorem cs_2 {G : mG} {E : mE} {Q : State → Prop} {b L : Nat} {xs : Nat → Int32} {μ : mM} {σ : Sg} {i : Nat} (C : Cx G mL E) (S : Sc G E b L xs) (hi : i + 6 ≤ L) (h : SgOk σ ∧ Cr σ μ ∧ Mr σ μ) (kk : ∀ σ' μ', SgOk σ' ∧ Cr σ' μ' ∧ Mr σ' μ' → Wm G mL E (lB Q) μ' 876 [(0, .ref b), (1, .ref (gb G + 0)), (2, .ref (gb G + 132)), (3, .int (nI i))] []) : Wm G mL E (lB Q) μ 258 [(0, .ref b), (1, .ref (gb G + 0)), (2, .ref (gb G + 132)), (3, .int (nI i))] [] := by
  obtain ⟨ok, hc, hm⟩ := h
  refine L_aload_n C (i := 1) dL_law_258 rfl rfl ?_
  refine L_invV0i C dL_law_259 sh_0 cal_X11_plan lk_L_23 ⟨Nat.le_of_ble_eq_true rfl, Nat.le_of_ble_eq_true rfl⟩ ⟨Nat.le_of_ble_eq_true rfl, Nat.le_of_ble_eq_true rfl⟩ (Nat.le_of_ble_eq_true rfl) (x_plan ok hc  _ (fun μ1 F1 c1 => ?_))
  refine L_aload_n C (i := 2) dL_law_262 rfl rfl ?_
  refine L_invV0i C dL_law_263 sh_132 cal_X12_plan lk_L_27 ⟨Nat.le_of_ble_eq_true rfl, Nat.le_of_ble_eq_true rfl⟩ ⟨Nat.le_of_ble_eq_true rfl, Nat.le_of_ble_eq_true rfl⟩ (Nat.le_of_ble_eq_true rfl) (m_plan ok (hm.up F1)  _ (fun μ2 F2 m2 => ?_))
  exact L_icmp_eq C (tgt := 876) dL_law_266 rfl (fun _ => kk _ μ2 ⟨ok_plan ok, c1.up F2, m2⟩) (fun p => absurd rfl p)
set_option maxRecDepth 100000 in
set_option maxHeartbeats 4000000 in
theorem cs_3 {G : mG} {E : mE} {Q : State → Prop} {b L : Nat} {xs : Nat → Int32} {μ : mM} {σ : Sg} {i : Nat} (C : Cx G mL E) (S : Sc G E b L xs) (hi : i + 6 ≤ L) (h : SgOk σ ∧ Cr σ μ ∧ Mr σ μ) (kk : ∀ σ' μ', SgOk σ' ∧ Cr σ' μ' ∧ Mr σ' μ' → Wm G mL E (lB Q) μ' 876 [(0, .ref b), (1, .ref (gb G + 0)), (2, .ref (gb G + 132)), (3, .int (nI i))] []) : Wm G mL E (lB Q) μ 271 [(0, .ref b), (1, .ref (gb G + 0)), (2, .ref (gb G + 132)), (3, .int (nI i))] [] := by
  obtain ⟨ok, hc, hm⟩ := h
  refine L_aload_n C (i := 1) dL_law_271 rfl rfl ?_
  refine L_aload_n C (i := 0) dL_law_272 rfl rfl ?_
  refine L_iload_n C (i := 3) dL_law_273 rfl rfl ?_
  refine L_iconst C (v := 1) dL_law_274 rfl ?_
  refine L_iadd C dL_law_275 ?_
  refine L_scr C S (sc_in (k := 1) (by omega) S.2.2.2) dL_law_276 ?_
  refine L_invV1i C dL_law_277 sh_0 cal_X11_levels lk_L_28 ⟨Nat.le_of_ble_eq_true rfl, Nat.le_of_ble_eq_true rfl⟩ ⟨Nat.le_of_ble_eq_true rfl, Nat.le_of_ble_eq_true rfl⟩ (Nat.le_of_ble_eq_true rfl) (x_levels ok hc (xs (nI i + 1).toNatClampNeg) _ (fun μ1 F1 c1 => ?_))
  refine L_aload_n C (i := 2) dL_law_280 rfl rfl ?_
  refine L_aload_n C (i := 0) dL_law_281 rfl rfl ?_
  refine L_iload_n C (i := 3) dL_law_282 rfl rfl ?_
  refine L_iconst C (v := 1) dL_law_283 rfl ?_
  refine L_iadd C dL_law_284 ?_
  refine L_scr C S (sc_in (k := 1) (by omega) S.2.2.2) dL_law_285 ?_
  refine L_invV1i C dL_law_286 sh_132 cal_X12_levels lk_L_31 ⟨Nat.le_of_ble_eq_true rfl, Nat.le_of_ble_eq_true rfl⟩ ⟨Nat.le_of_ble_eq_true rfl, Nat.le_of_ble_eq_true rfl⟩ (Nat.le_of_ble_eq_true rfl) (m_levels ok (hm.up F1) (xs (nI i + 1).toNatClampNeg) _ (fun μ2 F2 m2 => ?_))
  exact L_icmp_eq C (tgt := 876) dL_law_289 rfl (fun _ => kk _ μ2 ⟨ok1_levels ok (xs (nI i + 1).toNatClampNeg), c1.up F2, m2⟩) (fun p => absurd rfl p)
set_option maxRecDepth 100000 in
set_option maxHeartbeats 4000000 in
theorem cs_4 {G : mG} {E : mE} {Q : State → Prop} {b L : Nat} {xs : Nat → Int32} {μ : mM} {σ : Sg} {i : Nat} (C : Cx G mL E) (S : Sc G E b L xs) (hi : i + 6 ≤ L) (h : SgOk σ ∧ Cr σ μ ∧ Mr σ μ) (kk : ∀ σ' μ', SgOk σ' ∧ Cr σ' μ' ∧ Mr σ' μ' → Wm G mL E (lB Q) μ' 876 [(0, .ref b), (1, .ref (gb G + 0)), (2, .ref (gb G + 132)), (3, .int (nI i))] []) : Wm G mL E (lB Q) μ 294 [(0, .ref b), (1, .ref (gb G + 0)), (2, .ref (gb G + 132)), (3, .int (nI i))] [] := by
  obtain ⟨ok, hc, hm⟩ := h
  refine L_aload_n C (i := 1) dL_law_294 rfl rfl ?_
  refine L_aload_n C (i := 0) dL_law_295 rfl rfl ?_
  refine L_iload_n C (i := 3) dL_law_296 rfl rfl ?_
  refine L_iconst C (v := 1) dL_law_297 rfl ?_
  refine L_iadd C dL_law_298 ?_
  refine L_scr C S (sc_in (k := 1) (by omega) S.2.2.2) dL_law_299 ?_
  refine L_aload_n C (i := 0) dL_law_300 rfl rfl ?_
  refine L_iload_n C (i := 3) dL_law_301 rfl rfl ?_
  refine L_iconst C (v := 2) dL_law_302 rfl ?_
  refine L_iadd C dL_law_303 ?_
  refine L_scr C S (sc_in (k := 2) (by omega) S.2.2.2) dL_law_304 ?_
  refine L_invV2i C dL_law_305 sh_0 cal_X11_mix lk_L_32 ⟨Nat.le_of_ble_eq_true rfl, Nat.le_of_ble_eq_true rfl⟩ ⟨Nat.le_of_ble_eq_true rfl, Nat.le_of_ble_eq_true rfl⟩ (Nat.le_of_ble_eq_true rfl) (x_mix ok hc (xs (nI i + 1).toNatClampNeg) (xs (nI i + 2).toNatClampNeg) _ (fun μ1 F1 c1 => ?_))
  refine L_aload_n C (i := 2) dL_law_308 rfl rfl ?_
  refine L_aload_n C (i := 0) dL_law_309 rfl rfl ?_
  refine L_iload_n C (i := 3) dL_law_310 rfl rfl ?_
  refine L_iconst C (v := 1) dL_law_311 rfl ?_
  refine L_iadd C dL_law_312 ?_
  refine L_scr C S (sc_in (k := 1) (by omega) S.2.2.2) dL_law_313 ?_
  refine L_aload_n C (i := 0) dL_law_314 rfl rfl ?_
  refine L_iload_n C (i := 3) dL_law_315 rfl rfl ?_
  refine L_iconst C (v := 2) dL_law_316 rfl ?_
  refine L_iadd C dL_law_317 ?_
  refine L_scr C S (sc_in (k := 2) (by omega) S.2.2.2) dL_law_318 ?_
  refine L_invV2i C dL_law_319 sh_132 cal_X12_mix lk_L_36 ⟨Nat.le_of_ble_eq_true rfl, Nat.le_of_ble_eq_true rfl⟩ ⟨Nat.le_of_ble_eq_true rfl, Nat.le_of_ble_eq_true rfl⟩ (Nat.le_of_ble_eq_true rfl) (m_mix ok (hm.up F1) (xs (nI i + 1).toNatClampNeg) (xs (nI i + 2).toNatClampNeg) _ (fun μ2 F2 m2 => ?_))
  exact L_icmp_eq C (tgt := 876) dL_law_322 rfl (fun _ => kk _ μ2 ⟨ok_mix ok, c1.up F2, m2⟩) (fun p => absurd rfl p)
set_option maxRecDepth 100000 in
set_option maxHeartbeats 4000000 in
theorem cs_5 {G : mG} {E : mE} {Q : State → Prop} {b L : Nat} {xs : Nat → Int32} {μ : mM} {σ : Sg} {i : Nat} (C : Cx G mL E) (S : Sc G E b L xs) (hi : i + 6 ≤ L) (h : SgOk σ ∧ Cr σ μ ∧ Mr σ μ) (kk : ∀ σ' μ', SgOk σ' ∧ Cr σ' μ' ∧ Mr σ' μ' → Wm G mL E (lB Q) μ' 876 [(0, .ref b), (1, .ref (gb G + 0)), (2, .ref (gb G + 132)), (3, .int (nI i))] []) : Wm G mL E (lB Q) μ 327 [(0, .ref b), (1, .ref (gb G + 0)), (2, .ref (gb G + 132)), (3, .int (nI i))] [] := by
  obtain ⟨ok, hc, hm⟩ := h
  refine L_aload_n C (i := 1) dL_law_327 rfl rfl ?_
  refine L_aload_n C (i := 0) dL_law_328 rfl rfl ?_
  refine L_iload_n C (i := 3) dL_law_329 rfl rfl ?_
  refine L_iconst C (v := 1) dL_law_330 rfl ?_
  refine L_iadd C dL_law_331 ?_
  refine L_scr C S (sc_in (k := 1) (by omega) S.2.2.2) dL_law_332 ?_
  refine L_invV1i C dL_law_333 sh_0 cal_X11_add lk_L_37 ⟨Nat.le_of_ble_eq_true rfl, Nat.le_of_ble_eq_true rfl⟩ ⟨Nat.le_of_ble_eq_true rfl, Nat.le_of_ble_eq_true rfl⟩ (Nat.le_of_ble_eq_true rfl) (x_add ok hc (xs (nI i + 1).toNatClampNeg) _ (fun μ1 F1 c1 => ?_))
  refine L_aload_n C (i := 2) dL_law_336 rfl rfl ?_
  refine L_aload_n C (i := 0) dL_law_337 rfl rfl ?_
  refine L_iload_n C (i := 3) dL_law_338 rfl rfl ?_
  refine L_iconst C (v := 1) dL_law_339 rfl ?_
  refine L_iadd C dL_law_340 ?_
  refine L_scr C S (sc_in (k := 1) (by omega) S.2.2.2) dL_law_341 ?_
  refine L_invV1i C dL_law_342 sh_132 cal_X12_add lk_L_40 ⟨Nat.le_of_ble_eq_true rfl, Nat.le_of_ble_eq_true rfl⟩ ⟨Nat.le_of_ble_eq_true rfl, Nat.le_of_ble_eq_true rfl⟩ (Nat.le_of_ble_eq_true rfl) (m_add ok (hm.up F1) (xs (nI i + 1).toNatClampNeg) _ (fun μ2 F2 m2 => ?_))
  exact L_icmp_eq C (tgt := 876) dL_law_345 rfl (fun _ => kk _ μ2 ⟨ok_add ok (xs (nI i + 1).toNatClampNeg), c1.up F2, m2⟩) (fun p => absurd rfl p)
set_option maxRecDepth 100000 in
set_option maxHeartbeats 4000000 in
theorem cs_6 {G : mG} {E : mE} {Q : State → Prop} {b L : Nat} {xs : Nat → Int32} {μ : mM} {σ : Sg} {i : Nat} (C : Cx G mL E) (S : Sc G E b L xs) (hi : i + 6 ≤ L) (h : SgOk σ ∧ Cr σ μ ∧ Mr σ μ) (kk : ∀ σ' μ', SgOk σ' ∧ Cr σ' μ' ∧ Mr σ' μ' → Wm G mL E (lB Q) μ' 876 [(0, .ref b), (1, .ref (gb G + 0)), (2, .ref (gb G + 132)), (3, .int (nI i))] []) : Wm G mL E (lB Q) μ 350 [(0, .ref b), (1, .ref (gb G + 0)), (2, .ref (gb G + 132)), (3, .int (nI i))] [] := by
  obtain ⟨ok, hc, hm⟩ := h
  refine L_aload_n C (i := 1) dL_law_350 rfl rfl ?_
  refine L_aload_n C (i := 0) dL_law_351 rfl rfl ?_
  refine L_iload_n C (i := 3) dL_law_352 rfl rfl ?_
  refine L_iconst C (v := 1) dL_law_353 rfl ?_
  refine L_iadd C dL_law_354 ?_
  refine L_scr C S (sc_in (k := 1) (by omega) S.2.2.2) dL_law_355 ?_
  refine L_aload_n C (i := 0) dL_law_356 rfl rfl ?_
  refine L_iload_n C (i := 3) dL_law_357 rfl rfl ?_
  refine L_iconst C (v := 2) dL_law_358 rfl ?_
  refine L_iadd C dL_law_359 ?_
  refine L_scr C S (sc_in (k := 2) (by omega) S.2.2.2) dL_law_360 ?_
  refine L_aload_n C (i := 0) dL_law_361 rfl rfl ?_
  refine L_iload_n C (i := 3) dL_law_362 rfl rfl ?_
  refine L_iconst C (v := 3) dL_law_363 rfl ?_
  refine L_iadd C dL_law_364 ?_
  refine L_scr C S (sc_in (k := 3) (by omega) S.2.2.2) dL_law_365 ?_
  refine L_invV3i C dL_law_366 sh_0 cal_X11_tell lk_L_41 ⟨Nat.le_of_ble_eq_true rfl, Nat.le_of_ble_eq_true rfl⟩ ⟨Nat.le_of_ble_eq_true rfl, Nat.le_of_ble_eq_true rfl⟩ (Nat.le_of_ble_eq_true rfl) (x_tell ok hc (xs (nI i + 1).toNatClampNeg) (xs (nI i + 2).toNatClampNeg) (xs (nI i + 3).toNatClampNeg) _ (fun μ1 F1 c1 => ?_))
  refine L_aload_n C (i := 2) dL_law_369 rfl rfl ?_
  refine L_aload_n C (i := 0) dL_law_370 rfl rfl ?_
  refine L_iload_n C (i := 3) dL_law_371 rfl rfl ?_
  refine L_iconst C (v := 1) dL_law_372 rfl ?_
  refine L_iadd C dL_law_373 ?_
  refine L_scr C S (sc_in (k := 1) (by omega) S.2.2.2) dL_law_374 ?_
  refine L_aload_n C (i := 0) dL_law_375 rfl rfl ?_
  refine L_iload_n C (i := 3) dL_law_376 rfl rfl ?_
  refine L_iconst C (v := 2) dL_law_377 rfl ?_
  refine L_iadd C dL_law_378 ?_
  refine L_scr C S (sc_in (k := 2) (by omega) S.2.2.2) dL_law_379 ?_
  refine L_aload_n C (i := 0) dL_law_380 rfl rfl ?_
  refine L_iload_n C (i := 3) dL_law_381 rfl rfl ?_
  refine L_iconst C (v := 3) dL_law_382 rfl ?_
  refine L_iadd C dL_law_383 ?_
  refine L_scr C S (sc_in (k := 3) (by omega) S.2.2.2) dL_law_384 ?_
  refine L_invV3i C dL_law_385 sh_132 cal_X12_tell lk_L_45 ⟨Nat.le_of_ble_eq_true rfl, Nat.le_of_ble_eq_true rfl⟩ ⟨Nat.le_of_ble_eq_true rfl, Nat.le_of_ble_eq_true rfl⟩ (Nat.le_of_ble_eq_true rfl) (m_tell ok (hm.up F1) (xs (nI i + 1).toNatClampNeg) (xs (nI i + 2).toNatClampNeg) (xs (nI i + 3).toNatClampNeg) _ (fun μ2 F2 m2 => ?_))
  exact L_icmp_eq C (tgt := 876) dL_law_388 rfl (fun _ => kk _ μ2 ⟨ok_tell ok (xs (nI i + 1).toNatClampNeg) (xs (nI i + 2).toNatClampNeg) (xs (nI i + 3).toNatClampNeg), c1.up F2, m2⟩) (fun p => absurd rfl p)
set_option maxRecDepth 100000 in
set_option maxHeartbeats 4000000 in
theorem cs_7 {G : mG} {E : mE} {Q : State → Prop} {b L : Nat} {xs : Nat → Int32} {μ : mM} {σ : Sg} {i : Nat} (C : Cx G mL E) (S : Sc G E b L xs) (hi : i + 6 ≤ L) (h : SgOk σ ∧ Cr σ μ ∧ Mr σ μ) (kk : ∀ σ' μ', SgOk σ' ∧ Cr σ' μ' ∧ Mr σ' μ' → Wm G mL E (lB Q) μ' 876 [(0, .ref b), (1, .ref (gb G + 0)), (2, .ref (gb G + 132)), (3, .int (nI i))] []) : Wm G mL E (lB Q) μ 393 [(0, .ref b), (1, .ref (gb G + 0)), (2, .ref (gb G + 132)), (3, .int (nI i))] [] := by
  obtain ⟨ok, hc, hm⟩ := h
  refine L_aload_n C (i := 1) dL_law_393 rfl rfl ?_
  refine L_aload_n C (i := 0) dL_law_394 rfl rfl ?_
  refine L_iload_n C (i := 3) dL_law_395 rfl rfl ?_
  refine L_iconst C (v := 1) dL_law_396 rfl ?_
  refine L_iadd C dL_law_397 ?_
  refine L_scr C S (sc_in (k := 1) (by omega) S.2.2.2) dL_law_398 ?_
  refine L_aload_n C (i := 0) dL_law_399 rfl rfl ?_
  refine L_iload_n C (i := 3) dL_law_400 rfl rfl ?_
  refine L_iconst C (v := 2) dL_law_401 rfl ?_
  refine L_iadd C dL_law_402 ?_
  refine L_scr C S (sc_in (k := 2) (by omega) S.2.2.2) dL_law_403 ?_
  refine L_invV2i C dL_law_404 sh_0 cal_X11_cell lk_L_46 ⟨Nat.le_of_ble_eq_true rfl, Nat.le_of_ble_eq_true rfl⟩ ⟨Nat.le_of_ble_eq_true rfl, Nat.le_of_ble_eq_true rfl⟩ (Nat.le_of_ble_eq_true rfl) (x_cell ok hc (xs (nI i + 1).toNatClampNeg) (xs (nI i + 2).toNatClampNeg) _ (fun μ1 F1 c1 => ?_))
  refine L_aload_n C (i := 2) dL_law_407 rfl rfl ?_
  refine L_aload_n C (i := 0) dL_law_408 rfl rfl ?_
  refine L_iload_n C (i := 3) dL_law_409 rfl rfl ?_
  refine L_iconst C (v := 1) dL_law_410 rfl ?_
  refine L_iadd C dL_law_411 ?_
  refine L_scr C S (sc_in (k := 1) (by omega) S.2.2.2) dL_law_412 ?_
  refine L_aload_n C (i := 0) dL_law_413 rfl rfl ?_
  refine L_iload_n C (i := 3) dL_law_414 rfl rfl ?_
  refine L_iconst C (v := 2) dL_law_415 rfl ?_
  refine L_iadd C dL_law_416 ?_
  refine L_scr C S (sc_in (k := 2) (by omega) S.2.2.2) dL_law_417 ?_
  refine L_invV2i C dL_law_418 sh_132 cal_X12_cell lk_L_49 ⟨Nat.le_of_ble_eq_true rfl, Nat.le_of_ble_eq_true rfl⟩ ⟨Nat.le_of_ble_eq_true rfl, Nat.le_of_ble_eq_true rfl⟩ (Nat.le_of_ble_eq_true rfl) (m_cell ok (hm.up F1) (xs (nI i + 1).toNatClampNeg) (xs (nI i + 2).toNatClampNeg) _ (fun μ2 F2 m2 => ?_))
  exact L_icmp_eq C (tgt := 876) dL_law_421 rfl (fun _ => kk _ μ2 ⟨ok1_cell ok (xs (nI i + 1).toNatClampNeg) (xs (nI i + 2).toNatClampNeg), c1.up F2, m2⟩) (fun p => absurd rfl p)
set_option maxRecDepth 100000 in
set_option maxHeartbeats 4000000 in
theorem cs_8 {G : mG} {E : mE} {Q : State → Prop} {b L : Nat} {xs : Nat → Int32} {μ : mM} {σ : Sg} {i : Nat} (C : Cx G mL E) (S : Sc G E b L xs) (hi : i + 6 ≤ L) (h : SgOk σ ∧ Cr σ μ ∧ Mr σ μ) (kk : ∀ σ' μ', SgOk σ' ∧ Cr σ' μ' ∧ Mr σ' μ' → Wm G mL E (lB Q) μ' 876 [(0, .ref b), (1, .ref (gb G + 0)), (2, .ref (gb G + 132)), (3, .int (nI i))] []) : Wm G mL E (lB Q) μ 426 [(0, .ref b), (1, .ref (gb G + 0)), (2, .ref (gb G + 132)), (3, .int (nI i))] [] := by
  obtain ⟨ok, hc, hm⟩ := h
  refine L_aload_n C (i := 1) dL_law_426 rfl rfl ?_
  refine L_aload_n C (i := 0) dL_law_427 rfl rfl ?_
  refine L_iload_n C (i := 3) dL_law_428 rfl rfl ?_
  refine L_iconst C (v := 1) dL_law_429 rfl ?_
  refine L_iadd C dL_law_430 ?_
  refine L_scr C S (sc_in (k := 1) (by omega) S.2.2.2) dL_law_431 ?_
  refine L_invV1i C dL_law_432 sh_0 cal_X11_drop lk_L_50 ⟨Nat.le_of_ble_eq_true rfl, Nat.le_of_ble_eq_true rfl⟩ ⟨Nat.le_of_ble_eq_true rfl, Nat.le_of_ble_eq_true rfl⟩ (Nat.le_of_ble_eq_true rfl) (x_drop ok hc (xs (nI i + 1).toNatClampNeg) _ (fun μ1 F1 c1 => ?_))
  refine L_aload_n C (i := 2) dL_law_435 rfl rfl ?_
  refine L_aload_n C (i := 0) dL_law_436 rfl rfl ?_
  refine L_iload_n C (i := 3) dL_law_437 rfl rfl ?_
  refine L_iconst C (v := 1) dL_law_438 rfl ?_
  refine L_iadd C dL_law_439 ?_
  refine L_scr C S (sc_in (k := 1) (by omega) S.2.2.2) dL_law_440 ?_
  refine L_invV1i C dL_law_441 sh_132 cal_X12_drop lk_L_53 ⟨Nat.le_of_ble_eq_true rfl, Nat.le_of_ble_eq_true rfl⟩ ⟨Nat.le_of_ble_eq_true rfl, Nat.le_of_ble_eq_true rfl⟩ (Nat.le_of_ble_eq_true rfl) (m_drop ok (hm.up F1) (xs (nI i + 1).toNatClampNeg) _ (fun μ2 F2 m2 => ?_))
  exact L_icmp_eq C (tgt := 876) dL_law_444 rfl (fun _ => kk _ μ2 ⟨ok_drop ok (xs (nI i + 1).toNatClampNeg), c1.up F2, m2⟩) (fun p => absurd rfl p)
set_option maxRecDepth 100000 in
set_option maxHeartbeats 4000000 in
theorem cs_9 {G : mG} {E : mE} {Q : State → Prop} {b L : Nat} {xs : Nat → Int32} {μ : mM} {σ : Sg} {i : Nat} (C : Cx G mL E) (S : Sc G E b L xs) (hi : i + 6 ≤ L) (h : SgOk σ ∧ Cr σ μ ∧ Mr σ μ) (kk : ∀ σ' μ', SgOk σ' ∧ Cr σ' μ' ∧ Mr σ' μ' → Wm G mL E (lB Q) μ' 876 [(0, .ref b), (1, .ref (gb G + 0)), (2, .ref (gb G + 132)), (3, .int (nI i))] []) : Wm G mL E (lB Q) μ 449 [(0, .ref b), (1, .ref (gb G + 0)), (2, .ref (gb G + 132)), (3, .int (nI i))] [] := by
  obtain ⟨ok, hc, hm⟩ := h
  refine L_aload_n C (i := 1) dL_law_449 rfl rfl ?_
  refine L_invV0i C dL_law_450 sh_0 cal_X11_open lk_L_54 ⟨Nat.le_of_ble_eq_true rfl, Nat.le_of_ble_eq_true rfl⟩ ⟨Nat.le_of_ble_eq_true rfl, Nat.le_of_ble_eq_true rfl⟩ (Nat.le_of_ble_eq_true rfl) (x_open ok hc  _ (fun μ1 F1 c1 => ?_))
  refine L_aload_n C (i := 2) dL_law_453 rfl rfl ?_
  refine L_invV0i C dL_law_454 sh_132 cal_X12_open lk_L_57 ⟨Nat.le_of_ble_eq_true rfl, Nat.le_of_ble_eq_true rfl⟩ ⟨Nat.le_of_ble_eq_true rfl, Nat.le_of_ble_eq_true rfl⟩ (Nat.le_of_ble_eq_true rfl) (m_open ok (hm.up F1)  _ (fun μ2 F2 m2 => ?_))
  exact L_icmp_eq C (tgt := 876) dL_law_457 rfl (fun _ => kk _ μ2 ⟨ok1_open ok, c1.up F2, m2⟩) (fun p => absurd rfl p)
set_option maxRecDepth 100000 in
set_option maxHeartbeats 4000000 in
theorem cs_10 {G : mG} {E : mE} {Q : State → Prop} {b L : Nat} {xs : Nat → Int32} {μ : mM} {σ : Sg} {i : Nat} (C : Cx G mL E) (S : Sc G E b L xs) (hi : i + 6 ≤ L) (h : SgOk σ ∧ Cr σ μ ∧ Mr σ μ) (kk : ∀ σ' μ', SgOk σ' ∧ Cr σ' μ' ∧ Mr σ' μ' → Wm G mL E (lB Q) μ' 876 [(0, .ref b), (1, .ref (gb G + 0)), (2, .ref (gb G + 132)), (3, .int (nI i))] []) : Wm G mL E (lB Q) μ 462 [(0, .ref b), (1, .ref (gb G + 0)), (2, .ref (gb G + 132)), (3, .int (nI i))] [] := by
  obtain ⟨ok, hc, hm⟩ := h
  refine L_aload_n C (i := 1) dL_law_462 rfl rfl ?_
  refine L_aload_n C (i := 0) dL_law_463 rfl rfl ?_
  refine L_iload_n C (i := 3) dL_law_464 rfl rfl ?_
  refine L_iconst C (v := 1) dL_law_465 rfl ?_
  refine L_iadd C dL_law_466 ?_
  refine L_scr C S (sc_in (k := 1) (by omega) S.2.2.2) dL_law_467 ?_
  refine L_invV1i C dL_law_468 sh_0 cal_X11_openMix lk_L_58 ⟨Nat.le_of_ble_eq_true rfl, Nat.le_of_ble_eq_true rfl⟩ ⟨Nat.le_of_ble_eq_true rfl, Nat.le_of_ble_eq_true rfl⟩ (Nat.le_of_ble_eq_true rfl) (x_openMix ok hc (xs (nI i + 1).toNatClampNeg) _ (fun μ1 F1 c1 => ?_))
  refine L_aload_n C (i := 2) dL_law_471 rfl rfl ?_
  refine L_aload_n C (i := 0) dL_law_472 rfl rfl ?_
  refine L_iload_n C (i := 3) dL_law_473 rfl rfl ?_
  refine L_iconst C (v := 1) dL_law_474 rfl ?_
  refine L_iadd C dL_law_475 ?_
  refine L_scr C S (sc_in (k := 1) (by omega) S.2.2.2) dL_law_476 ?_
  refine L_invV1i C dL_law_477 sh_132 cal_X12_openMix lk_L_61 ⟨Nat.le_of_ble_eq_true rfl, Nat.le_of_ble_eq_true rfl⟩ ⟨Nat.le_of_ble_eq_true rfl, Nat.le_of_ble_eq_true rfl⟩ (Nat.le_of_ble_eq_true rfl) (m_openMix ok (hm.up F1) (xs (nI i + 1).toNatClampNeg) _ (fun μ2 F2 m2 => ?_))
  exact L_icmp_eq C (tgt := 876) dL_law_480 rfl (fun _ => kk _ μ2 ⟨ok1_openMix ok (xs (nI i + 1).toNatClampNeg), c1.up F2, m2⟩) (fun p => absurd rfl p)
set_option maxRecDepth 100000 in
set_option maxHeartbeats 4000000 in
theorem cs_11 {G : mG} {E : mE} {Q : State → Prop} {b L : Nat} {xs : Nat → Int32} {μ : mM} {σ : Sg} {i : Nat} (C : Cx G mL E) (S : Sc G E b L xs) (hi : i + 6 ≤ L) (h : SgOk σ ∧ Cr σ μ ∧ Mr σ μ) (kk : ∀ σ' μ', SgOk σ' ∧ Cr σ' μ' ∧ Mr σ' μ' → Wm G mL E (lB Q) μ' 876 [(0, .ref b), (1, .ref (gb G + 0)), (2, .ref (gb G + 132)), (3, .int (nI i))] []) : Wm G mL E (lB Q) μ 485 [(0, .ref b), (1, .ref (gb G + 0)), (2, .ref (gb G + 132)), (3, .int (nI i))] [] := by
  obtain ⟨ok, hc, hm⟩ := h
  refine L_aload_n C (i := 1) dL_law_485 rfl rfl ?_
  refine L_aload_n C (i := 0) dL_law_486 rfl rfl ?_
  refine L_iload_n C (i := 3) dL_law_487 rfl rfl ?_
  refine L_iconst C (v := 1) dL_law_488 rfl ?_
  refine L_iadd C dL_law_489 ?_
  refine L_scr C S (sc_in (k := 1) (by omega) S.2.2.2) dL_law_490 ?_
  refine L_invV1l C dL_law_491 sh_0 cal_X11_hope lk_L_62 ⟨Nat.le_of_ble_eq_true rfl, Nat.le_of_ble_eq_true rfl⟩ ⟨Nat.le_of_ble_eq_true rfl, Nat.le_of_ble_eq_true rfl⟩ (Nat.le_of_ble_eq_true rfl) (x_hope ok hc (xs (nI i + 1).toNatClampNeg) _ (fun μ1 F1 c1 => ?_))
  refine L_aload_n C (i := 2) dL_law_494 rfl rfl ?_
  refine L_aload_n C (i := 0) dL_law_495 rfl rfl ?_
  refine L_iload_n C (i := 3) dL_law_496 rfl rfl ?_
  refine L_iconst C (v := 1) dL_law_497 rfl ?_
  refine L_iadd C dL_law_498 ?_
  refine L_scr C S (sc_in (k := 1) (by omega) S.2.2.2) dL_law_499 ?_
  refine L_invV1l C dL_law_500 sh_132 cal_X12_hope lk_L_66 ⟨Nat.le_of_ble_eq_true rfl, Nat.le_of_ble_eq_true rfl⟩ ⟨Nat.le_of_ble_eq_true rfl, Nat.le_of_ble_eq_true rfl⟩ (Nat.le_of_ble_eq_true rfl) (m_hope ok (hm.up F1) (xs (nI i + 1).toNatClampNeg) _ (fun μ2 F2 m2 => ?_))
  refine L_lcmp C dL_law_503 ?_
  exact L_if_eq C (tgt := 876) dL_law_504 rfl (fun _ => kk _ μ2 ⟨ok1_hope ok (xs (nI i + 1).toNatClampNeg), c1.up F2, m2⟩) (fun p => absurd (lg_self _) p)
set_option maxRecDepth 100000 in
set_option maxHeartbeats 4000000 in
theorem cs_12 {G : mG} {E : mE} {Q : State → Prop} {b L : Nat} {xs : Nat → Int32} {μ : mM} {σ : Sg} {i : Nat} (C : Cx G mL E) (S : Sc G E b L xs) (hi : i + 6 ≤ L) (h : SgOk σ ∧ Cr σ μ ∧ Mr σ μ) (kk : ∀ σ' μ', SgOk σ' ∧ Cr σ' μ' ∧ Mr σ' μ' → Wm G mL E (lB Q) μ' 876 [(0, .ref b), (1, .ref (gb G + 0)), (2, .ref (gb G + 132)), (3, .int (nI i))] []) : Wm G mL E (lB Q) μ 509 [(0, .ref b), (1, .ref (gb G + 0)), (2, .ref (gb G + 132)), (3, .int (nI i))] [] := by
  obtain ⟨ok, hc, hm⟩ := h
  refine L_aload_n C (i := 1) dL_law_509 rfl rfl ?_
  refine L_invV0i C dL_law_510 sh_0 cal_X11_greed lk_L_67 ⟨Nat.le_of_ble_eq_true rfl, Nat.le_of_ble_eq_true rfl⟩ ⟨Nat.le_of_ble_eq_true rfl, Nat.le_of_ble_eq_true rfl⟩ (Nat.le_of_ble_eq_true rfl) (x_greed ok hc  _ (fun μ1 F1 c1 => ?_))
  refine L_aload_n C (i := 2) dL_law_513 rfl rfl ?_
  refine L_invV0i C dL_law_514 sh_132 cal_X12_greed lk_L_70 ⟨Nat.le_of_ble_eq_true rfl, Nat.le_of_ble_eq_true rfl⟩ ⟨Nat.le_of_ble_eq_true rfl, Nat.le_of_ble_eq_true rfl⟩ (Nat.le_of_ble_eq_true rfl) (m_greed ok (hm.up F1)  _ (fun μ2 F2 m2 => ?_))
  exact L_icmp_eq C (tgt := 876) dL_law_517 rfl (fun _ => kk _ μ2 ⟨ok_greed ok, c1.up F2, m2⟩) (fun p => absurd rfl p)
set_option maxRecDepth 100000 in
set_option maxHeartbeats 4000000 in
theorem cs_13 {G : mG} {E : mE} {Q : State → Prop} {b L : Nat} {xs : Nat → Int32} {μ : mM} {σ : Sg} {i : Nat} (C : Cx G mL E) (S : Sc G E b L xs) (hi : i + 6 ≤ L) (h : SgOk σ ∧ Cr σ μ ∧ Mr σ μ) (kk : ∀ σ' μ', SgOk σ' ∧ Cr σ' μ' ∧ Mr σ' μ' → Wm G mL E (lB Q) μ' 876 [(0, .ref b), (1, .ref (gb G + 0)), (2, .ref (gb G + 132)), (3, .int (nI i))] []) : Wm G mL E (lB Q) μ 522 [(0, .ref b), (1, .ref (gb G + 0)), (2, .ref (gb G + 132)), (3, .int (nI i))] [] := by
  obtain ⟨ok, hc, hm⟩ := h
  refine L_aload_n C (i := 1) dL_law_522 rfl rfl ?_
  refine L_invV0i C dL_law_523 sh_0 cal_X11_fill lk_L_71 ⟨Nat.le_of_ble_eq_true rfl, Nat.le_of_ble_eq_true rfl⟩ ⟨Nat.le_of_ble_eq_true rfl, Nat.le_of_ble_eq_true rfl⟩ (Nat.le_of_ble_eq_true rfl) (x_fill ok hc  _ (fun μ1 F1 c1 => ?_))
  refine L_aload_n C (i := 2) dL_law_526 rfl rfl ?_
  refine L_invV0i C dL_law_527 sh_132 cal_X12_fill lk_L_74 ⟨Nat.le_of_ble_eq_true rfl, Nat.le_of_ble_eq_true rfl⟩ ⟨Nat.le_of_ble_eq_true rfl, Nat.le_of_ble_eq_true rfl⟩ (Nat.le_of_ble_eq_true rfl) (m_fill ok (hm.up F1)  _ (fun μ2 F2 m2 => ?_))
  exact L_icmp_eq C (tgt := 876) dL_law_530 rfl (fun _ => kk _ μ2 ⟨ok_fill ok, c1.up F2, m2⟩) (fun p => absurd rfl p)
set_option maxRecDepth 100000 in
set_option maxHeartbeats 4000000 in
theorem cs_14 {G : mG} {E : mE} {Q : State → Prop} {b L : Nat} {xs : Nat → Int32} {μ : mM} {σ : Sg} {i : Nat} (C : Cx G mL E) (S : Sc G E b L xs) (hi : i + 6 ≤ L) (h : SgOk σ ∧ Cr σ μ ∧ Mr σ μ) (kk : ∀ σ' μ', SgOk σ' ∧ Cr σ' μ' ∧ Mr σ' μ' → Wm G mL E (lB Q) μ' 876 [(0, .ref b), (1, .ref (gb G + 0)), (2, .ref (gb G + 132)), (3, .int (nI i))] []) : Wm G mL E (lB Q) μ 535 [(0, .ref b), (1, .ref (gb G + 0)), (2, .ref (gb G + 132)), (3, .int (nI i))] [] := by
  obtain ⟨ok, hc, hm⟩ := h
  refine L_aload_n C (i := 1) dL_law_535 rfl rfl ?_
  refine L_invV0i C dL_law_536 sh_0 cal_X11_field lk_L_75 ⟨Nat.le_of_ble_eq_true rfl, Nat.le_of_ble_eq_true rfl⟩ ⟨Nat.le_of_ble_eq_true rfl, Nat.le_of_ble_eq_true rfl⟩ (Nat.le_of_ble_eq_true rfl) (x_field ok hc  _ (fun μ1 F1 c1 => ?_))
  refine L_aload_n C (i := 2) dL_law_539 rfl rfl ?_
  refine L_invV0i C dL_law_540 sh_132 cal_X12_field lk_L_78 ⟨Nat.le_of_ble_eq_true rfl, Nat.le_of_ble_eq_true rfl⟩ ⟨Nat.le_of_ble_eq_true rfl, Nat.le_of_ble_eq_true rfl⟩ (Nat.le_of_ble_eq_true rfl) (m_field ok (hm.up F1)  _ (fun μ2 F2 m2 => ?_))
  exact L_icmp_eq C (tgt := 876) dL_law_543 rfl (fun _ => kk _ μ2 ⟨ok_field ok, c1.up F2, m2⟩) (fun p => absurd rfl p)
set_option maxRecDepth 100000 in
set_option maxHeartbeats 4000000 in
theorem cs_15 {G : mG} {E : mE} {Q : State → Prop} {b L : Nat} {xs : Nat → Int32} {μ : mM} {σ : Sg} {i : Nat} (C : Cx G mL E) (S : Sc G E b L xs) (hi : i + 6 ≤ L) (h : SgOk σ ∧ Cr σ μ ∧ Mr σ μ) (kk : ∀ σ' μ', SgOk σ' ∧ Cr σ' μ' ∧ Mr σ' μ' → Wm G mL E (lB Q) μ' 876 [(0, .ref b), (1, .ref (gb G + 0)), (2, .ref (gb G + 132)), (3, .int (nI i))] []) : Wm G mL E (lB Q) μ 548 [(0, .ref b), (1, .ref (gb G + 0)), (2, .ref (gb G + 132)), (3, .int (nI i))] [] := by
  obtain ⟨ok, hc, hm⟩ := h
  refine L_aload_n C (i := 1) dL_law_548 rfl rfl ?_
  refine L_aload_n C (i := 0) dL_law_549 rfl rfl ?_
  refine L_iload_n C (i := 3) dL_law_550 rfl rfl ?_
  refine L_iconst C (v := 1) dL_law_551 rfl ?_
  refine L_iadd C dL_law_552 ?_
  refine L_scr C S (sc_in (k := 1) (by omega) S.2.2.2) dL_law_553 ?_
  refine L_invV1i C dL_law_554 sh_0 cal_X11_widen lk_L_79 ⟨Nat.le_of_ble_eq_true rfl, Nat.le_of_ble_eq_true rfl⟩ ⟨Nat.le_of_ble_eq_true rfl, Nat.le_of_ble_eq_true rfl⟩ (Nat.le_of_ble_eq_true rfl) (x_widen ok hc (xs (nI i + 1).toNatClampNeg) _ (fun μ1 F1 c1 => ?_))
  refine L_aload_n C (i := 2) dL_law_557 rfl rfl ?_
  refine L_aload_n C (i := 0) dL_law_558 rfl rfl ?_
  refine L_iload_n C (i := 3) dL_law_559 rfl rfl ?_
  refine L_iconst C (v := 1) dL_law_560 rfl ?_
  refine L_iadd C dL_law_561 ?_
  refine L_scr C S (sc_in (k := 1) (by omega) S.2.2.2) dL_law_562 ?_
  refine L_invV1i C dL_law_563 sh_132 cal_X12_widen lk_L_82 ⟨Nat.le_of_ble_eq_true rfl, Nat.le_of_ble_eq_true rfl⟩ ⟨Nat.le_of_ble_eq_true rfl, Nat.le_of_ble_eq_true rfl⟩ (Nat.le_of_ble_eq_true rfl) (m_widen ok (hm.up F1) (xs (nI i + 1).toNatClampNeg) _ (fun μ2 F2 m2 => ?_))
  exact L_icmp_eq C (tgt := 876) dL_law_566 rfl (fun _ => kk _ μ2 ⟨ok_widen ok (xs (nI i + 1).toNatClampNeg), c1.up F2, m2⟩) (fun p => absurd rfl p)
set_option maxRecDepth 100000 in
set_option maxHeartbeats 4000000 in
theorem cs_16 {G : mG} {E : mE} {Q : State → Prop} {b L : Nat} {xs : Nat → Int32} {μ : mM} {σ : Sg} {i : Nat} (C : Cx G mL E) (S : Sc G E b L xs) (hi : i + 6 ≤ L) (h : SgOk σ ∧ Cr σ μ ∧ Mr σ μ) (kk : ∀ σ' μ', SgOk σ' ∧ Cr σ' μ' ∧ Mr σ' μ' → Wm G mL E (lB Q) μ' 876 [(0, .ref b), (1, .ref (gb G + 0)), (2, .ref (gb G + 132)), (3, .int (nI i))] []) : Wm G mL E (lB Q) μ 571 [(0, .ref b), (1, .ref (gb G + 0)), (2, .ref (gb G + 132)), (3, .int (nI i))] [] := by
  obtain ⟨ok, hc, hm⟩ := h
  refine L_aload_n C (i := 1) dL_law_571 rfl rfl ?_
  refine L_invV0i C dL_law_572 sh_0 cal_X11_settle lk_L_83 ⟨Nat.le_of_ble_eq_true rfl, Nat.le_of_ble_eq_true rfl⟩ ⟨Nat.le_of_ble_eq_true rfl, Nat.le_of_ble_eq_true rfl⟩ (Nat.le_of_ble_eq_true rfl) (x_settle ok hc  _ (fun μ1 F1 c1 => ?_))
  refine L_aload_n C (i := 2) dL_law_575 rfl rfl ?_
  refine L_invV0i C dL_law_576 sh_132 cal_X12_settle lk_L_86 ⟨Nat.le_of_ble_eq_true rfl, Nat.le_of_ble_eq_true rfl⟩ ⟨Nat.le_of_ble_eq_true rfl, Nat.le_of_ble_eq_true rfl⟩ (Nat.le_of_ble_eq_true rfl) (m_settle ok (hm.up F1)  _ (fun μ2 F2 m2 => ?_))
  exact L_icmp_eq C (tgt := 876) dL_law_579 rfl (fun _ => kk _ μ2 ⟨ok_settle ok, c1.up F2, m2⟩) (fun p => absurd rfl p)
set_option maxRecDepth 100000 in
set_option maxHeartbeats 4000000 in
theorem cs_17 {G : mG} {E : mE} {Q : State → Prop} {b L : Nat} {xs : Nat → Int32} {μ : mM} {σ : Sg} {i : Nat} (C : Cx G mL E) (S : Sc G E b L xs) (hi : i + 6 ≤ L) (h : SgOk σ ∧ Cr σ μ ∧ Mr σ μ) (kk : ∀ σ' μ', SgOk σ' ∧ Cr σ' μ' ∧ Mr σ' μ' → Wm G mL E (lB Q) μ' 876 [(0, .ref b), (1, .ref (gb G + 0)), (2, .ref (gb G + 132)), (3, .int (nI i))] []) : Wm G mL E (lB Q) μ 584 [(0, .ref b), (1, .ref (gb G + 0)), (2, .ref (gb G + 132)), (3, .int (nI i))] [] := by
  obtain ⟨ok, hc, hm⟩ := h
  refine L_aload_n C (i := 1) dL_law_584 rfl rfl ?_
  refine L_invV0i C dL_law_585 sh_0 cal_X11_thin lk_L_87 ⟨Nat.le_of_ble_eq_true rfl, Nat.le_of_ble_eq_true rfl⟩ ⟨Nat.le_of_ble_eq_true rfl, Nat.le_of_ble_eq_true rfl⟩ (Nat.le_of_ble_eq_true rfl) (x_thin ok hc  _ (fun μ1 F1 c1 => ?_))
  refine L_aload_n C (i := 2) dL_law_588 rfl rfl ?_
  refine L_invV0i C dL_law_589 sh_132 cal_X12_thin lk_L_90 ⟨Nat.le_of_ble_eq_true rfl, Nat.le_of_ble_eq_true rfl⟩ ⟨Nat.le_of_ble_eq_true rfl, Nat.le_of_ble_eq_true rfl⟩ (Nat.le_of_ble_eq_true rfl) (m_thin ok (hm.up F1)  _ (fun μ2 F2 m2 => ?_))
  exact L_icmp_eq C (tgt := 876) dL_law_592 rfl (fun _ => kk _ μ2 ⟨ok_thin ok, c1.up F2, m2⟩) (fun p => absurd rfl p)
set_option maxRecDepth 100000 in
set_option maxHeartbeats 4000000 in
theorem cs_18 {G : mG} {E : mE} {Q : State → Prop} {b L : Nat} {xs : Nat → Int32} {μ : mM} {σ : Sg} {i : Nat} (C : Cx G mL E) (S : Sc G E b L xs) (hi : i + 6 ≤ L) (h : SgOk σ ∧ Cr σ μ ∧ Mr σ μ) (kk : ∀ σ' μ', SgOk σ' ∧ Cr σ' μ' ∧ Mr σ' μ' → Wm G mL E (lB Q) μ' 876 [(0, .ref b), (1, .ref (gb G + 0)), (2, .ref (gb G + 132)), (3, .int (nI i))] []) : Wm G mL E (lB Q) μ 597 [(0, .ref b), (1, .ref (gb G + 0)), (2, .ref (gb G + 132)), (3, .int (nI i))] [] := by
  obtain ⟨ok, hc, hm⟩ := h
  refine L_aload_n C (i := 1) dL_law_597 rfl rfl ?_
  refine L_invV0i C dL_law_598 sh_0 cal_X11_order lk_L_91 ⟨Nat.le_of_ble_eq_true rfl, Nat.le_of_ble_eq_true rfl⟩ ⟨Nat.le_of_ble_eq_true rfl, Nat.le_of_ble_eq_true rfl⟩ (Nat.le_of_ble_eq_true rfl) (x_order ok hc  _ (fun μ1 F1 c1 => ?_))
  refine L_aload_n C (i := 2) dL_law_601 rfl rfl ?_
  refine L_invV0i C dL_law_602 sh_132 cal_X12_order lk_L_94 ⟨Nat.le_of_ble_eq_true rfl, Nat.le_of_ble_eq_true rfl⟩ ⟨Nat.le_of_ble_eq_true rfl, Nat.le_of_ble_eq_true rfl⟩ (Nat.le_of_ble_eq_true rfl) (m_order ok (hm.up F1)  _ (fun μ2 F2 m2 => ?_))
  exact L_icmp_eq C (tgt := 876) dL_law_605 rfl (fun _ => kk _ μ2 ⟨ok_order ok, c1.up F2, m2⟩) (fun p => absurd rfl p)
set_option maxRecDepth 100000 in
set_option maxHeartbeats 4000000 in
theorem cs_19 {G : mG} {E : mE} {Q : State → Prop} {b L : Nat} {xs : Nat → Int32} {μ : mM} {σ : Sg} {i : Nat} (C : Cx G mL E) (S : Sc G E b L xs) (hi : i + 6 ≤ L) (h : SgOk σ ∧ Cr σ μ ∧ Mr σ μ) (kk : ∀ σ' μ', SgOk σ' ∧ Cr σ' μ' ∧ Mr σ' μ' → Wm G mL E (lB Q) μ' 876 [(0, .ref b), (1, .ref (gb G + 0)), (2, .ref (gb G + 132)), (3, .int (nI i))] []) : Wm G mL E (lB Q) μ 610 [(0, .ref b), (1, .ref (gb G + 0)), (2, .ref (gb G + 132)), (3, .int (nI i))] [] := by
  obtain ⟨ok, hc, hm⟩ := h
  refine L_aload_n C (i := 1) dL_law_610 rfl rfl ?_
  refine L_invV0i C dL_law_611 sh_0 cal_X11_drawn lk_L_95 ⟨Nat.le_of_ble_eq_true rfl, Nat.le_of_ble_eq_true rfl⟩ ⟨Nat.le_of_ble_eq_true rfl, Nat.le_of_ble_eq_true rfl⟩ (Nat.le_of_ble_eq_true rfl) (x_drawn ok hc  _ (fun μ1 F1 c1 => ?_))
  refine L_aload_n C (i := 2) dL_law_614 rfl rfl ?_
  refine L_invV0i C dL_law_615 sh_132 cal_X12_drawn lk_L_98 ⟨Nat.le_of_ble_eq_true rfl, Nat.le_of_ble_eq_true rfl⟩ ⟨Nat.le_of_ble_eq_true rfl, Nat.le_of_ble_eq_true rfl⟩ (Nat.le_of_ble_eq_true rfl) (m_drawn ok (hm.up F1)  _ (fun μ2 F2 m2 => ?_))
  exact L_icmp_eq C (tgt := 876) dL_law_618 rfl (fun _ => kk _ μ2 ⟨ok_drawn ok, c1.up F2, m2⟩) (fun p => absurd rfl p)
set_option maxRecDepth 100000 in
set_option maxHeartbeats 4000000 in
theorem cs_20 {G : mG} {E : mE} {Q : State → Prop} {b L : Nat} {xs : Nat → Int32} {μ : mM} {σ : Sg} {i : Nat} (C : Cx G mL E) (S : Sc G E b L xs) (hi : i + 6 ≤ L) (h : SgOk σ ∧ Cr σ μ ∧ Mr σ μ) (kk : ∀ σ' μ', SgOk σ' ∧ Cr σ' μ' ∧ Mr σ' μ' → Wm G mL E (lB Q) μ' 876 [(0, .ref b), (1, .ref (gb G + 0)), (2, .ref (gb G + 132)), (3, .int (nI i))] []) : Wm G mL E (lB Q) μ 623 [(0, .ref b), (1, .ref (gb G + 0)), (2, .ref (gb G + 132)), (3, .int (nI i))] [] := by
  obtain ⟨ok, hc, hm⟩ := h
  refine L_aload_n C (i := 1) dL_law_623 rfl rfl ?_
  refine L_aload_n C (i := 0) dL_law_624 rfl rfl ?_
  refine L_iload_n C (i := 3) dL_law_625 rfl rfl ?_
  refine L_iconst C (v := 1) dL_law_626 rfl ?_
  refine L_iadd C dL_law_627 ?_
  refine L_scr C S (sc_in (k := 1) (by omega) S.2.2.2) dL_law_628 ?_
  refine L_invV1i C dL_law_629 sh_0 cal_X11_draws lk_L_99 ⟨Nat.le_of_ble_eq_true rfl, Nat.le_of_ble_eq_true rfl⟩ ⟨Nat.le_of_ble_eq_true rfl, Nat.le_of_ble_eq_true rfl⟩ (Nat.le_of_ble_eq_true rfl) (x_draws ok hc (xs (nI i + 1).toNatClampNeg) _ (fun μ1 F1 c1 => ?_))
  refine L_aload_n C (i := 2) dL_law_632 rfl rfl ?_
  refine L_aload_n C (i := 0) dL_law_633 rfl rfl ?_
  refine L_iload_n C (i := 3) dL_law_634 rfl rfl ?_
  refine L_iconst C (v := 1) dL_law_635 rfl ?_
  refine L_iadd C dL_law_636 ?_
  refine L_scr C S (sc_in (k := 1) (by omega) S.2.2.2) dL_law_637 ?_
  refine L_invV1i C dL_law_638 sh_132 cal_X12_draws lk_L_102 ⟨Nat.le_of_ble_eq_true rfl, Nat.le_of_ble_eq_true rfl⟩ ⟨Nat.le_of_ble_eq_true rfl, Nat.le_of_ble_eq_true rfl⟩ (Nat.le_of_ble_eq_true rfl) (m_draws ok (hm.up F1) (xs (nI i + 1).toNatClampNeg) _ (fun μ2 F2 m2 => ?_))
  exact L_icmp_eq C (tgt := 876) dL_law_641 rfl (fun _ => kk _ μ2 ⟨ok_draws ok (xs (nI i + 1).toNatClampNeg), c1.up F2, m2⟩) (fun p => absurd rfl p)
set_option maxRecDepth 100000 in
set_option maxHeartbeats 4000000 in
theorem cs_21 {G : mG} {E : mE} {Q : State → Prop} {b L : Nat} {xs : Nat → Int32} {μ : mM} {σ : Sg} {i : Nat} (C : Cx G mL E) (S : Sc G E b L xs) (hi : i + 6 ≤ L) (h : SgOk σ ∧ Cr σ μ ∧ Mr σ μ) (kk : ∀ σ' μ', SgOk σ' ∧ Cr σ' μ' ∧ Mr σ' μ' → Wm G mL E (lB Q) μ' 876 [(0, .ref b), (1, .ref (gb G + 0)), (2, .ref (gb G + 132)), (3, .int (nI i))] []) : Wm G mL E (lB Q) μ 646 [(0, .ref b), (1, .ref (gb G + 0)), (2, .ref (gb G + 132)), (3, .int (nI i))] [] := by
  obtain ⟨ok, hc, hm⟩ := h
  refine L_aload_n C (i := 1) dL_law_646 rfl rfl ?_
  refine L_aload_n C (i := 0) dL_law_647 rfl rfl ?_
  refine L_iload_n C (i := 3) dL_law_648 rfl rfl ?_
  refine L_iconst C (v := 1) dL_law_649 rfl ?_
  refine L_iadd C dL_law_650 ?_
  refine L_scr C S (sc_in (k := 1) (by omega) S.2.2.2) dL_law_651 ?_
  refine L_invV1i C dL_law_652 sh_0 cal_X11_gain lk_L_103 ⟨Nat.le_of_ble_eq_true rfl, Nat.le_of_ble_eq_true rfl⟩ ⟨Nat.le_of_ble_eq_true rfl, Nat.le_of_ble_eq_true rfl⟩ (Nat.le_of_ble_eq_true rfl) (x_gain ok hc (xs (nI i + 1).toNatClampNeg) _ (fun μ1 F1 c1 => ?_))
  refine L_aload_n C (i := 2) dL_law_655 rfl rfl ?_
  refine L_aload_n C (i := 0) dL_law_656 rfl rfl ?_
  refine L_iload_n C (i := 3) dL_law_657 rfl rfl ?_
  refine L_iconst C (v := 1) dL_law_658 rfl ?_
  refine L_iadd C dL_law_659 ?_
  refine L_scr C S (sc_in (k := 1) (by omega) S.2.2.2) dL_law_660 ?_
  refine L_invV1i C dL_law_661 sh_132 cal_X12_gain lk_L_106 ⟨Nat.le_of_ble_eq_true rfl, Nat.le_of_ble_eq_true rfl⟩ ⟨Nat.le_of_ble_eq_true rfl, Nat.le_of_ble_eq_true rfl⟩ (Nat.le_of_ble_eq_true rfl) (m_gain ok (hm.up F1) (xs (nI i + 1).toNatClampNeg) _ (fun μ2 F2 m2 => ?_))
  exact L_icmp_eq C (tgt := 876) dL_law_664 rfl (fun _ => kk _ μ2 ⟨ok1_gain ok (xs (nI i + 1).toNatClampNeg), c1.up F2, m2⟩) (fun p => absurd rfl p)
set_option maxRecDepth 100000 in
set_option maxHeartbeats 4000000 in
theorem cs_22 {G : mG} {E : mE} {Q : State → Prop} {b L : Nat} {xs : Nat → Int32} {μ : mM} {σ : Sg} {i : Nat} (C : Cx G mL E) (S : Sc G E b L xs) (hi : i + 6 ≤ L) (h : SgOk σ ∧ Cr σ μ ∧ Mr σ μ) (kk : ∀ σ' μ', SgOk σ' ∧ Cr σ' μ' ∧ Mr σ' μ' → Wm G mL E (lB Q) μ' 876 [(0, .ref b), (1, .ref (gb G + 0)), (2, .ref (gb G + 132)), (3, .int (nI i))] []) : Wm G mL E (lB Q) μ 669 [(0, .ref b), (1, .ref (gb G + 0)), (2, .ref (gb G + 132)), (3, .int (nI i))] [] := by
  obtain ⟨ok, hc, hm⟩ := h
  refine L_aload_n C (i := 1) dL_law_669 rfl rfl ?_
  refine L_invV0i C dL_law_670 sh_0 cal_X11_least lk_L_107 ⟨Nat.le_of_ble_eq_true rfl, Nat.le_of_ble_eq_true rfl⟩ ⟨Nat.le_of_ble_eq_true rfl, Nat.le_of_ble_eq_true rfl⟩ (Nat.le_of_ble_eq_true rfl) (x_least ok hc  _ (fun μ1 F1 c1 => ?_))
  refine L_aload_n C (i := 2) dL_law_673 rfl rfl ?_
  refine L_invV0i C dL_law_674 sh_132 cal_X12_least lk_L_110 ⟨Nat.le_of_ble_eq_true rfl, Nat.le_of_ble_eq_true rfl⟩ ⟨Nat.le_of_ble_eq_true rfl, Nat.le_of_ble_eq_true rfl⟩ (Nat.le_of_ble_eq_true rfl) (m_least ok (hm.up F1)  _ (fun μ2 F2 m2 => ?_))
  exact L_icmp_eq C (tgt := 876) dL_law_677 rfl (fun _ => kk _ μ2 ⟨ok1_least ok, c1.up F2, m2⟩) (fun p => absurd rfl p)
set_option maxRecDepth 100000 in
set_option maxHeartbeats 4000000 in
theorem cs_23 {G : mG} {E : mE} {Q : State → Prop} {b L : Nat} {xs : Nat → Int32} {μ : mM} {σ : Sg} {i : Nat} (C : Cx G mL E) (S : Sc G E b L xs) (hi : i + 6 ≤ L) (h : SgOk σ ∧ Cr σ μ ∧ Mr σ μ) (kk : ∀ σ' μ', SgOk σ' ∧ Cr σ' μ' ∧ Mr σ' μ' → Wm G mL E (lB Q) μ' 876 [(0, .ref b), (1, .ref (gb G + 0)), (2, .ref (gb G + 132)), (3, .int (nI i))] []) : Wm G mL E (lB Q) μ 682 [(0, .ref b), (1, .ref (gb G + 0)), (2, .ref (gb G + 132)), (3, .int (nI i))] [] := by
  obtain ⟨ok, hc, hm⟩ := h
  refine L_aload_n C (i := 1) dL_law_682 rfl rfl ?_
  refine L_aload_n C (i := 0) dL_law_683 rfl rfl ?_
  refine L_iload_n C (i := 3) dL_law_684 rfl rfl ?_
  refine L_iconst C (v := 1) dL_law_685 rfl ?_
  refine L_iadd C dL_law_686 ?_
  refine L_scr C S (sc_in (k := 1) (by omega) S.2.2.2) dL_law_687 ?_
  refine L_invV1i C dL_law_688 sh_0 cal_X11_lawful lk_L_111 ⟨Nat.le_of_ble_eq_true rfl, Nat.le_of_ble_eq_true rfl⟩ ⟨Nat.le_of_ble_eq_true rfl, Nat.le_of_ble_eq_true rfl⟩ (Nat.le_of_ble_eq_true rfl) (x_lawful ok hc (xs (nI i + 1).toNatClampNeg) _ (fun μ1 F1 c1 => ?_))
  refine L_aload_n C (i := 2) dL_law_691 rfl rfl ?_
  refine L_aload_n C (i := 0) dL_law_692 rfl rfl ?_
  refine L_iload_n C (i := 3) dL_law_693 rfl rfl ?_
  refine L_iconst C (v := 1) dL_law_694 rfl ?_
  refine L_iadd C dL_law_695 ?_
  refine L_scr C S (sc_in (k := 1) (by omega) S.2.2.2) dL_law_696 ?_
  refine L_invV1i C dL_law_697 sh_132 cal_X12_lawful lk_L_114 ⟨Nat.le_of_ble_eq_true rfl, Nat.le_of_ble_eq_true rfl⟩ ⟨Nat.le_of_ble_eq_true rfl, Nat.le_of_ble_eq_true rfl⟩ (Nat.le_of_ble_eq_true rfl) (m_lawful ok (hm.up F1) (xs (nI i + 1).toNatClampNeg) _ (fun μ2 F2 m2 => ?_))
  exact L_icmp_eq C (tgt := 876) dL_law_700 rfl (fun _ => kk _ μ2 ⟨ok1_lawful ok (xs (nI i + 1).toNatClampNeg), c1.up F2, m2⟩) (fun p => absurd rfl p)
set_option maxRecDepth 100000 in
set_option maxHeartbeats 4000000 in
theorem cs_24 {G : mG} {E : mE} {Q : State → Prop} {b L : Nat} {xs : Nat → Int32} {μ : mM} {σ : Sg} {i : Nat} (C : Cx G mL E) (S : Sc G E b L xs) (hi : i + 6 ≤ L) (h : SgOk σ ∧ Cr σ μ ∧ Mr σ μ) (kk : ∀ σ' μ', SgOk σ' ∧ Cr σ' μ' ∧ Mr σ' μ' → Wm G mL E (lB Q) μ' 876 [(0, .ref b), (1, .ref (gb G + 0)), (2, .ref (gb G + 132)), (3, .int (nI i))] []) : Wm G mL E (lB Q) μ 705 [(0, .ref b), (1, .ref (gb G + 0)), (2, .ref (gb G + 132)), (3, .int (nI i))] [] := by
  obtain ⟨ok, hc, hm⟩ := h
  refine L_aload_n C (i := 1) dL_law_705 rfl rfl ?_
  refine L_aload_n C (i := 0) dL_law_706 rfl rfl ?_
  refine L_iload_n C (i := 3) dL_law_707 rfl rfl ?_
  refine L_iconst C (v := 1) dL_law_708 rfl ?_
  refine L_iadd C dL_law_709 ?_
  refine L_scr C S (sc_in (k := 1) (by omega) S.2.2.2) dL_law_710 ?_
  refine L_aload_n C (i := 0) dL_law_711 rfl rfl ?_
  refine L_iload_n C (i := 3) dL_law_712 rfl rfl ?_
  refine L_iconst C (v := 2) dL_law_713 rfl ?_
  refine L_iadd C dL_law_714 ?_
  refine L_scr C S (sc_in (k := 2) (by omega) S.2.2.2) dL_law_715 ?_
  refine L_invV2i C dL_law_716 sh_0 cal_X11_result lk_L_115 ⟨Nat.le_of_ble_eq_true rfl, Nat.le_of_ble_eq_true rfl⟩ ⟨Nat.le_of_ble_eq_true rfl, Nat.le_of_ble_eq_true rfl⟩ (Nat.le_of_ble_eq_true rfl) (x_result ok hc (xs (nI i + 1).toNatClampNeg) (xs (nI i + 2).toNatClampNeg) _ (fun μ1 F1 c1 => ?_))
  refine L_aload_n C (i := 2) dL_law_719 rfl rfl ?_
  refine L_aload_n C (i := 0) dL_law_720 rfl rfl ?_
  refine L_iload_n C (i := 3) dL_law_721 rfl rfl ?_
  refine L_iconst C (v := 1) dL_law_722 rfl ?_
  refine L_iadd C dL_law_723 ?_
  refine L_scr C S (sc_in (k := 1) (by omega) S.2.2.2) dL_law_724 ?_
  refine L_aload_n C (i := 0) dL_law_725 rfl rfl ?_
  refine L_iload_n C (i := 3) dL_law_726 rfl rfl ?_
  refine L_iconst C (v := 2) dL_law_727 rfl ?_
  refine L_iadd C dL_law_728 ?_
  refine L_scr C S (sc_in (k := 2) (by omega) S.2.2.2) dL_law_729 ?_
  refine L_invV2i C dL_law_730 sh_132 cal_X12_result lk_L_118 ⟨Nat.le_of_ble_eq_true rfl, Nat.le_of_ble_eq_true rfl⟩ ⟨Nat.le_of_ble_eq_true rfl, Nat.le_of_ble_eq_true rfl⟩ (Nat.le_of_ble_eq_true rfl) (m_result ok (hm.up F1) (xs (nI i + 1).toNatClampNeg) (xs (nI i + 2).toNatClampNeg) _ (fun μ2 F2 m2 => ?_))
  exact L_icmp_eq C (tgt := 876) dL_law_733 rfl (fun _ => kk _ μ2 ⟨ok_result ok (xs (nI i + 1).toNatClampNeg) (xs (nI i + 2).toNatClampNeg), c1.up F2, m2⟩) (fun p => absurd rfl p)
set_option maxRecDepth 100000 in
set_option maxHeartbeats 4000000 in
theorem cs_25 {G : mG} {E : mE} {Q : State → Prop} {b L : Nat} {xs : Nat → Int32} {μ : mM} {σ : Sg} {i : Nat} (C : Cx G mL E) (S : Sc G E b L xs) (hi : i + 6 ≤ L) (h : SgOk σ ∧ Cr σ μ ∧ Mr σ μ) (kk : ∀ σ' μ', SgOk σ' ∧ Cr σ' μ' ∧ Mr σ' μ' → Wm G mL E (lB Q) μ' 876 [(0, .ref b), (1, .ref (gb G + 0)), (2, .ref (gb G + 132)), (3, .int (nI i))] []) : Wm G mL E (lB Q) μ 738 [(0, .ref b), (1, .ref (gb G + 0)), (2, .ref (gb G + 132)), (3, .int (nI i))] [] := by
  obtain ⟨ok, hc, hm⟩ := h
  refine L_aload_n C (i := 1) dL_law_738 rfl rfl ?_
  refine L_aload_n C (i := 0) dL_law_739 rfl rfl ?_
  refine L_iload_n C (i := 3) dL_law_740 rfl rfl ?_
  refine L_iconst C (v := 1) dL_law_741 rfl ?_
  refine L_iadd C dL_law_742 ?_
  refine L_scr C S (sc_in (k := 1) (by omega) S.2.2.2) dL_law_743 ?_
  refine L_aload_n C (i := 0) dL_law_744 rfl rfl ?_
  refine L_iload_n C (i := 3) dL_law_745 rfl rfl ?_
  refine L_iconst C (v := 2) dL_law_746 rfl ?_
  refine L_iadd C dL_law_747 ?_
  refine L_scr C S (sc_in (k := 2) (by omega) S.2.2.2) dL_law_748 ?_
  refine L_invV2i C dL_law_749 sh_0 cal_X11_guilty lk_L_119 ⟨Nat.le_of_ble_eq_true rfl, Nat.le_of_ble_eq_true rfl⟩ ⟨Nat.le_of_ble_eq_true rfl, Nat.le_of_ble_eq_true rfl⟩ (Nat.le_of_ble_eq_true rfl) (x_guilty ok hc (xs (nI i + 1).toNatClampNeg) (xs (nI i + 2).toNatClampNeg) _ (fun μ1 F1 c1 => ?_))
  refine L_aload_n C (i := 2) dL_law_752 rfl rfl ?_
  refine L_aload_n C (i := 0) dL_law_753 rfl rfl ?_
  refine L_iload_n C (i := 3) dL_law_754 rfl rfl ?_
  refine L_iconst C (v := 1) dL_law_755 rfl ?_
  refine L_iadd C dL_law_756 ?_
  refine L_scr C S (sc_in (k := 1) (by omega) S.2.2.2) dL_law_757 ?_
  refine L_aload_n C (i := 0) dL_law_758 rfl rfl ?_
  refine L_iload_n C (i := 3) dL_law_759 rfl rfl ?_
  refine L_iconst C (v := 2) dL_law_760 rfl ?_
  refine L_iadd C dL_law_761 ?_
  refine L_scr C S (sc_in (k := 2) (by omega) S.2.2.2) dL_law_762 ?_
  refine L_invV2i C dL_law_763 sh_132 cal_X12_guilty lk_L_122 ⟨Nat.le_of_ble_eq_true rfl, Nat.le_of_ble_eq_true rfl⟩ ⟨Nat.le_of_ble_eq_true rfl, Nat.le_of_ble_eq_true rfl⟩ (Nat.le_of_ble_eq_true rfl) (m_guilty ok (hm.up F1) (xs (nI i + 1).toNatClampNeg) (xs (nI i + 2).toNatClampNeg) _ (fun μ2 F2 m2 => ?_))
  exact L_icmp_eq C (tgt := 876) dL_law_766 rfl (fun _ => kk _ μ2 ⟨ok1_guilty ok (xs (nI i + 1).toNatClampNeg) (xs (nI i + 2).toNatClampNeg), c1.up F2, m2⟩) (fun p => absurd rfl p)
set_option maxRecDepth 100000 in
set_option maxHeartbeats 4000000 in
theorem cs_26 {G : mG} {E : mE} {Q : State → Prop} {b L : Nat} {xs : Nat → Int32} {μ : mM} {σ : Sg} {i : Nat} (C : Cx G mL E) (S : Sc G E b L xs) (hi : i + 6 ≤ L) (h : SgOk σ ∧ Cr σ μ ∧ Mr σ μ) (kk : ∀ σ' μ', SgOk σ' ∧ Cr σ' μ' ∧ Mr σ' μ' → Wm G mL E (lB Q) μ' 876 [(0, .ref b), (1, .ref (gb G + 0)), (2, .ref (gb G + 132)), (3, .int (nI i))] []) : Wm G mL E (lB Q) μ 771 [(0, .ref b), (1, .ref (gb G + 0)), (2, .ref (gb G + 132)), (3, .int (nI i))] [] := by
  obtain ⟨ok, hc, hm⟩ := h
  refine L_aload_n C (i := 1) dL_law_771 rfl rfl ?_
  refine L_aload_n C (i := 0) dL_law_772 rfl rfl ?_
  refine L_iload_n C (i := 3) dL_law_773 rfl rfl ?_
  refine L_iconst C (v := 1) dL_law_774 rfl ?_
  refine L_iadd C dL_law_775 ?_
  refine L_scr C S (sc_in (k := 1) (by omega) S.2.2.2) dL_law_776 ?_
  refine L_invV1i C dL_law_777 sh_0 cal_X11_ask lk_L_123 ⟨Nat.le_of_ble_eq_true rfl, Nat.le_of_ble_eq_true rfl⟩ ⟨Nat.le_of_ble_eq_true rfl, Nat.le_of_ble_eq_true rfl⟩ (Nat.le_of_ble_eq_true rfl) (x_ask ok hc (xs (nI i + 1).toNatClampNeg) _ (fun μ1 F1 c1 => ?_))
  refine L_aload_n C (i := 2) dL_law_780 rfl rfl ?_
  refine L_aload_n C (i := 0) dL_law_781 rfl rfl ?_
  refine L_iload_n C (i := 3) dL_law_782 rfl rfl ?_
  refine L_iconst C (v := 1) dL_law_783 rfl ?_
  refine L_iadd C dL_law_784 ?_
  refine L_scr C S (sc_in (k := 1) (by omega) S.2.2.2) dL_law_785 ?_
  refine L_invV1i C dL_law_786 sh_132 cal_X12_ask lk_L_126 ⟨Nat.le_of_ble_eq_true rfl, Nat.le_of_ble_eq_true rfl⟩ ⟨Nat.le_of_ble_eq_true rfl, Nat.le_of_ble_eq_true rfl⟩ (Nat.le_of_ble_eq_true rfl) (m_ask ok (hm.up F1) (xs (nI i + 1).toNatClampNeg) _ (fun μ2 F2 m2 => ?_))
  exact L_icmp_eq C (tgt := 876) dL_law_789 rfl (fun _ => kk _ μ2 ⟨ok1_ask ok (xs (nI i + 1).toNatClampNeg), c1.up F2, m2⟩) (fun p => absurd rfl p)
set_option maxRecDepth 100000 in
set_option maxHeartbeats 4000000 in
theorem cs_27 {G : mG} {E : mE} {Q : State → Prop} {b L : Nat} {xs : Nat → Int32} {μ : mM} {σ : Sg} {i : Nat} (C : Cx G mL E) (S : Sc G E b L xs) (hi : i + 6 ≤ L) (h : SgOk σ ∧ Cr σ μ ∧ Mr σ μ) (kk : ∀ σ' μ', SgOk σ' ∧ Cr σ' μ' ∧ Mr σ' μ' → Wm G mL E (lB Q) μ' 876 [(0, .ref b), (1, .ref (gb G + 0)), (2, .ref (gb G + 132)), (3, .int (nI i))] []) : Wm G mL E (lB Q) μ 794 [(0, .ref b), (1, .ref (gb G + 0)), (2, .ref (gb G + 132)), (3, .int (nI i))] [] := by
  obtain ⟨ok, hc, hm⟩ := h
  refine L_aload_n C (i := 1) dL_law_794 rfl rfl ?_
  refine L_invV0i C dL_law_795 sh_0 cal_X11_undo lk_L_127 ⟨Nat.le_of_ble_eq_true rfl, Nat.le_of_ble_eq_true rfl⟩ ⟨Nat.le_of_ble_eq_true rfl, Nat.le_of_ble_eq_true rfl⟩ (Nat.le_of_ble_eq_true rfl) (x_undo ok hc  _ (fun μ1 F1 c1 => ?_))
  refine L_aload_n C (i := 2) dL_law_798 rfl rfl ?_
  refine L_invV0i C dL_law_799 sh_132 cal_X12_undo lk_L_130 ⟨Nat.le_of_ble_eq_true rfl, Nat.le_of_ble_eq_true rfl⟩ ⟨Nat.le_of_ble_eq_true rfl, Nat.le_of_ble_eq_true rfl⟩ (Nat.le_of_ble_eq_true rfl) (m_undo ok (hm.up F1)  _ (fun μ2 F2 m2 => ?_))
  exact L_icmp_eq C (tgt := 876) dL_law_802 rfl (fun _ => kk _ μ2 ⟨ok_undo ok, c1.up F2, m2⟩) (fun p => absurd rfl p)
set_option maxRecDepth 100000 in
set_option maxHeartbeats 4000000 in
theorem cs_28 {G : mG} {E : mE} {Q : State → Prop} {b L : Nat} {xs : Nat → Int32} {μ : mM} {σ : Sg} {i : Nat} (C : Cx G mL E) (S : Sc G E b L xs) (hi : i + 6 ≤ L) (h : SgOk σ ∧ Cr σ μ ∧ Mr σ μ) (kk : ∀ σ' μ', SgOk σ' ∧ Cr σ' μ' ∧ Mr σ' μ' → Wm G mL E (lB Q) μ' 876 [(0, .ref b), (1, .ref (gb G + 0)), (2, .ref (gb G + 132)), (3, .int (nI i))] []) : Wm G mL E (lB Q) μ 807 [(0, .ref b), (1, .ref (gb G + 0)), (2, .ref (gb G + 132)), (3, .int (nI i))] [] := by
  obtain ⟨ok, hc, hm⟩ := h
  refine L_aload_n C (i := 1) dL_law_807 rfl rfl ?_
  refine L_aload_n C (i := 0) dL_law_808 rfl rfl ?_
  refine L_iload_n C (i := 3) dL_law_809 rfl rfl ?_
  refine L_iconst C (v := 1) dL_law_810 rfl ?_
  refine L_iadd C dL_law_811 ?_
  refine L_scr C S (sc_in (k := 1) (by omega) S.2.2.2) dL_law_812 ?_
  refine L_invV1i C dL_law_813 sh_0 cal_X11_keep lk_L_131 ⟨Nat.le_of_ble_eq_true rfl, Nat.le_of_ble_eq_true rfl⟩ ⟨Nat.le_of_ble_eq_true rfl, Nat.le_of_ble_eq_true rfl⟩ (Nat.le_of_ble_eq_true rfl) (x_keep ok hc (xs (nI i + 1).toNatClampNeg) _ (fun μ1 F1 c1 => ?_))
  refine L_aload_n C (i := 2) dL_law_816 rfl rfl ?_
  refine L_aload_n C (i := 0) dL_law_817 rfl rfl ?_
  refine L_iload_n C (i := 3) dL_law_818 rfl rfl ?_
  refine L_iconst C (v := 1) dL_law_819 rfl ?_
  refine L_iadd C dL_law_820 ?_
  refine L_scr C S (sc_in (k := 1) (by omega) S.2.2.2) dL_law_821 ?_
  refine L_invV1i C dL_law_822 sh_132 cal_X12_keep lk_L_134 ⟨Nat.le_of_ble_eq_true rfl, Nat.le_of_ble_eq_true rfl⟩ ⟨Nat.le_of_ble_eq_true rfl, Nat.le_of_ble_eq_true rfl⟩ (Nat.le_of_ble_eq_true rfl) (m_keep ok (hm.up F1) (xs (nI i + 1).toNatClampNeg) _ (fun μ2 F2 m2 => ?_))
  exact L_icmp_eq C (tgt := 876) dL_law_825 rfl (fun _ => kk _ μ2 ⟨ok_keep ok (xs (nI i + 1).toNatClampNeg), c1.up F2, m2⟩) (fun p => absurd rfl p)
set_option maxRecDepth 100000 in
set_option maxHeartbeats 4000000 in
theorem cs_29 {G : mG} {E : mE} {Q : State → Prop} {b L : Nat} {xs : Nat → Int32} {μ : mM} {σ : Sg} {i : Nat} (C : Cx G mL E) (S : Sc G E b L xs) (hi : i + 6 ≤ L) (h : SgOk σ ∧ Cr σ μ ∧ Mr σ μ) (kk : ∀ σ' μ', SgOk σ' ∧ Cr σ' μ' ∧ Mr σ' μ' → Wm G mL E (lB Q) μ' 876 [(0, .ref b), (1, .ref (gb G + 0)), (2, .ref (gb G + 132)), (3, .int (nI i))] []) : Wm G mL E (lB Q) μ 830 [(0, .ref b), (1, .ref (gb G + 0)), (2, .ref (gb G + 132)), (3, .int (nI i))] [] := by
  obtain ⟨ok, hc, hm⟩ := h
  refine L_aload_n C (i := 1) dL_law_830 rfl rfl ?_
  refine L_aload_n C (i := 0) dL_law_831 rfl rfl ?_
  refine L_iload_n C (i := 3) dL_law_832 rfl rfl ?_
  refine L_iconst C (v := 1) dL_law_833 rfl ?_
  refine L_iadd C dL_law_834 ?_
  refine L_scr C S (sc_in (k := 1) (by omega) S.2.2.2) dL_law_835 ?_
  refine L_invV1i C dL_law_836 sh_0 cal_X11_back lk_L_135 ⟨Nat.le_of_ble_eq_true rfl, Nat.le_of_ble_eq_true rfl⟩ ⟨Nat.le_of_ble_eq_true rfl, Nat.le_of_ble_eq_true rfl⟩ (Nat.le_of_ble_eq_true rfl) (x_back ok hc (xs (nI i + 1).toNatClampNeg) _ (fun μ1 F1 c1 => ?_))
  refine L_aload_n C (i := 2) dL_law_839 rfl rfl ?_
  refine L_aload_n C (i := 0) dL_law_840 rfl rfl ?_
  refine L_iload_n C (i := 3) dL_law_841 rfl rfl ?_
  refine L_iconst C (v := 1) dL_law_842 rfl ?_
  refine L_iadd C dL_law_843 ?_
  refine L_scr C S (sc_in (k := 1) (by omega) S.2.2.2) dL_law_844 ?_
  refine L_invV1i C dL_law_845 sh_132 cal_X12_back lk_L_138 ⟨Nat.le_of_ble_eq_true rfl, Nat.le_of_ble_eq_true rfl⟩ ⟨Nat.le_of_ble_eq_true rfl, Nat.le_of_ble_eq_true rfl⟩ (Nat.le_of_ble_eq_true rfl) (m_back ok (hm.up F1) (xs (nI i + 1).toNatClampNeg) _ (fun μ2 F2 m2 => ?_))
  exact L_icmp_eq C (tgt := 876) dL_law_848 rfl (fun _ => kk _ μ2 ⟨ok_back ok (xs (nI i + 1).toNatClampNeg), c1.up F2, m2⟩) (fun p => absurd rfl p)
set_option maxRecDepth 100000 in
set_option maxHeartbeats 4000000 in
theorem cs_30 {G : mG} {E : mE} {Q : State → Prop} {b L : Nat} {xs : Nat → Int32} {μ : mM} {σ : Sg} {i : Nat} (C : Cx G mL E) (S : Sc G E b L xs) (hi : i + 6 ≤ L) (h : SgOk σ ∧ Cr σ μ ∧ Mr σ μ) (kk : ∀ σ' μ', SgOk σ' ∧ Cr σ' μ' ∧ Mr σ' μ' → Wm G mL E (lB Q) μ' 876 [(0, .ref b), (1, .ref (gb G + 0)), (2, .ref (gb G + 132)), (3, .int (nI i))] []) : Wm G mL E (lB Q) μ 853 [(0, .ref b), (1, .ref (gb G + 0)), (2, .ref (gb G + 132)), (3, .int (nI i))] [] := by
  obtain ⟨ok, hc, hm⟩ := h
  refine L_aload_n C (i := 1) dL_law_853 rfl rfl ?_
  refine L_aload_n C (i := 0) dL_law_854 rfl rfl ?_
  refine L_iload_n C (i := 3) dL_law_855 rfl rfl ?_
  refine L_iconst C (v := 1) dL_law_856 rfl ?_
  refine L_iadd C dL_law_857 ?_
  refine L_scr C S (sc_in (k := 1) (by omega) S.2.2.2) dL_law_858 ?_
  refine L_invV1i C dL_law_859 sh_0 cal_X11_count lk_L_139 ⟨Nat.le_of_ble_eq_true rfl, Nat.le_of_ble_eq_true rfl⟩ ⟨Nat.le_of_ble_eq_true rfl, Nat.le_of_ble_eq_true rfl⟩ (Nat.le_of_ble_eq_true rfl) (x_count ok hc (xs (nI i + 1).toNatClampNeg) _ (fun μ1 F1 c1 => ?_))
  refine L_aload_n C (i := 2) dL_law_862 rfl rfl ?_
  refine L_aload_n C (i := 0) dL_law_863 rfl rfl ?_
  refine L_iload_n C (i := 3) dL_law_864 rfl rfl ?_
  refine L_iconst C (v := 1) dL_law_865 rfl ?_
  refine L_iadd C dL_law_866 ?_
  refine L_scr C S (sc_in (k := 1) (by omega) S.2.2.2) dL_law_867 ?_
  refine L_invV1i C dL_law_868 sh_132 cal_X12_count lk_L_142 ⟨Nat.le_of_ble_eq_true rfl, Nat.le_of_ble_eq_true rfl⟩ ⟨Nat.le_of_ble_eq_true rfl, Nat.le_of_ble_eq_true rfl⟩ (Nat.le_of_ble_eq_true rfl) (m_count ok (hm.up F1) (xs (nI i + 1).toNatClampNeg) _ (fun μ2 F2 m2 => ?_))
  exact L_icmp_eq C (tgt := 876) dL_law_871 rfl (fun _ => kk _ μ2 ⟨ok1_count ok (xs (nI i + 1).toNatClampNeg), c1.up F2, m2⟩) (fun p => absurd rfl p)
theorem a31 (x : Int32) : ∃ k, k < 32 ∧ x &&& 31 = nI k := by
  refine ⟨(x &&& 31).toBitVec.toNat, ?_, ?_⟩
  · have e : (x &&& 31).toBitVec = x.toBitVec &&& 31#32 := rfl
    rw [e, BitVec.toNat_and]
    exact Nat.lt_of_le_of_lt Nat.and_le_right (by decide)
  · show _ = Int32.ofNat _
    exact (Int32.toBitVec_inj.mp (by rw [Int32.toBitVec_ofNat']; exact (BitVec.ofNat_toNat _ _).symm ▸ (BitVec.setWidth_eq _).symm))
set_option maxRecDepth 100000 in
set_option maxHeartbeats 8000000 in
theorem cs_all {G : mG} {E : mE} {Q : State → Prop} {b L : Nat} {xs : Nat → Int32} {μ : mM} {σ : Sg} {i : Nat} (C : Cx G mL E) (S : Sc G E b L xs) (hi : i + 6 ≤ L) (h : SgOk σ ∧ Cr σ μ ∧ Mr σ μ) (kk : ∀ σ' μ', SgOk σ' ∧ Cr σ' μ' ∧ Mr σ' μ' → Wm G mL E (lB Q) μ' 876 [(0, .ref b), (1, .ref (gb G + 0)), (2, .ref (gb G + 132)), (3, .int (nI i))] []) {k : Nat} (hk : k < 32) : Wm G mL E (lB Q) μ 33 [(0, .ref b), (1, .ref (gb G + 0)), (2, .ref (gb G + 132)), (3, .int (nI i))] [.int (nI k)] := by
  match k, hk with
  | 0, _ => exact L_tabIn C (tgt := 172) dL_law_33 (by decide) (by decide) (by rfl) rfl (cs_0 C S hi h kk)
  | 1, _ => exact L_tabIn C (tgt := 235) dL_law_33 (by decide) (by decide) (by rfl) rfl (cs_1 C S hi h kk)
  | 2, _ => exact L_tabIn C (tgt := 258) dL_law_33 (by decide) (by decide) (by rfl) rfl (cs_2 C S hi h kk)
  | 3, _ => exact L_tabIn C (tgt := 271) dL_law_33 (by decide) (by decide) (by rfl) rfl (cs_3 C S hi h kk)
  | 4, _ => exact L_tabIn C (tgt := 294) dL_law_33 (by decide) (by decide) (by rfl) rfl (cs_4 C S hi h kk)
  | 5, _ => exact L_tabIn C (tgt := 327) dL_law_33 (by decide) (by decide) (by rfl) rfl (cs_5 C S hi h kk)
  | 6, _ => exact L_tabIn C (tgt := 350) dL_law_33 (by decide) (by decide) (by rfl) rfl (cs_6 C S hi h kk)
  | 7, _ => exact L_tabIn C (tgt := 393) dL_law_33 (by decide) (by decide) (by rfl) rfl (cs_7 C S hi h kk)
  | 8, _ => exact L_tabIn C (tgt := 426) dL_law_33 (by decide) (by decide) (by rfl) rfl (cs_8 C S hi h kk)
  | 9, _ => exact L_tabIn C (tgt := 449) dL_law_33 (by decide) (by decide) (by rfl) rfl (cs_9 C S hi h kk)
  | 10, _ => exact L_tabIn C (tgt := 462) dL_law_33 (by decide) (by decide) (by rfl) rfl (cs_10 C S hi h kk)
  | 11, _ => exact L_tabIn C (tgt := 485) dL_law_33 (by decide) (by decide) (by rfl) rfl (cs_11 C S hi h kk)
  | 12, _ => exact L_tabIn C (tgt := 509) dL_law_33 (by decide) (by decide) (by rfl) rfl (cs_12 C S hi h kk)
  | 13, _ => exact L_tabIn C (tgt := 522) dL_law_33 (by decide) (by decide) (by rfl) rfl (cs_13 C S hi h kk)
  | 14, _ => exact L_tabIn C (tgt := 535) dL_law_33 (by decide) (by decide) (by rfl) rfl (cs_14 C S hi h kk)
  | 15, _ => exact L_tabIn C (tgt := 548) dL_law_33 (by decide) (by decide) (by rfl) rfl (cs_15 C S hi h kk)
  | 16, _ => exact L_tabIn C (tgt := 571) dL_law_33 (by decide) (by decide) (by rfl) rfl (cs_16 C S hi h kk)
  | 17, _ => exact L_tabIn C (tgt := 584) dL_law_33 (by decide) (by decide) (by rfl) rfl (cs_17 C S hi h kk)
  | 18, _ => exact L_tabIn C (tgt := 597) dL_law_33 (by decide) (by decide) (by rfl) rfl (cs_18 C S hi h kk)
  | 19, _ => exact L_tabIn C (tgt := 610) dL_law_33 (by decide) (by decide) (by rfl) rfl (cs_19 C S hi h kk)
  | 20, _ => exact L_tabIn C (tgt := 623) dL_law_33 (by decide) (by decide) (by rfl) rfl (cs_20 C S hi h kk)
  | 21, _ => exact L_tabIn C (tgt := 646) dL_law_33 (by decide) (by decide) (by rfl) rfl (cs_21 C S hi h kk)
  | 22, _ => exact L_tabIn C (tgt := 669) dL_law_33 (by decide) (by decide) (by rfl) rfl (cs_22 C S hi h kk)
  | 23, _ => exact L_tabIn C (tgt := 682) dL_law_33 (by decide) (by decide) (by rfl) rfl (cs_23 C S hi h kk)
  | 24, _ => exact L_tabIn C (tgt := 705) dL_law_33 (by decide) (by decide) (by rfl) rfl (cs_24 C S hi h kk)
  | 25, _ => exact L_tabIn C (tgt := 738) dL_law_33 (by decide) (by decide) (by rfl) rfl (cs_25 C S hi h kk)
  | 26, _ => exact L_tabIn C (tgt := 771) dL_law_33 (by decide) (by decide) (by rfl) rfl (cs_26 C S hi h kk)
  | 27, _ => exact L_tabIn C (tgt := 794) dL_law_33 (by decide) (by decide) (by rfl) rfl (cs_27 C S hi h kk)
  | 28, _ => exact L_tabIn C (tgt := 807) dL_law_33 (by decide) (by decide) (by rfl) rfl (cs_28 C S hi h kk)
  | 29, _ => exact L_tabIn C (tgt := 830) dL_law_33 (by decide) (by decide) (by rfl) rfl (cs_29 C S hi h kk)
  | 30, _ => exact L_tabIn C (tgt := 853) dL_law_33 (by decide) (by decide) (by rfl) rfl (cs_30 C S hi h kk)
  | 31, _ => exact L_tabOut C (tgt := 876) dL_law_33 (Or.inr (by decide)) rfl (kk σ μ h)
  | k + 32, hk => exact absurd hk (by omega)
set_option maxRecDepth 100000 in
set_option maxHeartbeats 8000000 in
theorem law_loop {G : mG} {E : mE} {Q : State → Prop} {b L : Nat} {xs : Nat → Int32} (C : Cx G mL E) (S : Sc G E b L xs) (kend : ∀ μ lv, Wm G mL E (lB Q) μ 882 lv []) :
    ∀ d i, L < i + 6 * d + 6 → ∀ μ σ, SgOk σ ∧ Cr σ μ ∧ Mr σ μ → i < 4000 → Wm G mL E (lB Q) μ 18 [(0, .ref b), (1, .ref (gb G + 0)), (2, .ref (gb G + 132)), (3, .int (nI i))] [] := by
  have hL := S.2.2.2
  have head : ∀ i μ, i < 4000 → (i + 6 ≤ L → Wm G mL E (lB Q) μ 27 [(0, .ref b), (1, .ref (gb G + 0)), (2, .ref (gb G + 132)), (3, .int (nI i))] []) → Wm G mL E (lB Q) μ 18 [(0, .ref b), (1, .ref (gb G + 0)), (2, .ref (gb G + 132)), (3, .int (nI i))] [] := fun i μ hi k => by
    refine L_iload_n C (i := 3) dL_law_18 rfl rfl ?_
    refine L_aload_n C (i := 0) dL_law_19 rfl rfl ?_
    refine L_scl C S dL_law_20 ?_
    refine L_bipush C (v := 6) dL_law_21 rfl ?_
    refine L_isub C dL_law_23 ?_
    refine L_icmp_gt C (tgt := 882) dL_law_24 rfl (fun _ => kend _ _) (fun p => k ?_)
    rw [Int32.lt_iff_toInt_lt, Int32.toInt_sub, nI_toInt (by omega), nI_toInt (by omega), show (6 : Int32).toInt = 6 from rfl, Int.bmod_eq_of_le (by omega) (by omega)] at p
    omega
  intro d
  induction d with
  | zero => exact fun i h μ σ _ h4 => head i μ h4 (fun z => by omega)
  | succ d ih =>
    intro i hd μ σ h h4
    refine head i μ h4 fun hi => ?_
    refine L_aload_n C (i := 0) dL_law_27 rfl rfl ?_
    refine L_iload_n C (i := 3) dL_law_28 rfl rfl ?_
    refine L_scr C S (vp_in_nI (by omega) (by omega)) dL_law_29 ?_
    refine L_bipush C (v := 31) dL_law_30 rfl ?_
    refine L_iand C dL_law_32 ?_
    obtain ⟨k, hk, e⟩ := a31 (xs (nI i).toNatClampNeg)
    rw [e]
    refine cs_all C S hi h (fun σ' μ' h' => ?_) hk
    refine L_iinc C (i := 3) (v := 6) dL_law_876 rfl rfl (by decide) ?_
    refine L_goto C (tgt := 18) dL_law_879 rfl ?_
    have hn := ih (i + 6) (by omega) μ' σ' h' (by omega)
    rw [← nI_add i 6] at hn
    exact hn

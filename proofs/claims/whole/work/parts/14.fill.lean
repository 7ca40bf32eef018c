/-! THE MODEL: how many lawful rows there are, by trial -/
theorem brk_congr {P : Pl} {t t' : Nat → Nat} {c i : Nat} (h : ∀ j, j ≤ c → t j = t' j) : brk P t c i ↔ brk P t' c i := by
  unfold brk
  constructor
  · rintro ⟨a, b⟩
    exact ⟨a, fun j hj => ⟨(b j hj).1, by rw [(b j hj).2, h j (b j hj).1]⟩⟩
  · rintro ⟨a, b⟩
    exact ⟨a, fun j hj => ⟨(b j hj).1, by rw [(b j hj).2, h j (b j hj).1]⟩⟩
theorem last_col {a : Nat → Nat} : ∀ {n : Nat}, (∃ c, c < n ∧ a c ≠ 0) → ∃ j, j < n ∧ a j ≠ 0 ∧ ∀ j', j' < n → a j' ≠ 0 → j' ≤ j
  | 0, h => by obtain ⟨c, h1, -⟩ := h; omega
  | n + 1, h => by
    by_cases q : a n = 0
    · obtain ⟨c, h1, h2⟩ := h
      have h3 : c < n := by
        rcases Nat.lt_or_ge c n with z | z
        · exact z
        · have : c = n := by omega
          subst this
          exact absurd q h2
      obtain ⟨j, b1, b2, b3⟩ := last_col ⟨c, h3, h2⟩
      refine ⟨j, by omega, b2, fun j' h4 h5 => ?_⟩
      by_cases z : j' = n
      · subst z; exact absurd q h5
      · exact b3 j' (by omega) h5
    · exact ⟨n, by omega, q, fun j' h4 _ => by omega⟩
def preF (s : Nat → Nat) (j : Nat) : Nat → Nat := fun i => if i < j then s i - 1 else 0
def xF (P : Pl) (r s : Nat → Nat) (j v : Nat) : Nat := cntF (goodB P r) (qC P - j - 1) (j + 1) (up (preF s j) j v)
def remF (P : Pl) (r s : Nat → Nat) (j : Nat) : Nat := sm 4 (fun v => if s j ≤ v then xF P r s j v else 0)
def phF (s : Nat → Nat) (cc : Nat) : Nat := sm cc (fun j => (5 - s j) * 6 ^ (8 - j))
theorem preF_congr {s s' : Nat → Nat} {j : Nat} (h : ∀ i, i < j → s i = s' i) : preF s j = preF s' j := by
  funext i
  unfold preF
  by_cases q : i < j
  · rw [if_pos q, if_pos q, h i q]
  · rw [if_neg q, if_neg q]
theorem xF_congr {P : Pl} {r s s' : Nat → Nat} {j v : Nat} (h : ∀ i, i < j → s i = s' i) : xF P r s j v = xF P r s' j v := by
  unfold xF
  rw [preF_congr h]
theorem remF_congr {P : Pl} {r s s' : Nat → Nat} {j : Nat} (h : ∀ i, i ≤ j → s i = s' i) : remF P r s j = remF P r s' j := by
  unfold remF
  refine sm_congr fun v _ => ?_
  rw [xF_congr (fun i hi => h i (by omega)), h j (Nat.le_refl j)]
theorem remF_step {P : Pl} {r s : Nat → Nat} {c v : Nat} (h1 : s c ≤ v) (h2 : v < 4) (h3 : ∀ v', s c ≤ v' → v' < v → xF P r s c v' = 0) : remF P r s c = xF P r s c v + remF P r (up s c (v + 1)) c := by
  have e : ∀ v', (if up s c (v + 1) c ≤ v' then xF P r (up s c (v + 1)) c v' else 0) = if v + 1 ≤ v' then xF P r s c v' else 0 := by
    intro v'
    rw [xF_congr (s' := s) (fun i hi => by rw [up_at, if_neg (by omega)]), up_at, if_pos rfl]
  have e2 : sm 4 (fun v' => if v' = v then xF P r s c v' else 0) = xF P r s c v := by
    rw [sm_one h2 (fun i _ hne => if_neg hne), if_pos rfl]
  rw [← e2]
  unfold remF
  rw [sm_congr (fun v' _ => e v'), ← sm_add]
  refine sm_congr fun v' hv' => ?_
  by_cases q : v' = v
  · subst q
    rw [if_pos h1, if_pos rfl, if_neg (by omega)]; rfl
  · rw [if_neg q]
    by_cases q2 : v + 1 ≤ v'
    · rw [if_pos q2, if_pos (by omega), Nat.zero_add]
    · rw [if_neg q2]
      by_cases q3 : s c ≤ v'
      · rw [if_pos q3, h3 v' q3 (by omega)]
      · rw [if_neg q3]
/-- a level that can't be told -/
theorem xF_0 {P : Pl} {r s : Nat → Nat} {c v : Nat} (hc : c < qC P) (h : qL P c ≤ v ∨ (r c ≠ 0 ∧ r c ≠ v + 1)) : xF P r s c v = 0 := by
  refine cntF_0 fun f' h1 _ => ?_
  have e : f' c = v := by rw [h1 c (by omega), up_at, if_pos rfl]
  cases hg : goodB P r f' with
  | false => rfl
  | true =>
    exfalso
    obtain ⟨g1, g2, -⟩ := goodB_iff.mp hg
    rcases h with h | ⟨h2, h3⟩
    · have := g1 c hc; omega
    · have := g2 c hc h2; omega
/-- a road on which a never is had -/
theorem xF_brk {P : Pl} (h : PW P) {r s : Nat → Nat} {c v i : Nat} (hc : c < qC P) (hi : i < qN P) (hb : brk P (up (preF s c) c v) c i) : xF P r s c v = 0 := by
  refine cntF_0 fun f' h1 _ => ?_
  cases hg : goodB P r f' with
  | false => rfl
  | true =>
    exfalso
    obtain ⟨-, -, g3⟩ := goodB_iff.mp hg
    obtain ⟨j, hj, b1, b2⟩ := g3 i hi
    obtain ⟨b3, b4⟩ := hb.2 j b1
    rw [h1 j (by omega)] at b2
    exact b2 b4
theorem xF_last {P : Pl} (h : PW P) {r s : Nat → Nat} {c v : Nat} (hc : c + 1 = qC P) (hf : ∀ j, j < c → s j - 1 < qL P j ∧ (r j ≠ 0 → r j = s j - 1 + 1)) (hv : v < qL P c) (hr : r c ≠ 0 → r c = v + 1)
    (hb : ∀ j, j ≤ c → ∀ i, i < qN P → ¬ brk P (up (preF s c) c v) j i) : xF P r s c v = 1 := by
  unfold xF
  rw [show qC P - c - 1 = 0 by omega, cntF]
  have e : ∀ j, j < c → up (preF s c) c v j = s j - 1 := fun j hj => by
    rw [up_at, if_neg (by omega)]
    unfold preF
    rw [if_pos hj]
  have ec : up (preF s c) c v c = v := by rw [up_at, if_pos rfl]
  have hg : goodB P r (up (preF s c) c v) = true := by
    refine goodB_iff.mpr ⟨fun j hj => ?_, fun j hj hn => ?_, fun i hi => ?_⟩
    · by_cases q : j = c
      · subst q; rw [ec]; exact hv
      · rw [e j (by omega)]; exact (hf j (by omega)).1
    · by_cases q : j = c
      · subst q; rw [ec]; exact hr hn
      · rw [e j (by omega)]; exact (hf j (by omega)).2 hn
    · obtain ⟨c0, hc0⟩ := h.2.2.2.2.2.2 i hi
      obtain ⟨j, hj, b1, b2⟩ := last_col (n := qC P) ⟨c0, (h.2.2.2.2.2.1 i c0 hc0).2.1, hc0⟩
      refine Classical.byContradiction fun nn => hb j (by omega) i hi ⟨b1, fun j' hj' => ?_⟩
      have hj'C := (h.2.2.2.2.2.1 i j' hj').2.1
      refine ⟨b2 j' hj'C hj', Classical.byContradiction fun q => nn ⟨j', hj'C, hj', q⟩⟩
  rw [hg]; rfl
theorem s_fillings {G : mG} {Q : Int32 → mM → Prop} {μ : mM} {P : Pl} (h : PW P) (hn : NowP (μ 135) P) {r : Nat → Nat} (hr : ∀ c, c < qC P → μ 138 c = cv (r c) ∧ r c ≤ qL P c) {one : Nat} (ho : one ≤ 1)
    (k : ∀ g, Q (nI (if one = 1 then (canB P r).toNat else cnt P r)) (mrw μ 139 g)) : CtI G mX12_fillings [.ref (gb G + 132), .int (nI one)] μ Q := by
  have hC : qC P ≤ 8 := h.ct.2.2.2
  have hC2 : 2 ≤ qC P := h.1
  refine e_X12_fillings fun E C => k_X12_fillings_0 C ?_
  have loop : ∀ (d cc many : Nat) (s : Nat → Nat) (g : Nat → Int32), phF s cc < d → cc ≤ qC P → (∀ j, j < cc → s j ≤ 4 ∧ g j = cv (s j)) →
      (∀ j, j + 1 < cc → 1 ≤ s j ∧ s j - 1 < qL P j ∧ (r j ≠ 0 → r j = s j - 1 + 1) ∧ ∀ i, i < qN P → ¬ brk P (fun q => s q - 1) j i) →
      many + sm cc (remF P r s) = cnt P r → (one = 1 → many = 0) →
      Wm G mX12_fillings E (bm G mX12_fillings E (pI Q)) (mrw μ 139 g) 11 [(0, .ref (gb G + 132)), (1, .int (nI one)), (2, .int (nI many)), (3, .int (cv cc))] [] := by
    intro d
    induction d with
    | zero => intro cc many s g hd; exact absurd hd (Nat.not_lt_zero _)
    | succ d ih =>
      intro cc many s g hd hcc hs hv hm h1
      cases cc with
      | zero =>
        refine k_X12_fillings_11 C (fun _ => ?_) ?_ ?_ ?_ ?_ ?_
        · have e : (if one = 1 then (canB P r).toNat else cnt P r) = many := by
            rw [sm] at hm
            by_cases q : one = 1
            · rw [if_pos q]
              have e0 : cnt P r = 0 := by have := h1 q; omega
              have e1 : canB P r = false := by unfold canB; rw [e0]; rfl
              rw [e1, h1 q]; rfl
            · rw [if_neg q]; omega
          have := k g
          rw [e] at this
          exact this
        all_goals
          intro p
          exact absurd (by decide) p
      | succ c =>
        have hcC : c < qC P := by omega
        obtain ⟨r1, r2⟩ := hr c hcC
        have hl := h.lv hcC
        obtain ⟨s1, s2⟩ := hs c (by omega)
        have l1 : (mrw μ 139 g) 135 (5 + c) = nI (qL P c) := by rw [mrw_ne (by decide)]; exact hn.2.2.2.1 c hcC
        have l0 : (mrw μ 139 g) 135 0 = nI (qC P) := by rw [mrw_ne (by decide)]; exact hn.1
        have l2 : (mrw μ 139 g) 138 c = cv (r c) := by rw [mrw_ne (by decide)]; exact r1
        have l3 : (mrw μ 139 g) 139 c = cv (s c) := by rw [mrw_at]; exact s2
        have ph1 : phF s (c + 1) = phF s c + (5 - s c) * 6 ^ (8 - c) := rfl
        have p6 : 1 ≤ 6 ^ (8 - c) := Nat.one_le_pow _ _ (by decide)
        have adv : ∀ v, s c ≤ v → v < qL P c → (r c ≠ 0 → r c = v + 1) → (r c = 0 → v = s c) →
            CtI G mX12_breaks [.ref (gb G + 132), .int (nI c)] (mrw μ 139 (upd g c (nI v))) (fun r' μ' => Wm G mX12_fillings E (bm G mX12_fillings E (pI Q)) μ' 46 [(0, .ref (gb G + 132)), (1, .int (nI one)), (2, .int (nI many)), (3, .int (nI c))] [.int r']) := by
          intro v v1 v2 v3 v4
          have skip : ∀ v', s c ≤ v' → v' < v → xF P r s c v' = 0 := fun v' a b => xF_0 hcC (by
            by_cases q : r c = 0
            · have := v4 q; omega
            · exact Or.inr ⟨q, by have := v3 q; omega⟩)
          have stp := remF_step v1 (by omega) skip
          have hsm : sm (c + 1) (remF P r (up s c (v + 1))) = sm c (remF P r s) + remF P r (up s c (v + 1)) c := by
            rw [sm]
            congr 1
            exact sm_congr fun j hj => remF_congr fun i hi => by rw [up_at, if_neg (by omega)]
          have hsm0 : sm (c + 1) (remF P r s) = sm c (remF P r s) + remF P r s c := rfl
          have hph : phF (up s c (v + 1)) (c + 1) = phF s c + (5 - (v + 1)) * 6 ^ (8 - c) := by
            show sm (c + 1) _ = _
            rw [sm]
            congr 1
            · exact sm_congr fun j hj => by rw [up_at, if_neg (by omega)]
            · rw [up_at, if_pos rfl]
          have hmul : (5 - (v + 1)) * 6 ^ (8 - c) + 6 ^ (8 - c) ≤ (5 - s c) * 6 ^ (8 - c) := by
            rw [← Nat.succ_mul]
            exact Nat.mul_le_mul_right _ (by omega)
          have hs' : ∀ j, j < c + 1 → up s c (v + 1) j ≤ 4 ∧ upd g c (nI v) j = cv (up s c (v + 1) j) := by
            intro j hj
            rw [up_at, upd_at]
            by_cases q : j = c
            · rw [if_pos q, if_pos q, cv_s]; exact ⟨by omega, rfl⟩
            · rw [if_neg q, if_neg q]; exact hs j (by omega)
          have tq : ∀ j, j ≤ c → up (preF s c) c v j = up s c (v + 1) j - 1 := by
            intro j hj
            rw [up_at, up_at]
            by_cases q : j = c
            · rw [if_pos q, if_pos q]; rfl
            · rw [if_neg q, if_neg q]
              unfold preF
              rw [if_pos (by omega)]
          refine s_breaks h (by rw [mrw_ne (by decide)]; exact hn) hcC (up (preF s c) c v) (fun j hj => ?_) (fun hb => ?_) (fun hb => ?_)
          · rw [mrw_at, tq j hj, (hs' j (by omega)).2]
            by_cases q : j = c
            · subst q
              rw [up_at, if_pos rfl, cv_s]
              exact ⟨rfl, by omega⟩
            · have := (hv j (by omega)).1
              rw [up_at, if_neg q]
              obtain ⟨z, hz⟩ : ∃ z, s j = z + 1 := ⟨s j - 1, by omega⟩
              rw [hz, cv_s]
              exact ⟨rfl, by have := (hs j (by omega)).1; omega⟩
          · obtain ⟨i, hi, hb⟩ := hb
            have hx0 := xF_brk (r := r) h hcC hi hb
            refine k_X12_fillings_46 C (fun p => absurd p (by decide)) (fun p => absurd p (by decide)) (fun p => absurd p (by decide)) (fun p => absurd p (by decide)) (fun _ => ?_)
            rw [← cv_s c]
            refine ih (c + 1) many (up s c (v + 1)) _ (by omega) hcc hs' (fun j hj => ?_) (by omega) h1
            have e0 : up s c (v + 1) j = s j := by rw [up_at, if_neg (by omega)]
            obtain ⟨a1, a2, a3, a4⟩ := hv j (by omega)
            rw [e0]
            exact ⟨a1, a2, a3, fun i hi hb' => a4 i hi ((brk_congr (fun q hq => by show up s c (v + 1) q - 1 = s q - 1; rw [up_at, if_neg (by omega)])).mp hb')⟩
          · have valid : ∀ j, j < c + 1 → 1 ≤ up s c (v + 1) j ∧ up s c (v + 1) j - 1 < qL P j ∧ (r j ≠ 0 → r j = up s c (v + 1) j - 1 + 1) ∧ ∀ i, i < qN P → ¬ brk P (fun q => up s c (v + 1) q - 1) j i := by
              intro j hj
              by_cases q : j = c
              · subst q
                rw [up_at, if_pos rfl]
                exact ⟨by omega, by omega, fun z => by have := v3 z; omega, fun i hi hb' => hb i hi ((brk_congr (fun q hq => (tq q hq).symm)).mp hb')⟩
              · have e0 : up s c (v + 1) j = s j := by rw [up_at, if_neg q]
                obtain ⟨a1, a2, a3, a4⟩ := hv j (by omega)
                rw [e0]
                exact ⟨a1, a2, a3, fun i hi hb' => a4 i hi ((brk_congr (fun q hq => by show up s c (v + 1) q - 1 = s q - 1; rw [up_at, if_neg (by omega)])).mp hb')⟩
            have lastone : c + 1 = qC P → xF P r s c v = 1 := by
              intro hl2
              refine xF_last h hl2 (fun j hj => ?_) v2 v3 (fun j hj i hi hb' => ?_)
              · obtain ⟨a1, a2, a3, a4⟩ := hv j (by omega)
                exact ⟨a2, a3⟩
              · exact (valid j (by omega)).2.2.2 i hi ((brk_congr (fun q hq => tq q (by omega))).mp hb')
            refine k_X12_fillings_46 C (fun _ => ?_) (fun _ => ?_) (fun _ => ?_) (fun _ => ?_) (fun p => absurd rfl p)
            · rw [mrw_ne (by decide), hn.1]
              simp (disch := omega) only [ofNat_nI, nI_add, pk_mul, nI_clamp, nI_leI, nI_ltI, nI_eq, vp_in_nI_iff, nI_subr, nI_m1r, m1_eq, m1_eq2, m1_le, m1_le2, m1_lt, m1_lt2, m1_self, cv_sub, cv_add1, cv_eq, cv_eqI, cv_eqI2, cv_m1, cv_lt0, cv_leI, cv_Ile, cv_le, cv_lt, cv_Ilt, cv_ltI, not_true, not_false_iff, true_implies, false_implies, false_or, or_false, true_and, and_true, false_and, and_false, true_or, or_true]
              intro _
              omega
            · rw [mrw_ne (by decide), hn.1]
              simp (disch := omega) only [ofNat_nI, nI_add, pk_mul, nI_clamp, nI_leI, nI_ltI, nI_eq, vp_in_nI_iff, nI_subr, nI_m1r, m1_eq, m1_eq2, m1_le, m1_le2, m1_lt, m1_lt2, m1_self, cv_sub, cv_add1, cv_eq, cv_eqI, cv_eqI2, cv_m1, cv_lt0, cv_leI, cv_Ile, cv_le, cv_lt, cv_Ilt, cv_ltI, not_true, not_false_iff, true_implies, false_implies, false_or, or_false, true_and, and_true, false_and, and_false, true_or, or_true]
              intro p
              rw [ms_mrw, ← cv_s (c + 1), show ((-nI 1 : Int32)) = cv 0 from rfl]
              refine ih (c + 1 + 1) many (up (up s c (v + 1)) (c + 1) 0) _ ?_ (by omega) (fun j hj => ?_) (fun j hj => ?_) ?_ h1
              · show sm (c + 1 + 1) _ < d
                rw [sm]
                have e1 : sm (c + 1) (fun j => (5 - up (up s c (v + 1)) (c + 1) 0 j) * 6 ^ (8 - j)) = phF (up s c (v + 1)) (c + 1) := sm_congr fun j hj => by rw [up_at, if_neg (by omega)]
                rw [e1, hph, up_at, if_pos rfl]
                have e2 : 6 ^ (8 - c) = 6 ^ (8 - (c + 1)) * 6 := by
                  rw [show 8 - c = (8 - (c + 1)) + 1 by omega, Nat.pow_succ]
                have p7 : 1 ≤ 6 ^ (8 - (c + 1)) := Nat.one_le_pow _ _ (by decide)
                omega
              · rw [up_at, upd_at]
                by_cases q : j = c + 1
                · rw [if_pos q, if_pos q]; exact ⟨by omega, rfl⟩
                · rw [if_neg q, if_neg q]; exact hs' j (by omega)
              · have e0 : up (up s c (v + 1)) (c + 1) 0 j = up s c (v + 1) j := by rw [up_at, if_neg (by omega)]
                obtain ⟨a1, a2, a3, a4⟩ := valid j (by omega)
                rw [e0]
                refine ⟨a1, a2, a3, fun i hi hb' => a4 i hi ((brk_congr (fun q hq => ?_)).mp hb')⟩
                show up (up s c (v + 1)) (c + 1) 0 q - 1 = up s c (v + 1) q - 1
                rw [up_at, if_neg (by omega)]
              · rw [sm]
                have e1 : sm (c + 1) (remF P r (up (up s c (v + 1)) (c + 1) 0)) = sm (c + 1) (remF P r (up s c (v + 1))) := sm_congr fun j hj => remF_congr fun i hi => by rw [up_at, if_neg (by omega)]
                have e2 : remF P r (up (up s c (v + 1)) (c + 1) 0) (c + 1) = xF P r s c v := by
                  unfold remF
                  have e3 : preF (up (up s c (v + 1)) (c + 1) 0) (c + 1) = up (preF s c) c v := by
                    funext i
                    show (if i < c + 1 then up (up s c (v + 1)) (c + 1) 0 i - 1 else 0) = _
                    by_cases q : i < c + 1
                    · rw [if_pos q, tq i (by omega), up_at (up s c (v + 1)), if_neg (by omega)]
                    · rw [if_neg q, up_at, if_neg (by omega)]
                      unfold preF
                      rw [if_neg (by omega)]
                  conv => rhs; unfold xF
                  rw [show qC P - c - 1 = (qC P - (c + 1) - 1) + 1 by omega, cntF]
                  refine sm_congr fun v' _ => ?_
                  rw [up_at, if_pos rfl, if_pos (Nat.zero_le _)]
                  unfold xF
                  rw [e3]
                rw [e1, e2]
                omega
            · rw [mrw_ne (by decide), hn.1]
              simp (disch := omega) only [ofNat_nI, nI_add, pk_mul, nI_clamp, nI_leI, nI_ltI, nI_eq, vp_in_nI_iff, nI_subr, nI_m1r, m1_eq, m1_eq2, m1_le, m1_le2, m1_lt, m1_lt2, m1_self, cv_sub, cv_add1, cv_eq, cv_eqI, cv_eqI2, cv_m1, cv_lt0, cv_leI, cv_Ile, cv_le, cv_lt, cv_Ilt, cv_ltI, not_true, not_false_iff, true_implies, false_implies, false_or, or_false, true_and, and_true, false_and, and_false, true_or, or_true]
              intro p o1
              have := lastone (by omega)
              rw [← cv_s c]
              exact ih (c + 1) (many + 1) (up s c (v + 1)) _ (by omega) hcc hs' (fun j hj => valid j (by omega)) (by omega) (fun z => by omega)
            · rw [mrw_ne (by decide), hn.1]
              simp (disch := omega) only [ofNat_nI, nI_add, pk_mul, nI_clamp, nI_leI, nI_ltI, nI_eq, vp_in_nI_iff, nI_subr, nI_m1r, m1_eq, m1_eq2, m1_le, m1_le2, m1_lt, m1_lt2, m1_self, cv_sub, cv_add1, cv_eq, cv_eqI, cv_eqI2, cv_m1, cv_lt0, cv_leI, cv_Ile, cv_le, cv_lt, cv_Ilt, cv_ltI, not_true, not_false_iff, true_implies, false_implies, false_or, or_false, true_and, and_true, false_and, and_false, true_or, or_true]
              intro p o1
              have := lastone (by omega)
              have ho1 : one = 1 := by omega
              have e0 := h1 ho1
              have e1 : canB P r = true := by unfold canB; exact decide_eq_true (by omega)
              have := k (upd g c (nI v))
              rw [if_pos ho1, e1] at this
              rw [e0]
              exact this
        rw [cv_s]
        refine k_X12_fillings_11 C ?_ ?_ ?_ ?_ ?_ ?_
        · intro p
          exact absurd p (nI_pos (by omega))
        · simp (disch := omega) only [ofNat_nI, nI_add, pk_mul, nI_clamp, nI_leI, nI_ltI, nI_eq, vp_in_nI_iff, nI_subr, nI_m1r, m1_eq, m1_eq2, m1_le, m1_le2, m1_lt, m1_lt2, m1_self, cv_sub, cv_add1, cv_eq, cv_eqI, cv_eqI2, cv_m1, cv_lt0, cv_leI, cv_Ile, cv_le, cv_lt, cv_Ilt, cv_ltI, not_true, not_false_iff, true_implies, false_implies, false_or, or_false, true_and, and_true, false_and, and_false, true_or, or_true]
          intros
          omega
        · simp (disch := omega) only [ofNat_nI, nI_add, pk_mul, nI_clamp, nI_leI, nI_ltI, nI_eq, vp_in_nI_iff, nI_subr, nI_m1r, m1_eq, m1_eq2, m1_le, m1_le2, m1_lt, m1_lt2, m1_self, cv_sub, cv_add1, cv_eq, cv_eqI, cv_eqI2, cv_m1, cv_lt0, cv_leI, cv_Ile, cv_le, cv_lt, cv_Ilt, cv_ltI, not_true, not_false_iff, true_implies, false_implies, false_or, or_false, true_and, and_true, false_and, and_false, true_or, or_true]
          intros
          omega
        · simp (disch := omega) only [ofNat_nI, nI_add, pk_mul, nI_clamp, nI_leI, nI_ltI, nI_eq, vp_in_nI_iff, nI_subr, nI_m1r, m1_eq, m1_eq2, m1_le, m1_le2, m1_lt, m1_lt2, m1_self, cv_sub, cv_add1, cv_eq, cv_eqI, cv_eqI2, cv_m1, cv_lt0, cv_leI, cv_Ile, cv_le, cv_lt, cv_Ilt, cv_ltI, not_true, not_false_iff, true_implies, false_implies, false_or, or_false, true_and, and_true, false_and, and_false, true_or, or_true, l0, l1, l2, l3]
          intro _ p
          have hr0 : remF P r s c = 0 := by
            refine sm_zero fun v hv4 => ?_
            by_cases q : s c ≤ v
            · rw [if_pos q]
              refine xF_0 hcC ?_
              omega
            · rw [if_neg q]
          refine ih c many s g (by have : 1 ≤ (5 - s c) * 6 ^ (8 - c) := Nat.mul_pos (by omega) p6; omega) (by omega) (fun j hj => hs j (by omega)) (fun j hj => hv j (by omega)) ?_ h1
          rw [sm, hr0] at hm
          exact hm
        · simp (disch := omega) only [ofNat_nI, nI_add, pk_mul, nI_clamp, nI_leI, nI_ltI, nI_eq, vp_in_nI_iff, nI_subr, nI_m1r, m1_eq, m1_eq2, m1_le, m1_le2, m1_lt, m1_lt2, m1_self, cv_sub, cv_add1, cv_eq, cv_eqI, cv_eqI2, cv_m1, cv_lt0, cv_leI, cv_Ile, cv_le, cv_lt, cv_Ilt, cv_ltI, not_true, not_false_iff, true_implies, false_implies, false_or, or_false, true_and, and_true, false_and, and_false, true_or, or_true, l0, l1, l2, l3]
          intro _ p1 p2 _
          rw [ms_mrw]
          exact adv (s c) (Nat.le_refl _) (by omega) (fun z => absurd p1 z) (fun _ => rfl)
        · simp (disch := omega) only [ofNat_nI, nI_add, pk_mul, nI_clamp, nI_leI, nI_ltI, nI_eq, vp_in_nI_iff, nI_subr, nI_m1r, m1_eq, m1_eq2, m1_le, m1_le2, m1_lt, m1_lt2, m1_self, cv_sub, cv_add1, cv_eq, cv_eqI, cv_eqI2, cv_m1, cv_lt0, cv_leI, cv_Ile, cv_le, cv_lt, cv_Ilt, cv_ltI, not_true, not_false_iff, true_implies, false_implies, false_or, or_false, true_and, and_true, false_and, and_false, true_or, or_true, l0, l1, l2, l3]
          intro _ p1 p2 p3
          rw [ms_mrw]
          obtain ⟨z, hz⟩ : ∃ z, r c = z + 1 := ⟨r c - 1, by omega⟩
          rw [hz, cv_s]
          exact adv z (by omega) (by omega) (fun _ => hz) (fun q => by omega)
  have key := loop (phF (fun _ => 0) 1 + 1) 1 0 (fun _ => 0) (upd (μ 139) 0 (-1)) (by omega) (by omega) (fun j hj => ⟨by omega, by rw [upd_at, if_pos (by omega)]; rfl⟩) (fun j hj => by omega) (by
    rw [sm, sm, Nat.zero_add, Nat.zero_add]
    unfold remF cnt
    conv => rhs; rw [show qC P = (qC P - 0 - 1) + 1 by omega, cntF]
    refine sm_congr fun v _ => ?_
    rw [if_pos (Nat.zero_le _)]
    unfold xF
    congr 1) (fun _ => rfl)
  exact key
theorem s_canProbe {G : mG} {Q : Int32 → mM → Prop} {μ : mM} {P : Pl} (h : PW P) (hn : NowP (μ 135) P) {r : Nat → Nat} (hr : ∀ c, c < qC P → μ 138 c = cv (r c) ∧ r c ≤ qL P c)
    (k : ∀ g, Q (nI (canB P r).toNat) (mrw μ 139 g)) : CtI G mX12_canProbe [.ref (gb G + 132)] μ Q := by
  refine e_X12_canProbe fun E C => k_X12_canProbe_0 C ?_
  refine s_fillings (one := 1) h hn hr (by omega) fun g => ?_
  have kk := k g
  rw [if_pos rfl]
  cases e : canB P r with
  | true =>
    rw [e] at kk
    exact k_X12_canProbe_5 C (fun p => absurd p (by decide)) (fun _ => kk)
  | false =>
    rw [e] at kk
    exact k_X12_canProbe_5 C (fun _ => kk) (fun p => absurd (by decide) p)

/-! THE MEANING: plans, rows, mixes, counting -/
/-- a plan: columns, strength, levels, how many nevers, nevers (as rows); a row: 0 free, v + 1 level v -/
abbrev Pl : Type := Nat × Nat × (Nat → Nat) × Nat × (Nat → Nat → Nat)
abbrev qC (P : Pl) : Nat := P.1
abbrev qT (P : Pl) : Nat := P.2.1
abbrev qL (P : Pl) : Nat → Nat := P.2.2.1
abbrev qN (P : Pl) : Nat := P.2.2.2.1
abbrev qV (P : Pl) : Nat → Nat → Nat := P.2.2.2.2
def up (f : Nat → Nat) (c v : Nat) : Nat → Nat := fun j => if j = c then v else f j
theorem up_at (f : Nat → Nat) (c v j : Nat) : up f c v j = if j = c then v else f j := rfl
/-- sets of columns -/
def comb (C : Nat) : Nat → Nat → List (List Nat)
  | 0, _ => [[]]
  | T + 1, lo => (List.range' lo (C - lo)).flatMap (fun a => (comb C T (a + 1)).map (fun l => a :: l))
def st (C T i k : Nat) : Nat := ((comb C T 0).getD i []).getD k 0
def ns (C T : Nat) : Nat := (comb C T 0).length
def ctOk (C T : Nat) : Prop := 1 ≤ T ∧ T ≤ 3 ∧ T ≤ C ∧ C ≤ 8
theorem ct_all (p : Nat → Nat → Bool) (h : (List.range 9).all (fun C => (List.range 4).all (fun T => !(decide (1 ≤ T) && decide (T ≤ C)) || p C T)) = true) {C T : Nat} (hc : ctOk C T) : p C T = true := by
  have h1 := List.all_eq_true.mp h C (List.mem_range.mpr (by have := hc.2.2.2; omega))
  have h2 := List.all_eq_true.mp h1 T (List.mem_range.mpr (by have := hc.2.1; omega))
  have h3 : (decide (1 ≤ T) && decide (T ≤ C)) = true := by simp [hc.1, hc.2.2.1]
  rw [h3] at h2
  simpa using h2
theorem ns_pos {C T : Nat} (hc : ctOk C T) : 1 ≤ ns C T ∧ ns C T ≤ 56 := by
  have := ct_all (fun C T => decide (1 ≤ ns C T ∧ ns C T ≤ 56)) (by decide +kernel) hc
  exact of_decide_eq_true this
theorem st_0 {C T k : Nat} (hc : ctOk C T) (hk : k < T) : st C T 0 k = k := by
  have := ct_all (fun C T => (List.range T).all (fun k => decide (st C T 0 k = k))) (by decide +kernel) hc
  exact of_decide_eq_true (List.all_eq_true.mp this k (List.mem_range.mpr hk))
theorem st_lt {C T i k : Nat} (hc : ctOk C T) (hi : i < ns C T) (hk : k < T) : st C T i k < C ∧ st C T i k ≤ C - T + k ∧ k ≤ st C T i k := by
  have := ct_all (fun C T => (List.range (ns C T)).all (fun i => (List.range T).all (fun k => decide (st C T i k < C ∧ st C T i k ≤ C - T + k ∧ k ≤ st C T i k)))) (by decide +kernel) hc
  exact of_decide_eq_true (List.all_eq_true.mp (List.all_eq_true.mp this i (List.mem_range.mpr hi)) k (List.mem_range.mpr hk))
theorem st_up {C T i k j : Nat} (hc : ctOk C T) (hi : i < ns C T) (hk : k < T) (hj : j < k) : st C T i j < st C T i k := by
  have := ct_all (fun C T => (List.range (ns C T)).all (fun i => (List.range T).all (fun k => (List.range k).all (fun j => decide (st C T i j < st C T i k))))) (by decide +kernel) hc
  exact of_decide_eq_true (List.all_eq_true.mp (List.all_eq_true.mp (List.all_eq_true.mp this i (List.mem_range.mpr hi)) k (List.mem_range.mpr hk)) j (List.mem_range.mpr hj))
theorem st_inj {C T i k j : Nat} (hc : ctOk C T) (hi : i < ns C T) (hk : k < T) (hj : j < T) (h : st C T i j = st C T i k) : j = k := by
  rcases Nat.lt_trichotomy j k with q | q | q
  · have := st_up hc hi hk q; omega
  · exact q
  · have := st_up hc hi hj q; omega
/-- the last set has no next one -/
theorem st_end {C T i : Nat} (hc : ctOk C T) (hi : i < ns C T) : (∀ k, k < T → st C T i k = C - T + k) ↔ i + 1 = ns C T := by
  have := ct_all (fun C T => (List.range (ns C T)).all (fun i => decide ((∀ k, k < T → st C T i k = C - T + k) ↔ i + 1 = ns C T))) (by decide +kernel) hc
  exact of_decide_eq_true (List.all_eq_true.mp this i (List.mem_range.mpr hi))
theorem st_next {C T i a k : Nat} (hc : ctOk C T) (hi : i + 1 < ns C T) (ha : a < T) (h1 : st C T i a ≠ C - T + a) (h2 : ∀ j, j < T → a < j → st C T i j = C - T + j) (hk : k < T) :
    st C T (i + 1) k = if k < a then st C T i k else st C T i a + 1 + (k - a) := by
  have := ct_all (fun C T => (List.range (ns C T - 1)).all (fun i => (List.range T).all (fun a => decide (st C T i a ≠ C - T + a → (∀ j, j < T → a < j → st C T i j = C - T + j) → ∀ k, k < T → st C T (i + 1) k = if k < a then st C T i k else st C T i a + 1 + (k - a))))) (by decide +kernel) hc
  exact of_decide_eq_true (List.all_eq_true.mp (List.all_eq_true.mp this i (List.mem_range.mpr (by omega))) a (List.mem_range.mpr ha)) h1 h2 k hk
/-- digits of a mixed radix, and back -/
def dvs (L : Nat → Nat) (k : Nat) : Nat → Nat → Nat
  | 0, w => w
  | n + 1, w => dvs L k n (w / L (k + n))
def dg (L : Nat → Nat) (T w k : Nat) : Nat := dvs L (k + 1) (T - 1 - k) w % L k
def hn (L l : Nat → Nat) : Nat → Nat
  | 0 => 0
  | T + 1 => hn L l T * L T + l T
theorem dg_top (L : Nat → Nat) (T w : Nat) : dg L (T + 1) w T = w % L T := by
  unfold dg
  rw [show T + 1 - 1 - T = 0 by omega]
  rfl
theorem dg_low (L : Nat → Nat) {T w k : Nat} (h : k < T) : dg L (T + 1) w k = dg L T (w / L T) k := by
  unfold dg
  rw [show T + 1 - 1 - k = (T - 1 - k) + 1 by omega, dvs, show k + 1 + (T - 1 - k) = T by omega]
theorem dvs_congr {L L' : Nat → Nat} {k n w : Nat} (h : ∀ j, k ≤ j → j < k + n → L j = L' j) : dvs L k n w = dvs L' k n w := by
  induction n generalizing w with
  | zero => rfl
  | succ n ih => rw [dvs, dvs, h (k + n) (by omega) (by omega), ih (fun j h1 h2 => h j h1 (by omega))]
theorem dg_congr {L L' : Nat → Nat} {T w k : Nat} (hk : k < T) (h : ∀ j, j < T → L j = L' j) : dg L T w k = dg L' T w k := by
  unfold dg
  rw [h k hk, dvs_congr (fun j _ h2 => h j (by omega))]
theorem dg_lt {L : Nat → Nat} {T w k : Nat} (h : 0 < L k) : dg L T w k < L k := Nat.mod_lt _ h
theorem hn_lt {L l : Nat → Nat} {T : Nat} (h : ∀ k, k < T → l k < L k) : hn L l T < pd T L := by
  induction T with
  | zero => exact Nat.one_pos
  | succ T ih =>
    have h1 := ih (fun k hk => h k (by omega))
    have h2 := h T (by omega)
    rw [hn, pd]
    calc hn L l T * L T + l T < hn L l T * L T + L T := by omega
      _ = (hn L l T + 1) * L T := by rw [Nat.succ_mul]
      _ ≤ pd T L * L T := Nat.mul_le_mul_right _ h1
theorem dg_hn {L l : Nat → Nat} {T k : Nat} (h : ∀ k, k < T → l k < L k) (hk : k < T) : dg L T (hn L l T) k = l k := by
  induction T with
  | zero => omega
  | succ T ih =>
    have h2 := h T (by omega)
    by_cases q : k = T
    · subst q
      rw [dg_top, hn, Nat.add_comm, Nat.add_mul_mod_self_right, Nat.mod_eq_of_lt h2]
    · rw [dg_low L (by omega), hn, Nat.add_comm, Nat.add_mul_div_right _ _ (by omega), Nat.div_eq_of_lt h2, Nat.zero_add]
      exact ih (fun k hk => h k (by omega)) (by omega)
theorem hn_dg {L : Nat → Nat} {T w : Nat} (h : ∀ k, k < T → 0 < L k) (hw : w < pd T L) : hn L (dg L T w) T = w := by
  induction T generalizing w with
  | zero => rw [pd] at hw; rw [hn]; omega
  | succ T ih =>
    have h0 := h T (by omega)
    have h1 : w / L T < pd T L := by
      rw [pd] at hw
      exact Nat.div_lt_of_lt_mul (by rw [Nat.mul_comm]; exact hw)
    have e : hn L (dg L (T + 1) w) T = hn L (dg L T (w / L T)) T := by
      have : ∀ t, t ≤ T → hn L (dg L (T + 1) w) t = hn L (dg L T (w / L T)) t := by
        intro t
        induction t with
        | zero => intro _; rfl
        | succ t iht => intro ht; rw [hn, hn, iht (by omega), dg_low L (by omega)]
      exact this T (Nat.le_refl T)
    rw [hn, e, ih (fun k hk => h k (by omega)) h1, dg_top, Nat.mul_comm]
    exact Nat.div_add_mod w (L T)
theorem hn_congr {L L' l l' : Nat → Nat} {T : Nat} (h : ∀ k, k < T → L k = L' k ∧ l k = l' k) : hn L l T = hn L' l' T := by
  induction T with
  | zero => rfl
  | succ T ih => rw [hn, hn, ih (fun k hk => h k (by omega)), (h T (by omega)).1, (h T (by omega)).2]
/-- where a number lies among blocks of lengths p -/
def loc (p : Nat → Nat) : Nat → Nat → Nat × Nat
  | 0, m => (0, m)
  | n + 1, m => if sm n p ≤ m then (n, m - sm n p) else loc p n m
theorem loc_spec {p : Nat → Nat} {n m : Nat} (h : m < sm n p) : (loc p n m).1 < n ∧ m = sm (loc p n m).1 p + (loc p n m).2 ∧ (loc p n m).2 < p (loc p n m).1 := by
  induction n with
  | zero => exact absurd h (Nat.not_lt_zero _)
  | succ n ih =>
    rw [loc]
    rw [sm] at h
    by_cases q : sm n p ≤ m
    · rw [if_pos q]
      exact ⟨Nat.lt_succ_self n, by show m = sm n p + (m - sm n p); omega, by show m - sm n p < p n; omega⟩
    · rw [if_neg q]
      obtain ⟨a, b, c⟩ := ih (by omega)
      exact ⟨by omega, b, c⟩
theorem loc_of {p : Nat → Nat} {n i w : Nat} (hi : i < n) (hw : w < p i) : loc p n (sm i p + w) = (i, w) := by
  induction n with
  | zero => omega
  | succ n ih =>
    rw [loc]
    by_cases q : i = n
    · subst q
      rw [if_pos (by omega), Nat.add_sub_cancel_left]
    · have h1 : sm i p + w < sm (i + 1) p := by rw [sm]; omega
      have h2 := sm_part p (show i + 1 ≤ n by omega)
      rw [if_neg (by omega), ih (by omega)]
theorem sm_blocks (p : Nat → Nat) (n : Nat) (f : Nat → Nat) : sm (sm n p) f = sm n (fun i => sm (p i) (fun w => f (sm i p + w))) := by
  induction n with
  | zero => rfl
  | succ n ih => rw [sm, sm_app, ih, sm]
/-- mixes -/
def qS (P : Pl) (i : Nat) : Nat → Nat := fun k => qL P (st (qC P) (qT P) i k)
def pp (P : Pl) (i : Nat) : Nat := pd (qT P) (qS P i)
def fi (P : Pl) (i : Nat) : Nat := sm i (pp P)
def MM (P : Pl) : Nat := fi P (ns (qC P) (qT P))
def mix (P : Pl) (m : Nat) : Nat × Nat := loc (pp P) (ns (qC P) (qT P)) m
def mcol (P : Pl) (m k : Nat) : Nat := st (qC P) (qT P) (mix P m).1 k
def mlev (P : Pl) (m k : Nat) : Nat := dg (qS P (mix P m).1) (qT P) (mix P m).2 k
def mrow (P : Pl) (m : Nat) : Nat → Nat := fun c => sm (qT P) (fun k => if mcol P m k = c then mlev P m k + 1 else 0)
def hasM (P : Pl) (r : Nat → Nat) (m : Nat) : Bool := decide (∀ k, k < qT P → r (mcol P m k) = mlev P m k + 1)
/-- a plan that is one -/
def PW (P : Pl) : Prop := 2 ≤ qC P ∧ ctOk (qC P) (qT P) ∧ (∀ c, c < qC P → 2 ≤ qL P c ∧ qL P c ≤ 4) ∧ (∀ c, qC P ≤ c → qL P c = 0) ∧ qN P ≤ 12 ∧
  (∀ i c, qV P i c ≠ 0 → i < qN P ∧ c < qC P ∧ qV P i c ≤ qL P c) ∧ (∀ i, i < qN P → ∃ c, qV P i c ≠ 0)
theorem PW.lv {P : Pl} (h : PW P) {c : Nat} (hc : c < qC P) : 2 ≤ qL P c ∧ qL P c ≤ 4 := h.2.2.1 c hc
theorem PW.ct {P : Pl} (h : PW P) : ctOk (qC P) (qT P) := h.2.1
theorem PW.lst {P : Pl} (h : PW P) {i k : Nat} (hi : i < ns (qC P) (qT P)) (hk : k < qT P) : 2 ≤ qS P i k ∧ qS P i k ≤ 4 := h.lv (st_lt h.ct hi hk).1
theorem PW.pp_le {P : Pl} (h : PW P) {i : Nat} (hi : i < ns (qC P) (qT P)) : 1 ≤ pp P i ∧ pp P i ≤ 64 := by
  have h1 := h.ct
  refine ⟨pd_pos (fun k hk => by have := (h.lst hi hk).1; omega), ?_⟩
  have := pd_le (B := 4) (fun k hk => (h.lst hi hk).2)
  refine Nat.le_trans this ?_
  have h2 : qT P ≤ 3 := h1.2.1
  exact Nat.le_trans (Nat.pow_le_pow_right (by omega) h2) (by decide)
theorem PW.MM_le {P : Pl} (h : PW P) : MM P ≤ 3584 := by
  have := sm_le (n := ns (qC P) (qT P)) (B := 64) (f := pp P) (fun i hi => (h.pp_le hi).2)
  have h2 := (ns_pos h.ct).2
  unfold MM fi
  omega
theorem mix_spec {P : Pl} {m : Nat} (h : m < MM P) : (mix P m).1 < ns (qC P) (qT P) ∧ m = fi P (mix P m).1 + (mix P m).2 ∧ (mix P m).2 < pp P (mix P m).1 := loc_spec h
theorem mix_of {P : Pl} {i w : Nat} (hi : i < ns (qC P) (qT P)) (hw : w < pp P i) : mix P (fi P i + w) = (i, w) := loc_of hi hw
theorem fi_lt {P : Pl} {i w : Nat} (hi : i < ns (qC P) (qT P)) (hw : w < pp P i) : fi P i + w < MM P := by
  have h1 : fi P i + w < fi P (i + 1) := by unfold fi; rw [sm]; omega
  have h2 := sm_part (pp P) (show i + 1 ≤ ns (qC P) (qT P) by omega)
  unfold MM fi at *
  omega
theorem mcol_lt {P : Pl} (h : PW P) {m k : Nat} (hm : m < MM P) (hk : k < qT P) : mcol P m k < qC P := (st_lt h.ct (mix_spec hm).1 hk).1
theorem mlev_lt {P : Pl} (h : PW P) {m k : Nat} (hm : m < MM P) (hk : k < qT P) : mlev P m k < qL P (mcol P m k) :=
  dg_lt (by have := (h.lst (mix_spec hm).1 hk).1; omega)
theorem mcol_inj {P : Pl} (h : PW P) {m j k : Nat} (hm : m < MM P) (hj : j < qT P) (hk : k < qT P) (e : mcol P m j = mcol P m k) : j = k := st_inj h.ct (mix_spec hm).1 hk hj e
theorem mrow_at {P : Pl} (h : PW P) {m k : Nat} (hm : m < MM P) (hk : k < qT P) : mrow P m (mcol P m k) = mlev P m k + 1 := by
  unfold mrow
  rw [sm_one (k := k) hk (fun i hi hne => if_neg (fun e => hne (mcol_inj h hm hi hk e))), if_pos rfl]
theorem mrow_0 {P : Pl} {m c : Nat} (h : ∀ k, k < qT P → mcol P m k ≠ c) : mrow P m c = 0 := sm_zero (fun i hi => if_neg (h i hi))
theorem mrow_ne {P : Pl} {m c : Nat} (h : mrow P m c ≠ 0) : ∃ k, k < qT P ∧ mcol P m k = c := by
  refine Classical.byContradiction fun q => h (mrow_0 fun k hk e => q ⟨k, hk, e⟩)
theorem hasM_iff {P : Pl} {r : Nat → Nat} {m : Nat} : hasM P r m = true ↔ ∀ k, k < qT P → r (mcol P m k) = mlev P m k + 1 := decide_eq_true_iff
theorem hasM_row {P : Pl} (h : PW P) {r : Nat → Nat} {m : Nat} (hm : m < MM P) : hasM P r m = true ↔ ∀ c, mrow P m c ≠ 0 → r c = mrow P m c := by
  rw [hasM_iff]
  constructor
  · intro a c hc
    obtain ⟨k, hk, rfl⟩ := mrow_ne hc
    rw [mrow_at h hm hk, a k hk]
  · intro a k hk
    rw [a _ (by rw [mrow_at h hm hk]; omega), mrow_at h hm hk]
/-- lawful rows, told by a level for each column -/
def fitsB (P : Pl) (f : Nat → Nat) : Bool := decide (∀ c, c < qC P → f c < qL P c)
def extB (P : Pl) (r f : Nat → Nat) : Bool := decide (∀ c, c < qC P → r c ≠ 0 → r c = f c + 1)
def lawB (P : Pl) (f : Nat → Nat) : Bool := decide (∀ i, i < qN P → ∃ c, c < qC P ∧ qV P i c ≠ 0 ∧ qV P i c ≠ f c + 1)
def goodB (P : Pl) (r f : Nat → Nat) : Bool := fitsB P f && extB P r f && lawB P f
def cntF (g : (Nat → Nat) → Bool) : Nat → Nat → (Nat → Nat) → Nat
  | 0, _, f => (g f).toNat
  | k + 1, c, f => sm 4 (fun v => cntF g k (c + 1) (up f c v))
def cnt (P : Pl) (r : Nat → Nat) : Nat := cntF (goodB P r) (qC P) 0 (fun _ => 0)
def canB (P : Pl) (r : Nat → Nat) : Bool := decide (0 < cnt P r)
theorem cntF_congr {g g' : (Nat → Nat) → Bool} : ∀ {k c : Nat} {f : Nat → Nat}, (∀ f', (∀ j, j < c ∨ c + k ≤ j → f' j = f j) → (∀ j, c ≤ j → j < c + k → f' j < 4) → g f' = g' f') → cntF g k c f = cntF g' k c f
  | 0, c, f, h => by
    rw [cntF, cntF, h f (fun _ _ => rfl) (fun j h1 h2 => by omega)]
  | k + 1, c, f, h => by
    rw [cntF, cntF]
    refine sm_congr fun v hv => cntF_congr fun f' h1 h2 => h f' (fun j hj => ?_) (fun j hj1 hj2 => ?_)
    · rw [h1 j (by omega), up_at, if_neg (by omega)]
    · by_cases q : j = c
      · rw [h1 j (by omega), up_at, if_pos q]; exact hv
      · exact h2 j (by omega) (by omega)
theorem cntF_0 {g : (Nat → Nat) → Bool} {k c : Nat} {f : Nat → Nat} (h : ∀ f', (∀ j, j < c ∨ c + k ≤ j → f' j = f j) → (∀ j, c ≤ j → j < c + k → f' j < 4) → g f' = false) : cntF g k c f = 0 := by
  have z : ∀ {k c : Nat} {f : Nat → Nat}, cntF (fun _ => false) k c f = 0 := by
    intro k
    induction k with
    | zero => intro c f; rfl
    | succ k ih => intro c f; rw [cntF]; exact sm_zero (fun i _ => ih)
  rw [cntF_congr (g' := fun _ => false) h, z]
theorem cntF_pos {g : (Nat → Nat) → Bool} : ∀ {k c : Nat} {f : Nat → Nat}, 0 < cntF g k c f ↔ ∃ f', (∀ j, j < c ∨ c + k ≤ j → f' j = f j) ∧ (∀ j, c ≤ j → j < c + k → f' j < 4) ∧ g f' = true
  | 0, c, f => by
    rw [cntF]
    constructor
    · intro h
      refine ⟨f, fun _ _ => rfl, fun j h1 h2 => by omega, ?_⟩
      cases e : g f with
      | true => rfl
      | false => rw [e] at h; exact absurd h (by decide)
    · rintro ⟨f', h1, -, h3⟩
      have : f' = f := funext fun j => h1 j (by omega)
      rw [← this, h3]; decide
  | k + 1, c, f => by
    rw [cntF, sm_pos]
    constructor
    · rintro ⟨v, hv, h⟩
      obtain ⟨f', h1, h2, h3⟩ := cntF_pos.mp h
      refine ⟨f', fun j hj => ?_, fun j a b => ?_, h3⟩
      · rw [h1 j (by omega), up_at, if_neg (by omega)]
      · by_cases q : j = c
        · rw [h1 j (by omega), up_at, if_pos q]; exact hv
        · exact h2 j (by omega) (by omega)
    · rintro ⟨f', h1, h2, h3⟩
      refine ⟨f' c, h2 c (by omega) (by omega), cntF_pos.mpr ⟨f', fun j hj => ?_, fun j a b => h2 j (by omega) (by omega), h3⟩⟩
      rw [up_at]
      by_cases q : j = c
      · rw [if_pos q, q]
      · rw [if_neg q]; exact h1 j (by omega)
/-- two kinds that part a third one -/
theorem cntF_split {g g1 g2 : (Nat → Nat) → Bool} : ∀ {k c : Nat} {f : Nat → Nat}, (∀ f', (∀ j, j < c ∨ c + k ≤ j → f' j = f j) → (∀ j, c ≤ j → j < c + k → f' j < 4) → (g f').toNat = (g1 f').toNat + (g2 f').toNat) → cntF g k c f = cntF g1 k c f + cntF g2 k c f
  | 0, c, f, h => by
    rw [cntF, cntF, cntF, h f (fun _ _ => rfl) (fun j h1 h2 => by omega)]
  | k + 1, c, f, h => by
    rw [cntF, cntF, cntF, ← sm_add]
    refine sm_congr fun v hv => cntF_split fun f' h1 h2 => h f' (fun j hj => ?_) (fun j hj1 hj2 => ?_)
    · rw [h1 j (by omega), up_at, if_neg (by omega)]
    · by_cases q : j = c
      · rw [h1 j (by omega), up_at, if_pos q]; exact hv
      · exact h2 j (by omega) (by omega)
theorem goodB_iff {P : Pl} {r f : Nat → Nat} : goodB P r f = true ↔ (∀ c, c < qC P → f c < qL P c) ∧ (∀ c, c < qC P → r c ≠ 0 → r c = f c + 1) ∧ (∀ i, i < qN P → ∃ c, c < qC P ∧ qV P i c ≠ 0 ∧ qV P i c ≠ f c + 1) := by
  simp only [goodB, fitsB, extB, lawB, Bool.and_eq_true, decide_eq_true_eq, and_assoc]
def can (P : Pl) (r : Nat → Nat) : Prop := ∃ f : Nat → Nat, (∀ c, c < qC P → f c < qL P c) ∧ (∀ c, c < qC P → r c ≠ 0 → r c = f c + 1) ∧ (∀ i, i < qN P → ∃ c, c < qC P ∧ qV P i c ≠ 0 ∧ qV P i c ≠ f c + 1)
theorem canB_iff {P : Pl} (h : PW P) {r : Nat → Nat} : canB P r = true ↔ can P r := by
  unfold canB cnt
  rw [decide_eq_true_iff, cntF_pos]
  constructor
  · rintro ⟨f, -, -, h3⟩
    exact ⟨f, goodB_iff.mp h3⟩
  · rintro ⟨f, h1, h2, h3⟩
    refine ⟨fun c => if c < qC P then f c else 0, fun j hj => ?_, fun j h0 hj => ?_, goodB_iff.mpr ⟨fun c hc => ?_, fun c hc hr => ?_, fun i hi => ?_⟩⟩
    · show (if j < qC P then f j else 0) = 0
      rw [if_neg (by omega)]
    · show (if j < qC P then f j else 0) < 4
      rw [if_pos (by omega)]
      have := h1 j (by omega)
      have := (h.lv (c := j) (by omega)).2
      omega
    · show (if c < qC P then f c else 0) < _
      rw [if_pos hc]; exact h1 c hc
    · show r c = (if c < qC P then f c else 0) + 1
      rw [if_pos hc]; exact h2 c hc hr
    · obtain ⟨c, hc, a, b⟩ := h3 i hi
      refine ⟨c, hc, a, ?_⟩
      show qV P i c ≠ (if c < qC P then f c else 0) + 1
      rw [if_pos hc]; exact b

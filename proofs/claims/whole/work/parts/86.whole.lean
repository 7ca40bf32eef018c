/-! THE START: both objects fresh -/
def P0 : Pl := (0, 0, fun _ => 0, 0, fun _ _ => 0)
def s0 : Ps := (P0, 0, fun _ _ => 0, fun _ => 0, 0)
def σ0 : Sg := (fun _ => 0, 0, s0, 0, fun _ => s0, fun _ => none)
theorem ok_0 : SgOk σ0 := ⟨fun _ => (by decide : (0 : Nat) < 256), by decide, ⟨by decide, by decide, fun _ => ⟨rfl, rfl⟩, fun z => absurd rfl z⟩, by decide, fun i hi => absurd hi (Nat.not_lt_zero i), fun i s h => by cases h⟩
theorem w0 {c : Nat} (h : c ≠ 134) (h3 : c ≠ 3) (j : Nat) : wb 24 c j = nI 0 := wb_n h h3 j
theorem cr_0 : Cr σ0 (wb 24) := by
  refine ⟨⟨w0 (by decide) (by decide) 1, fun k hk => absurd hk (Nat.not_lt_zero k)⟩, ⟨⟨⟨w0 (by decide) (by decide) 0, w0 (by decide) (by decide) 1, w0 (by decide) (by decide) 2, (w0 (by decide) (by decide) 3).trans (by decide +kernel), fun c hc => absurd hc (Nat.not_lt_zero c), fun c hc => absurd hc (Nat.not_lt_zero c)⟩, ⟨w0 (by decide) (by decide) 0, fun c hc => absurd hc (Nat.not_lt_zero c), fun c hc => absurd hc (Nat.not_lt_zero c)⟩, w0 (by decide) (by decide) 2⟩, fun z => absurd rfl z⟩, ⟨w0 (by decide) (by decide) 0, w0 (by decide) (by decide) 0, w0 (by decide) (by decide) 0⟩, ⟨0, by decide, w0 (by decide) (by decide) 8, w0 (by decide) (by decide) 9, fun c hc => absurd hc (Nat.not_lt_zero c)⟩, fun i hi => ⟨fun _ => w0 (by omega) (by omega) 0, fun s h => by cases h⟩⟩
theorem mr_0 : Mr σ0 (wb 24) := by
  refine ⟨⟨w0 (by decide) (by decide) 1, fun k hk => absurd hk (Nat.not_lt_zero k), fun k hk => if_pos ⟨rfl, hk⟩⟩, ⟨⟨w0 (by decide) (by decide) 4, w0 (by decide) (by decide) 0, w0 (by decide) (by decide) 3, w0 (by decide) (by decide) 2, fun z => absurd rfl z⟩, fun z => absurd rfl z⟩, ⟨w0 (by decide) (by decide) 26, fun c hc => absurd hc (Nat.not_lt_zero c)⟩, fun i hi => ⟨w0 (by decide) (by decide) i, fun s h => by cases h⟩⟩
theorem Nm.to {G : mG} {M : mMt} {E : mE} {B : mB} {φ : mF} {μ : mM} {pc : Nat} {lv : List (Nat × Value)} {st : List Value} (h : wl G 152 φ μ = wl G 152 f1 μ) (k : Wm G M E B μ pc lv st) : Nm G M E B 152 φ μ pc lv st :=
  fun H locs ls _ hP hS hl => k H locs ls (by rw [← h]; exact hP) hS hl
set_option maxRecDepth 100000 in
set_option maxHeartbeats 4000000 in
theorem whole_run {p : Program} {e : Env} {s : State} {m : MethodId} {below : List Frame} {meth : Method} {c : Code} (l : Launch) {b L : Nat} {xs : Nat → Int32} (hL : L ≤ 3072) (C0 : lw_At p s m meth c b L xs) : ∃ G : mG, gb G = s.heap.size ∧ Nm G mL (lE p l e s m b below meth c) (room_1, 0, 0, lw_Z below #[Value.ref b] s) 0 φ0 μs 0 [(0, .ref b)] [] := by
  obtain ⟨G, hG, C⟩ := st_C (e := e) (below := below) l C0
  obtain ⟨hx, hb, hr, hml, hown, hts, hX, hbl, hlocks, hgv⟩ := C0
  refine ⟨G, hG, ?_⟩
  have S : Sc G (lE p l e s m b below meth c) b L xs := ⟨hX, hbl, hG, hL⟩
  have v1 : Vg (fl φ0 0 132) 132 := fun c j h => by
    simp only [fl, φ0, Bool.false_or, decide_eq_false_iff_not]
    omega
  have kend : ∀ μ lv, Wm G mL (lE p l e s m b below meth c) (lB (lw_Z below #[Value.ref b] s)) μ 882 lv [] := fun μ lv => by
    refine L_iconst C (v := 1) dL_law_882 rfl ?_
    intro H locs ls hP hS hl
    refine va_forget (fun q hq => by rw [← hG]; exact hS.2.2 q hq) ?_
    exact W.widen (Nat.le_of_ble_eq_true rfl) (Nat.le_of_ble_eq_true rfl) (lw_ret hx hb hr hlocks dL_law_883)
  refine N_new C (N := 11) dL_law_0 sh_0 clok_10 (big_mem 127 rfl rfl) (big_mem 128 rfl rfl) (big_mem 107 rfl rfl) rfl (new_v (by decide) rfl (by decide) (fun j => rfl) (fun j _ => mu_n (by decide) j)) ⟨Nat.le_of_ble_eq_true rfl, Nat.le_of_ble_eq_true rfl⟩ ?_
  refine N_dup C dL_law_3 rfl ?_
  refine N_iniL C (mc := 131) (ms := 11624) dL_law_4 rfl rfl cal0_X11_init lk_L_9 ⟨Nat.le_of_ble_eq_true rfl, Nat.le_of_ble_eq_true rfl⟩ ⟨Nat.le_of_ble_eq_true rfl, Nat.le_of_ble_eq_true rfl⟩ (Nat.le_of_ble_eq_true rfl) i_X11 ?_
  refine N_astore_n C (i := 1) dL_law_7 rfl (by decide) ?_
  refine N_new C (N := 27) dL_law_8 sh_132 clok_11 (big_mem 1094 rfl rfl) (big_mem 1095 rfl rfl) (big_mem 118 rfl rfl) rfl (new_v (by decide) rfl (by decide) (fun j => v1 _ j (Nat.le_refl _)) (fun j _ => mu_n (by decide) j)) ⟨Nat.le_of_ble_eq_true rfl, Nat.le_of_ble_eq_true rfl⟩ ?_
  refine N_dup C dL_law_11 rfl ?_
  refine N_iniL C (mc := 19) (ms := 18622) dL_law_12 rfl rfl cal0_X12_init lk_L_12 ⟨Nat.le_of_ble_eq_true rfl, Nat.le_of_ble_eq_true rfl⟩ ⟨Nat.le_of_ble_eq_true rfl, Nat.le_of_ble_eq_true rfl⟩ (Nat.le_of_ble_eq_true rfl) (i_X12 v1) ?_
  refine N_astore_n C (i := 2) dL_law_15 rfl (by decide) ?_
  refine Nm.to (wl_cg fun c hc => en_ph fun j => ?_) ?_
  · show fl (fl φ0 0 132) 132 20 c j = true
    simp only [fl, φ0, Bool.false_or, Bool.or_eq_true, decide_eq_true_eq]
    omega
  refine L_iconst C (v := 0) dL_law_16 rfl ?_
  refine L_istore_n C (i := 3) dL_law_17 rfl (by decide) ?_
  exact law_loop C S kend 512 0 (by omega) (wb 24) σ0 ⟨ok_0, cr_0, mr_0⟩ (by decide)
/-- from the entry, for every script of at most 3072 ints, the law comes to its end with true -/
theorem whole_start {p : Program} {e : Env} {s : State} {m : MethodId} {below : List Frame} {meth : Method} {c : Code} (l : Launch) (hflags : l.flags = flags0) {b L : Nat} {xs : Nat → Int32} (hL : L ≤ 3072) (C0 : lw_At p s m meth c b L xs) : W p l e room_1 s m #[Value.ref b] below meth c s.heap [] 0 0 (lw_Z below #[Value.ref b] s) (entryFrame m ([Value.ref b] : List Value).toArray 4) := by
  obtain ⟨G, hG, K⟩ := whole_run (e := e) (below := below) l hL C0
  have hl := lv_entry ([.ref b]) (n := 4) (Nat.le_of_ble_eq_true rfl)
  rw [lg_entry_eq]
  exact K s.heap [] _ hG.symm (fun k q h => by simp [wl] at h) va_S.rf hl
set_option maxHeartbeats 4000000 in
theorem lw_walk (l : Launch) (hflags : l.flags = flags0) (b : Addr) (xs : List Int32) : MetFree l x (headSpec (Jvm.Cond.code x code maxLocals ret :: tables_1) room_1) (lw_P b xs) (fun _ _ _ _ _ => True) lw_Q := by
  refine MetFree.of_bodyS (code := code) (maxLocals := maxLocals) (ret := ret) (by decide) ?_ ?_
  · intro args s m h hn
    obtain ⟨meth, c, h1, h2, h3, h4, h5, h6, -, -⟩ := Cond.code_spec hn (atoms_spec (ws := Jvm.Cond.code x code maxLocals ret :: tables_1) h _ List.mem_cons_self)
    exact ⟨meth, c, h1, h2, h3, h4, h5, h6⟩
  · intro p e s m args below meth c s₁ B hml0 hP _
    obtain ⟨rfl, hx, hbd, hgv⟩ := hP
    obtain ⟨scr, harrAt, hlist, hof, hsmall⟩ := hx
    obtain ⟨hcb, hkn, -, -⟩ := State.arrayAt?_spec harrAt
    have hown : s.vm.findClass R_law = some m.cls := findClass_of_methodNamed B.named
    have hts0 : ∀ c ∈ (Jvm.Cond.code x code maxLocals ret :: tables_1), c.before #[Value.ref b] s = true := atoms_spec (ws := Jvm.Cond.code x code maxLocals ret :: tables_1) B.pre
    have hts : ∀ w ∈ lw_tbl, w.before #[Value.ref b] s = true := k2_hts_sels lw_privs (fun w hw => hts0 w (List.mem_cons_of_mem _ hw)) lw_privs_ok
    have hml : c.maxLocals = 4 := B.maxLocals_eq (hts0 _ List.mem_cons_self)
    have X₀ : Stand p l e room_1 s m #[Value.ref b] below meth c s₁ [] 0 0 := Stand.of_body B
    have hh0 : s₁.heap = s.heap := by rw [B.state]; rfl
    have hsz : scr.slots.size = xs.length := by rw [← Array.length_toList, hlist, List.length_map]
    have hval : ∀ j : Nat, j < xs.length → scr.slots[j]? = some (.int (xs.getD j 0)) := fun j hj => by
      rw [← Array.getElem?_toList, hlist]
      simp [hj]
    have hbl : b < s.heap.size := (Array.getElem?_eq_some_iff.mp hcb).1
    have hX : va_X b xs.length (fun j => xs.getD j 0) s s.heap := ⟨scr, hcb, hof, hkn, hsz, hval⟩
    have K : W p l e room_1 s m #[Value.ref b] below meth c s₁.heap [] 0 0 (lw_Z below #[Value.ref b] s) (entryFrame m ([Value.ref b] : List Value).toArray 4) := by
      rw [hh0]
      exact whole_start l hflags hbd ⟨B.exec, B.bytes, B.returns, hml, hown, hts, hX, hbl, B.notSynchronized, hgv⟩
    obtain ⟨t, a1, o, b1, b2, b3⟩ := K s₁ rfl X₀
    exact ⟨t, o, a1, b1, b2, b3⟩
theorem lw_pre_spec {args : Array Value} {s : State} (h : (Jvm.Cond.and given_1 narrow_1).before args s = true) (hr : rest_1_c.before args s = true) : ∃ (b : Addr) (xs : List Int32), lw_P b xs args s := by
  have hs := flat_of_before _ h
  have hq := flat_of_before _ hr
  have hc : (Cond.count 1).before args s = true := hs _ (by decide +kernel)
  have harr : (Cond.arrayOf (.arg 0) .int).before args s = true := hs _ (by decide +kernel)
  have hle : (Cond.le (.length (.arg 0)) (.int 3072)).before args s = true := hs _ (by decide +kernel)
  have hlen : (Cond.isInt (.length (.arg 0))).before args s = true := hq _ (by decide +kernel)
  have hall : (Cond.all (.arg 0) (.isInt (.elem (.arg 0) (.index 0)))).before args s = true := hq _ (by decide +kernel)
  obtain ⟨b, xs, hb, hx⟩ := State.ints_of_pre rfl harr hlen hall
  have hsm : xs.length < 2 ^ 31 := hx.choose_spec.2.2.2
  have hev : (Term.length (.arg 0)).eval args s none [] s = some (.int xs.length.toInt32) := hx.length_eval hb
  have hv := Cond.le_ints hev (show (Term.int 3072).eval args s none [] s = some (.int 3072) from rfl)
  have hd : xs.length.toInt32 ≤ 3072 := by
    simpa [Cond.before, Cond.holds, hv] using hle
  have hN : xs.length ≤ 3072 := (Int32.ofNat_le_ofNat hsm (by decide)).mp (show Int32.ofNat xs.length ≤ Int32.ofNat 3072 from hd)
  exact ⟨b, xs, Cond.one_arg hc (show args[0]? = some (.ref b) from hb), hx, hN, h⟩
theorem lw_comes (l : Launch) (hflags : l.flags = flags0) : Comes l x (Jvm.Cond.code x code maxLocals ret :: tables_1) room_1 (fun tb e args s => Calls_1 tb e args s ∧ rest_1 tb e args s ∧ Pre_1 tb e args s)
    (fun _ _ args s o t => lw_Q args s o t) := by
  intro p e ha hc hk s m args below hf hfit hheap happ hpre
  obtain ⟨b, xs, hP⟩ := lw_pre_spec hpre.2.2 hpre.2.1
  obtain ⟨k, o, h1, h2, h3, hQ⟩ := lw_walk l hflags b xs p e ha hc hk s m args below hf ((Spec.applies_iff_loose hf).mp happ).1 hP trivial
  exact ⟨k, o, h1, h2, h3, hQ⟩
theorem lw_frame {s t : State} {o : Outcome} {args : Array Value} (h : Framed s o t [] 600000 7302250) :
    Framed s o t (fieldLocs frame_1_writes args s ++ arrayLocs frame_1_arrays args s ++ staticLocs frame_1_statics s) 600000 7302250 := h
theorem lw_limb (L : Cond) (hL : ∀ (args : Array Value) (s t : State), L.after args s (.returned (some (.int 1))) t = true) :
    ArmFor flags0 classFile x code maxLocals ret World_1 tables_1 room_1 Calls_1 rest_1 Pre_1
      (fun tb e a s o t => postC L tb e a s o t ∧ Framed s o t (fieldLocs frame_1_writes a s ++ arrayLocs frame_1_arrays a s ++ staticLocs frame_1_statics s) 600000 7302250) := by
  intro l hflags _ _ p e ha hc hk s m args below hf hfit hheap happ hpre
  obtain ⟨k, o, h1, h2, h3, rfl, hF⟩ := lw_comes l hflags p e ha hc hk s m args below hf hfit hheap happ hpre
  exact ⟨k, _, h1, h2, h3, hL args s _, lw_frame hF⟩
theorem i_vc : Claimed_1_1 ∧ Claimed_1_2 := ⟨lw_limb limb_1_1 (fun args s t => by simp [limb_1_1, Cond.after, Cond.holds, Cond.value]), lw_limb limb_1_2 (fun args s t => Cond.after_iff.mpr (by
  first | (rw [show limb_1_2 = Cond.eq .result (.int 1) from rfl, Cond.eq_ints (x := 1) (y := 1) rfl rfl]; simp; done) | (simp [limb_1_2, Cond.value, Term.eval]; done)))⟩

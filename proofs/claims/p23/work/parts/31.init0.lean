/-! History(): six staircases -/
theorem lay_9 {g : Gv} {ad : Nat → Nat} {i : Nat} (h : kd i = 9) : lay g ad mu0 i = .inr (3, fsK ad 9 i (mu0 i)) := by
  unfold lay
  rw [h]
  rfl
theorem jn_upE {M : Nat} {E F : Nat → va_E} {x : va_E} : jn M (upE E M x) F = jn M E F := by
  funext i
  by_cases h : i < M
  · rw [jn_lt _ _ h, jn_lt _ _ h, upE_ne _ _ (by omega)]
  · rw [jn_ge _ _ (by omega), jn_ge _ _ (by omega)]
/-- new Staircase(), on the stack -/
theorem n_stair {g : Gv} {ad : Nat → Nat} {E : Nat → va_E} {b M : Nat} {A : Nat → Prop} {own : String} {cc : ByteArray} {nL : Nat} {p : Program} {l : Launch} {e : Env} {R : Room} {s : State} {m : MethodId} {args : Array Value} {below : List Frame} {meth : Method} {c : Code} {H : Heap} {locs : List Loc} {cells slots : Nat} {Q : State → Prop} {pc : Nat} {ls : Array Slot} {rest : List Value}
    (C0 : CxN g p s m args c own cc nL) (w : Gw g ad E b M A s H locs) (hbM : b ≤ M) (hM28 : M + 28 ≤ 287) (hk : ∀ o, o < 28 → kd (M + o) = ks o) {i1 i2 : Nat} (hcl : Cond.classLink own i1 RX3 ∈ tb_G) (hlk : Cond.methodLink own i2 yX3_init ∈ tb_G) (hls : ls.size = nL) (hR : 3 ≤ R.frames ∧ 53 ≤ R.locals) (hW : 1 + (rest.map fun v => v.category).sum ≤ 8) (hcs : cells + 28 ≤ R.cells ∧ slots + 285 ≤ R.slots) (d1 : decode cc pc = .ok (.new i1, 3)) (d2 : decode cc (pc + 3) = .ok (.dup, 1)) (d3 : decode cc (pc + 4) = .ok (.invokespecial i2, 3))
    (kk : ∀ (ad' : Nat → Nat) (H1 : Heap) (locs1 : List Loc), (∀ i, i < M → ad' i = ad i) → Gw g ad' (jn M E (lay g ad' mu0)) b (M + 28) A s H1 locs1 → W p l e R s m args below meth c H1 locs1 (cells + 28) (slots + 285) Q (F0 m (pc + 7) ls (.ref (ad' M) :: rest))) : W p l e R s m args below meth c H locs cells slots Q (F0 m pc ls rest) := by
  obtain ⟨hx, hb, hml, hts, hown, hKK, hN⟩ := id C0
  refine n_new C0 w hbM (ci := 3) (fs := B3) (C := RX3) (T := TX3) (N := 6) iX3 tyX3 tyX3_ok hcl ib_X3_init it_X3_init rfl (fun k hk => ?_) (by omega) (by omega) d1 (fun q H1 w => ?_)
  · have : k = 0 ∨ k = 1 ∨ k = 2 ∨ k = 3 ∨ k = 4 ∨ k = 5 := by omega
    rcases this with rfl | rfl | rfl | rfl | rfl | rfl <;> rfl
  refine lv_dup hx hb d2 rfl ?_
  refine n_back w hbM (by omega) hM28 (q := q) (e1 := .inr (3, B3)) (upN_at _ _ _) (upE_at _ _ _) (n_runI C0 w hbM (upN_at _ _ _) (upE_at _ _ _) (c_X3_init l g q H1.size M hM28 hk) cd_X3_init it_X3_init hlk in_X3_init rfl (by decide +kernel) ⟨rfl, rfl⟩ ⟨hR.1, hR.2⟩ hls rfl ?_ d3 ⟨by omega, by omega⟩) (fun ad' H2 locs2 hag w => ?_)
  · rw [List.map_cons, List.sum_cons]
    exact hW
  have aq : ad' M = q := by rw [hag _ (Nat.le_refl _), upN_at]
  rw [jn_upE] at w
  refine W.widen (k := cells + 28) (n := slots + 285) (by omega) (by omega) ?_
  have := kk ad' H2 locs2 (fun i hi => by rw [hag i (by omega), upN_ne _ _ (by omega)]) w
  rw [aq] at this
  exact this
abbrev B0 : List Value := [.null, .int 0]
abbrev rm_X0_init : Room := { frames := 3, cells := 169, slots := 1716, locals := 53 }
def HV (g : Gv) (ad : Nat → Nat) (E : Nat → va_E) (h0 j : Nat) : Prop :=
  ad 57 = h0 ∧ E 57 = .inr (0, [.ref (ad 58), .int 0]) ∧ (∃ f, E 58 = .inl (g.2 4, 6, .inr (.inr (.inr (.inr f)))) ∧ ∀ k, k < j → f k = some (ad (59 + 28 * k))) ∧ ∀ i, 59 ≤ i → i < 59 + 28 * j → Cv g.1 (E i) (lay g ad mu0 i)
theorem hi_59 : ∀ j, j < 7 → ∀ i, i < 59 + 28 * j → 59 ≤ i → hiR i ≤ 59 + 28 * j := by decide +kernel
theorem kd_59 : ∀ j, j < 6 → ∀ o, o < 28 → kd (59 + 28 * j + o) = ks o := by decide +kernel
set_option maxHeartbeats 4000000 in
set_option maxRecDepth 100000 in
theorem t_X0_L15 {g : Gv} {A : Nat → Prop} {l : Launch} {p : Program} {e : Env} {s : State} {m : MethodId} {args : Array Value} {below : List Frame} {meth : Method} {c : Code} {Q : State → Prop} (C : CxN g p s m args c "StairBows$History" cX0_init 2) {h0 : Nat}
    (kk : ∀ (ad : Nat → Nat) (E : Nat → va_E) (H : Heap) (locs : List Loc) (ls : Array Slot), HV g ad E h0 6 → Gw g ad E 57 227 A s H locs → W p l e rm_X0_init s m args below meth c H locs 169 1716 Q (F0 m 43 ls [])) :
    ∀ (d j : Nat) (ad : Nat → Nat) (E : Nat → va_E) (H : Heap) (locs : List Loc) (ls : Array Slot), j + d = 6 → HV g ad E h0 j → Gw g ad E 57 (59 + 28 * j) A s H locs → lv_has ls 2 [(0, .ref h0), (1, .int (nI j))] → W p l e rm_X0_init s m args below meth c H locs (1 + 28 * j) (6 + 285 * j) Q (F0 m 15 ls []) := by
  obtain ⟨hx, hb, hml, hts, hown, hKK, hN⟩ := id C
  intro d
  induction d with
  | zero =>
    intro j ad E H locs ls hj hI w hl
    have : j = 6 := by omega
    subst this
    obtain ⟨a0, e0, ⟨f, e1, hf⟩, e2⟩ := id hI
    refine lv_iload_n hx hb dX0_init_15 rfl (lv_at hl 1 rfl) ?_
    refine lv_aload_n hx hb dX0_init_16 rfl (lv_at hl 0 rfl) ?_
    refine n_get C w (i := 57) (ci := 0) (k := 0) (N := 2) (C := RX0) (T := TX0) (by omega) (by omega) a0 e0 iX0 rfl (by decide) fl_History_11 rfl dX0_init_17 ?_
    refine n_alen C w (i := 58) (t := 4) (ty := .object "StairBows$Staircase") (v := 6) (by omega) (by omega) rfl e1 rfl rfl dX0_init_20 ?_
    refine lv_icmp_ge (tgt := 43) hx hb dX0_init_21 (by decide) (fun _ => ?_) (fun c1 => absurd (by decide) c1)
    exact W.widen (k := 169) (n := 1716) (by omega) (by omega) (kk ad E H locs ls hI w)
  | succ d ih =>
    intro j ad E H locs ls hj hI w hl
    obtain ⟨a0, e0, ⟨f, e1, hf⟩, e2⟩ := id hI
    refine lv_iload_n hx hb dX0_init_15 rfl (lv_at hl 1 rfl) ?_
    refine lv_aload_n hx hb dX0_init_16 rfl (lv_at hl 0 rfl) ?_
    refine n_get C w (i := 57) (ci := 0) (k := 0) (N := 2) (C := RX0) (T := TX0) (by omega) (by omega) a0 e0 iX0 rfl (by decide) fl_History_11 rfl dX0_init_17 ?_
    refine n_alen C w (i := 58) (t := 4) (ty := .object "StairBows$Staircase") (v := 6) (by omega) (by omega) rfl e1 rfl rfl dX0_init_20 ?_
    refine lv_icmp_ge (tgt := 43) hx hb dX0_init_21 (by decide) (fun c1 => absurd c1 (nI_ge (b := 6) (by omega) (by omega))) (fun _ => ?_)
    refine lv_aload_n hx hb dX0_init_24 rfl (lv_at hl 0 rfl) ?_
    refine n_get C w (i := 57) (ci := 0) (k := 0) (N := 2) (C := RX0) (T := TX0) (by omega) (by omega) a0 e0 iX0 rfl (by decide) fl_History_11 rfl dX0_init_25 ?_
    refine lv_iload_n hx hb dX0_init_28 rfl (lv_at hl 1 rfl) ?_
    refine n_stair C w (by omega) (by omega) (kd_59 j (by omega)) cl_History_9 ml2_History_17 hl.1 ⟨Nat.le_of_ble_eq_true rfl, Nat.le_of_ble_eq_true rfl⟩ (Nat.le_of_ble_eq_true rfl) ⟨by show 1 + 28 * j + 28 ≤ 169; omega, by show 6 + 285 * j + 285 ≤ 1716; omega⟩ dX0_init_29 dX0_init_32 dX0_init_33 (fun ad' H1 locs1 ag w => ?_)
    have Ee : ∀ i, i < 59 + 28 * j → jn (59 + 28 * j) E (lay g ad' mu0) i = E i := fun i hi => jn_lt _ _ hi
    have Eq : jn (59 + 28 * j) E (lay g ad' mu0) (59 + 28 * j) = .inr (3, fsK ad' 9 (59 + 28 * j) (mu0 (59 + 28 * j))) := by
      rw [jn_ge _ _ (Nat.le_refl _)]
      exact lay_9 (kd_59 j (by omega) 0 (by omega))
    refine n_astq C w (i := 58) (i2 := 59 + 28 * j) (t := 4) (n := 6) (jn' := j) (f := f) (ci := 3) (r := (RX3, TX3, 6)) (by omega) (by omega) (ag _ (by omega)) ((Ee _ (by omega)).trans e1) rfl (by omega) (by omega) rfl Eq rfl (nI_clamp (by omega)) (vp_in_nI (by omega) (by omega)) dX0_init_36 (fun H3 locs3 w => ?_)
    refine lv_iinc (v := nI (j + 1)) (lv' := [(1, .int (nI (j + 1))), (0, .ref h0)]) hx hb dX0_init_37 hl (k := 1) rfl (nI_1 j) (by decide) rfl (fun ls hl => ?_)
    refine lv_goto (tgt := 15) hx hb dX0_init_40 (by decide) ?_
    refine W.widen (k := 1 + 28 * (j + 1)) (n := 6 + 285 * (j + 1)) (by omega) (by omega) ?_
    refine ih (j + 1) ad' _ _ _ _ (by omega) ⟨?_, ?_, ⟨_, upE_at _ _ _, fun k hk => ?_⟩, fun i h1 h2 => ?_⟩ (by rw [show 59 + 28 * (j + 1) = 59 + 28 * j + 28 by omega]; exact w) (lv_sub hl [1, 0] rfl)
    · rw [ag _ (by omega), a0]
    · rw [upE_ne _ _ (by omega), Ee _ (by omega), e0, ag _ (by omega)]
    · unfold va_up
      by_cases hkj : k = j
      · subst hkj
        simp
      · simp only [hkj, if_false]
        rw [hf k (by omega), ag _ (by omega)]
    · rw [upE_ne _ _ (by omega)]
      by_cases hi : i < 59 + 28 * j
      · rw [Ee i hi]
        exact (e2 i h1 hi).trans (lay_cv (by omega) (fun z _ hz => (ag z (Nat.lt_of_lt_of_le hz (hi_59 j (by omega) i hi h1))).symm))
      · rw [jn_ge _ _ (by omega)]
        exact Cv.of rfl
set_option maxHeartbeats 4000000 in
set_option maxRecDepth 100000 in
theorem c_X0_init (l : Launch) (g : Gv) (h0 sz : Nat) : Met l yX0_init (wX yX0_init cX0_init 2 none) rm_X0_init (PreN g [(h0, .inr (0, B0))] sz [.ref h0]) (PostN g 57 227 [(h0, .inr (0, B0))] sz h0) 169 1716 (va_A [(h0, .inr (0, B0))] sz) := by
  refine Met.ofW (cc := cX0_init) (maxL := 2) (ret := none) (by decide) rfl ?_
  intro p e s m args below meth c s₁ B hml hv
  obtain ⟨rfl, rfl, C, w⟩ := n_start (b := 57) B hml hv
  obtain ⟨hx, hb, hml, hts, hown, hKK, hN⟩ := id C
  have hin : meth.name = "<init>" := (name_of_methodNamed B.named B.method).1
  have hl := lv_entry ([.ref h0]) (n := 2) (Nat.le_of_ble_eq_true rfl)
  rw [lg_entry_eq]
  generalize (lg_sl ([.ref h0]) ++ List.replicate (2 - (lg_sl ([.ref h0])).length) Slot.unset).toArray = ls at hl ⊢
  have hl : lv_has ls 2 [(0, .ref h0)] := hl
  refine lv_aload_n hx hb dX0_init_0 rfl (lv_at hl 0 rfl) ?_
  refine n_obj C hl.1 ml2_History_3 dX0_init_1 (Nat.le_of_ble_eq_true rfl) (Nat.le_of_ble_eq_true rfl) ?_
  refine lv_aload_n hx hb dX0_init_4 rfl (lv_at hl 0 rfl) ?_
  refine lv_bipush (v := 6) hx hb dX0_init_5 (by decide) ?_
  refine n_newq C w (by omega) (t := 4) (N' := 6) cl_History_9 hN.2.2.2.2 rfl (by decide) rfl (by decide) (Nat.le_of_ble_eq_true rfl) (Nat.le_of_ble_eq_true rfl) dX0_init_7 (fun q1 H1 w => ?_)
  refine n_putF C w hin (i := 57) (ci := 0) (k := 0) (N := 2) (fs := B0) (C := RX0) (T := TX0) (by omega) (by omega) rfl rfl iX0 tyX0 tyX0_ok nmX0 rfl (by decide) fl_History_11 rfl rfl rfl rfl rfl (Nat.le_of_ble_eq_true rfl) dX0_init_10 (fun H2 locs2 w => ?_)
  refine lv_iconst (v := 0) hx hb dX0_init_13 (by decide) ?_
  refine lv_istore_n (lv' := [(1, .int 0), (0, .ref h0)]) hx hb dX0_init_14 rfl hl (by decide) rfl (fun ls hl => ?_)
  refine W.widen (k := 1 + 28 * 0) (n := 6 + 285 * 0) (by omega) (by omega) ?_
  refine t_X0_L15 C (fun ad E H locs ls hI w => ?_) 6 0 _ _ _ _ ls (by omega) ⟨rfl, rfl, ⟨fun _ => none, rfl, fun k hk => by omega⟩, fun i h1 h2 => by omega⟩ w (lv_sub hl [1, 0] rfl)
  obtain ⟨a0, e0, ⟨f, e1, hf⟩, e2⟩ := hI
  refine n_vret C B.returns B.notSynchronized w a0 (fun i h1 h2 => ?_) dX0_init_43
  by_cases h57 : i = 57
  · subst h57
    rw [e0]
    exact Cv.of rfl
  · by_cases h58 : i = 58
    · subst h58
      rw [e1]
      refine Cv.q (fun j hj => ?_)
      rw [hf j hj]
      show _ = some (ad (59 + 28 * (nI j).toNatClampNeg))
      rw [nI_clamp (by omega)]
    · exact e2 i (by omega) (by omega)

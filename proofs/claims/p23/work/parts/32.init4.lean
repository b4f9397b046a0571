/-! StairBows() -/
abbrev B4 : List Value := [.null, .null, .null, .null, .null, .null]
abbrev rm_X4_init : Room := { frames := 4, cells := 286, slots := 2924, locals := 74 }
def BI (g : Gv) (ad : Nat → Nat) (E : Nat → va_E) (h0 M : Nat) (vs : List Value) : Prop :=
  ad 0 = h0 ∧ E 0 = .inr (4, vs) ∧ ∀ i, 1 ≤ i → i < M → i ≠ 227 → Cv g.1 (E i) (lay g ad mu0 i)
theorem bi_step {g : Gv} {ad ad' : Nat → Nat} {E : Nat → va_E} {h0 M L : Nat} {vs : List Value} {k : Nat} {v : Value} (hM : 1 ≤ M) (hM2 : M ≤ 287) (hh : ∀ i, i < M → 1 ≤ i → i ≠ 227 → hiR i ≤ M) (ag : ∀ i, i < M → ad' i = ad i) (h : BI g ad E h0 M vs) : BI g ad' (upE (jn M E (lay g ad' mu0)) 0 (.inr (4, vs.set k v))) h0 L (vs.set k v) := by
  obtain ⟨a, b, c⟩ := h
  refine ⟨by rw [ag 0 (by omega), a], upE_at _ _ _, fun i h1 h2 h3 => ?_⟩
  rw [upE_ne _ _ (by omega)]
  by_cases hi : i < M
  · rw [jn_lt _ _ hi]
    exact (c i h1 hi h3).trans (lay_cv (by omega) (fun z _ hz => (ag z (Nat.lt_of_lt_of_le hz (hh i hi h1 h3))).symm))
  · rw [jn_ge _ _ (by omega)]
    exact Cv.of rfl
theorem bi_push {g : Gv} {ad : Nat → Nat} {E : Nat → va_E} {h0 M q : Nat} {vs : List Value} {k : Nat} {v : Value} {x : va_E} (hM : 1 ≤ M) (hM2 : M ≤ 287) (hh : ∀ i, i < M → 1 ≤ i → i ≠ 227 → hiR i ≤ M) (hx : M = 227 ∨ Cv g.1 x (lay g (upN ad M q) mu0 M)) (h : BI g ad E h0 M vs) : BI g (upN ad M q) (upE (upE E M x) 0 (.inr (4, vs.set k v))) h0 (M + 1) (vs.set k v) := by
  obtain ⟨a, b, c⟩ := h
  refine ⟨by rw [upN_ne _ _ (by omega), a], upE_at _ _ _, fun i h1 h2 h3 => ?_⟩
  rw [upE_ne _ _ (by omega)]
  by_cases hi : i < M
  · rw [upE_ne _ _ (by omega)]
    exact (c i h1 hi h3).trans (lay_cv (by omega) (fun z _ hz => by
      have := hh i hi h1 h3
      rw [upN_ne _ _ (by omega)]))
  · have : i = M := by omega
    subst this
    rw [upE_at]
    exact hx.resolve_left (by omega)
theorem hi_1 : ∀ i, i < 1 → 1 ≤ i → i ≠ 227 → hiR i ≤ 1 := by decide +kernel
theorem hi_29 : ∀ i, i < 29 → 1 ≤ i → i ≠ 227 → hiR i ≤ 29 := by decide +kernel
theorem hi_57 : ∀ i, i < 57 → 1 ≤ i → i ≠ 227 → hiR i ≤ 57 := by decide +kernel
theorem hi_227 : ∀ i, i < 227 → 1 ≤ i → i ≠ 227 → hiR i ≤ 227 := by decide +kernel
theorem hi_228 : ∀ i, i < 228 → 1 ≤ i → i ≠ 227 → hiR i ≤ 228 := by decide +kernel
theorem hi_229 : ∀ i, i < 229 → 1 ≤ i → i ≠ 227 → hiR i ≤ 229 := by decide +kernel
theorem hi_231 : ∀ j, j < 3 → ∀ i, i < 231 + 28 * j → 1 ≤ i → i ≠ 227 → hiR i ≤ 231 + 28 * j := by decide +kernel
theorem kd_1 : ∀ o, o < 28 → kd (1 + o) = ks o := by decide +kernel
theorem kd_29 : ∀ o, o < 28 → kd (29 + o) = ks o := by decide +kernel
theorem kd_231 : ∀ j, j < 2 → ∀ o, o < 28 → kd (231 + 28 * j + o) = ks o := by decide +kernel
def BV (g : Gv) (ad : Nat → Nat) (E : Nat → va_E) (h0 j : Nat) : Prop :=
  BI g ad E h0 (231 + 28 * j) [.ref (ad 1), .ref (ad 29), .ref (ad 57), .ref (ad 227), .ref (ad 228), .ref (ad 229)] ∧ ∃ f, E 227 = .inl (g.2 4, 2, .inr (.inr (.inr (.inr f)))) ∧ ∀ k, k < j → f k = some (ad (231 + 28 * k))
set_option maxHeartbeats 4000000 in
set_option maxRecDepth 100000 in
theorem t_X4_L65 {g : Gv} {A : Nat → Prop} {l : Launch} {p : Program} {e : Env} {s : State} {m : MethodId} {args : Array Value} {below : List Frame} {meth : Method} {c : Code} {Q : State → Prop} (C : CxN g p s m args c "StairBows" cX4_init 2) {h0 : Nat}
    (kk : ∀ (ad : Nat → Nat) (E : Nat → va_E) (H : Heap) (locs : List Loc) (ls : Array Slot), BV g ad E h0 2 → Gw g ad E 0 287 A s H locs → W p l e rm_X4_init s m args below meth c H locs 286 2924 Q (F0 m 89 ls [])) :
    ∀ (d j : Nat) (ad : Nat → Nat) (E : Nat → va_E) (H : Heap) (locs : List Loc) (ls : Array Slot), j + d = 2 → BV g ad E h0 j → Gw g ad E 0 (231 + 28 * j) A s H locs → lv_has ls 2 [(0, .ref h0), (1, .int (nI j))] → W p l e rm_X4_init s m args below meth c H locs (230 + 28 * j) (2354 + 285 * j) Q (F0 m 65 ls []) := by
  obtain ⟨hx, hb, hml, hts, hown, hKK, hN⟩ := id C
  intro d
  induction d with
  | zero =>
    intro j ad E H locs ls hj hI w hl
    have : j = 2 := by omega
    subst this
    refine lv_iload_n hx hb dX4_init_65 rfl (lv_at hl 1 rfl) ?_
    refine lv_iconst (v := 2) hx hb dX4_init_66 (by decide) ?_
    refine lv_icmp_ge (tgt := 89) hx hb dX4_init_67 (by decide) (fun _ => ?_) (fun c1 => absurd (by decide) c1)
    exact W.widen (k := 286) (n := 2924) (by omega) (by omega) (kk ad E H locs ls hI w)
  | succ d ih =>
    intro j ad E H locs ls hj hI w hl
    obtain ⟨⟨a0, e0, cv⟩, f, e1, hf⟩ := id hI
    refine lv_iload_n hx hb dX4_init_65 rfl (lv_at hl 1 rfl) ?_
    refine lv_iconst (v := 2) hx hb dX4_init_66 (by decide) ?_
    refine lv_icmp_ge (tgt := 89) hx hb dX4_init_67 (by decide) (fun c1 => absurd c1 (nI_ge (b := 2) (by omega) (by omega))) (fun _ => ?_)
    refine lv_aload_n hx hb dX4_init_70 rfl (lv_at hl 0 rfl) ?_
    refine n_get C w (i := 0) (ci := 4) (k := 3) (N := 6) (C := RX4) (T := TX4) (by omega) (by omega) a0 e0 iX4 rfl (by decide) fl_StairBows_26 rfl dX4_init_71 ?_
    refine lv_iload_n hx hb dX4_init_74 rfl (lv_at hl 1 rfl) ?_
    refine n_stair C w (by omega) (by omega) (kd_231 j (by omega)) cl_StairBows_7 ml2_StairBows_9 hl.1 ⟨Nat.le_of_ble_eq_true rfl, Nat.le_of_ble_eq_true rfl⟩ (Nat.le_of_ble_eq_true rfl) ⟨by show 230 + 28 * j + 28 ≤ 286; omega, by show 2354 + 285 * j + 285 ≤ 2924; omega⟩ dX4_init_75 dX4_init_78 dX4_init_79 (fun ad' H1 locs1 ag w => ?_)
    have Ee : ∀ i, i < 231 + 28 * j → jn (231 + 28 * j) E (lay g ad' mu0) i = E i := fun i hi => jn_lt _ _ hi
    have Eq : jn (231 + 28 * j) E (lay g ad' mu0) (231 + 28 * j) = .inr (3, fsK ad' 9 (231 + 28 * j) (mu0 (231 + 28 * j))) := by
      rw [jn_ge _ _ (Nat.le_refl _)]
      exact lay_9 (kd_231 j (by omega) 0 (by omega))
    refine n_astq C w (i := 227) (i2 := 231 + 28 * j) (t := 4) (n := 2) (jn' := j) (f := f) (ci := 3) (r := (RX3, TX3, 6)) (by omega) (by omega) (ag _ (by omega)) ((Ee _ (by omega)).trans e1) rfl (by omega) (by omega) rfl Eq rfl (nI_clamp (by omega)) (vp_in_nI (by omega) (by omega)) dX4_init_82 (fun H3 locs3 w => ?_)
    refine lv_iinc (v := nI (j + 1)) (lv' := [(1, .int (nI (j + 1))), (0, .ref h0)]) hx hb dX4_init_83 hl (k := 1) rfl (nI_1 j) (by decide) rfl (fun ls hl => ?_)
    refine lv_goto (tgt := 65) hx hb dX4_init_86 (by decide) ?_
    refine W.widen (k := 230 + 28 * (j + 1)) (n := 2354 + 285 * (j + 1)) (by omega) (by omega) ?_
    refine ih (j + 1) ad' _ _ _ _ (by omega) ⟨⟨?_, ?_, fun i h1 h2 h3 => ?_⟩, _, upE_at _ _ _, fun k hk => ?_⟩ (by rw [show 231 + 28 * (j + 1) = 231 + 28 * j + 28 by omega]; exact w) (lv_sub hl [1, 0] rfl)
    · rw [ag _ (by omega), a0]
    · rw [upE_ne _ _ (by omega), Ee _ (by omega), e0, ag _ (by omega), ag _ (by omega), ag _ (by omega), ag _ (by omega), ag _ (by omega), ag _ (by omega)]
    · rw [upE_ne _ _ (by omega)]
      by_cases hi : i < 231 + 28 * j
      · rw [Ee i hi]
        exact (cv i h1 hi h3).trans (lay_cv (by omega) (fun z _ hz => (ag z (Nat.lt_of_lt_of_le hz (hi_231 j (by omega) i hi h1 h3))).symm))
      · rw [jn_ge _ _ (by omega)]
        exact Cv.of rfl
    · unfold va_up
      by_cases hkj : k = j
      · subst hkj
        simp
      · simp only [hkj, if_false]
        rw [hf k (by omega), ag _ (by omega)]
set_option maxHeartbeats 4000000 in
set_option maxRecDepth 100000 in
theorem c_X4_init (l : Launch) (g : Gv) (h0 sz : Nat) : Met l yX4_init (wX yX4_init cX4_init 2 none) rm_X4_init (PreN g [(h0, .inr (4, B4))] sz [.ref h0]) (PostN g 0 287 [(h0, .inr (4, B4))] sz h0) 286 2924 (va_A [(h0, .inr (4, B4))] sz) := by
  refine Met.ofW (cc := cX4_init) (maxL := 2) (ret := none) (by decide) rfl ?_
  intro p e s m args below meth c s₁ B hml hv
  obtain ⟨rfl, rfl, C, w⟩ := n_start (b := 0) B hml hv
  obtain ⟨hx, hb, hml, hts, hown, hKK, hN⟩ := id C
  have hin : meth.name = "<init>" := (name_of_methodNamed B.named B.method).1
  have hl := lv_entry ([.ref h0]) (n := 2) (Nat.le_of_ble_eq_true rfl)
  rw [lg_entry_eq]
  generalize (lg_sl ([.ref h0]) ++ List.replicate (2 - (lg_sl ([.ref h0])).length) Slot.unset).toArray = ls at hl ⊢
  have hl : lv_has ls 2 [(0, .ref h0)] := hl
  have I0 : BI g (fun _ => h0) (fun _ => .inr (4, B4)) h0 1 B4 := ⟨rfl, rfl, fun i h1 h2 _ => by omega⟩
  refine lv_aload_n hx hb dX4_init_0 rfl (lv_at hl 0 rfl) ?_
  refine n_obj C hl.1 ml2_StairBows_1 dX4_init_1 (Nat.le_of_ble_eq_true rfl) (Nat.le_of_ble_eq_true rfl) ?_
  -- now
  refine lv_aload_n hx hb dX4_init_4 rfl (lv_at hl 0 rfl) ?_
  refine n_stair C w (by omega) (by omega) kd_1 cl_StairBows_7 ml2_StairBows_9 hl.1 ⟨Nat.le_of_ble_eq_true rfl, Nat.le_of_ble_eq_true rfl⟩ (Nat.le_of_ble_eq_true rfl) ⟨Nat.le_of_ble_eq_true rfl, Nat.le_of_ble_eq_true rfl⟩ dX4_init_5 dX4_init_8 dX4_init_9 (fun ad1 H1 locs1 ag1 w => ?_)
  refine n_putF C w hin (i := 0) (ci := 4) (k := 0) (N := 6) (fs := B4) (C := RX4) (T := TX4) (by omega) (by omega) (ag1 0 (by omega)) (jn_lt _ _ (by omega)) iX4 tyX4 tyX4_ok nmX4 rfl (by decide) fl_StairBows_10 rfl rfl rfl rfl rfl (Nat.le_of_ble_eq_true rfl) dX4_init_12 (fun H2 locs2 w => ?_)
  have I1 := bi_step (L := 29) (k := 0) (v := .ref (ad1 1)) (by omega) (by omega) hi_1 ag1 I0
  generalize (upE (jn 1 (fun _ => Sum.inr (4, B4)) (lay g ad1 mu0)) 0 (.inr (4, B4.set 0 (.ref (ad1 1))))) = E1 at w I1
  have I1 : BI g ad1 E1 h0 29 [.ref (ad1 1), .null, .null, .null, .null, .null] := I1
  -- trial
  refine lv_aload_n hx hb dX4_init_15 rfl (lv_at hl 0 rfl) ?_
  refine n_stair C w (by omega) (by omega) kd_29 cl_StairBows_7 ml2_StairBows_9 hl.1 ⟨Nat.le_of_ble_eq_true rfl, Nat.le_of_ble_eq_true rfl⟩ (Nat.le_of_ble_eq_true rfl) ⟨Nat.le_of_ble_eq_true rfl, Nat.le_of_ble_eq_true rfl⟩ dX4_init_16 dX4_init_19 dX4_init_20 (fun ad2 H1 locs1 ag2 w => ?_)
  refine n_putF C w hin (i := 0) (ci := 4) (k := 1) (N := 6) (C := RX4) (T := TX4) (by omega) (by omega) ((ag2 0 (by omega)).trans I1.1) ((jn_lt _ _ (by omega)).trans I1.2.1) iX4 tyX4 tyX4_ok nmX4 rfl (by decide) fl_StairBows_16 rfl rfl rfl rfl rfl (Nat.le_of_ble_eq_true rfl) dX4_init_23 (fun H2 locs2 w => ?_)
  have I2 := bi_step (L := 57) (k := 1) (v := .ref (ad2 29)) (by omega) (by omega) hi_29 ag2 I1
  rw [← ag2 1 (by omega)] at I2 w
  generalize (upE (jn 29 E1 (lay g ad2 mu0)) 0 (.inr (4, [.ref (ad2 1), .null, .null, .null, .null, .null].set 1 (.ref (ad2 29))))) = E2 at w I2
  have I2 : BI g ad2 E2 h0 57 [.ref (ad2 1), .ref (ad2 29), .null, .null, .null, .null] := I2
  -- history
  refine lv_aload_n hx hb dX4_init_26 rfl (lv_at hl 0 rfl) ?_
  refine n_new C w (by omega) (ci := 0) (fs := B0) (C := RX0) (T := TX0) (N := 2) iX0 tyX0 tyX0_ok cl_StairBows_19 ib_X0_init it_X0_init rfl (fun k hk => by rcases (show k = 0 ∨ k = 1 by omega) with rfl | rfl <;> rfl) (Nat.le_of_ble_eq_true rfl) (Nat.le_of_ble_eq_true rfl) dX4_init_27 (fun q H1 w => ?_)
  refine lv_dup hx hb dX4_init_30 rfl ?_
  refine n_back (L := 227) w (by omega) (by omega) (by omega) (q := q) (e1 := .inr (0, B0)) (upN_at _ _ _) (upE_at _ _ _) (n_runI C w (by omega) (upN_at _ _ _) (upE_at _ _ _) (c_X0_init l g q H1.size) cd_X0_init it_X0_init ml2_StairBows_21 in_X0_init rfl (by decide +kernel) ⟨rfl, rfl⟩ ⟨Nat.le_of_ble_eq_true rfl, Nat.le_of_ble_eq_true rfl⟩ hl.1 rfl (Nat.le_of_ble_eq_true rfl) dX4_init_31 ⟨Nat.le_of_ble_eq_true rfl, Nat.le_of_ble_eq_true rfl⟩) (fun ad3 H2 locs2 hag w => ?_)
  have aq : ad3 57 = q := by rw [hag _ (Nat.le_refl _), upN_at]
  have ag3 : ∀ i, i < 57 → ad3 i = ad2 i := fun i hi => by rw [hag i (by omega), upN_ne _ _ (by omega)]
  rw [jn_upE] at w
  rw [← aq]
  refine n_putF C w hin (i := 0) (ci := 4) (k := 2) (N := 6) (C := RX4) (T := TX4) (by omega) (by omega) ((ag3 0 (by omega)).trans I2.1) ((jn_lt _ _ (by omega)).trans I2.2.1) iX4 tyX4 tyX4_ok nmX4 rfl (by decide) fl_StairBows_22 rfl rfl rfl rfl rfl (Nat.le_of_ble_eq_true rfl) dX4_init_34 (fun H2 locs2 w => ?_)
  have I3 := bi_step (L := 227) (k := 2) (v := .ref (ad3 57)) (by omega) (by omega) hi_57 ag3 I2
  rw [← ag3 1 (by omega), ← ag3 29 (by omega)] at I3 w
  generalize (upE (jn 57 E2 (lay g ad3 mu0)) 0 (.inr (4, [.ref (ad3 1), .ref (ad3 29), .null, .null, .null, .null].set 2 (.ref (ad3 57))))) = E3 at w I3
  have I3 : BI g ad3 E3 h0 227 [.ref (ad3 1), .ref (ad3 29), .ref (ad3 57), .null, .null, .null] := I3
  -- slots
  refine lv_aload_n hx hb dX4_init_37 rfl (lv_at hl 0 rfl) ?_
  refine lv_iconst (v := 2) hx hb dX4_init_38 (by decide) ?_
  refine n_newq C w (by omega) (t := 4) (N' := 2) cl_StairBows_7 hN.2.2.2.2 rfl (by decide) rfl (by decide) (Nat.le_of_ble_eq_true rfl) (Nat.le_of_ble_eq_true rfl) dX4_init_39 (fun q4 H4 w => ?_)
  refine n_putF C w hin (i := 0) (ci := 4) (k := 3) (N := 6) (C := RX4) (T := TX4) (by omega) (by omega) ((upN_ne _ _ (by omega)).trans I3.1) ((upE_ne _ _ (by omega)).trans I3.2.1) iX4 tyX4 tyX4_ok nmX4 rfl (by decide) fl_StairBows_26 rfl rfl rfl rfl rfl (Nat.le_of_ble_eq_true rfl) dX4_init_42 (fun H5 locs5 w => ?_)
  have I4 := bi_push (k := 3) (v := .ref q4) (q := q4) (x := .inl (g.2 4, 2, .inr (.inr (.inr (.inr (fun _ => none)))))) (by omega) (by omega) hi_227 (Or.inl rfl) I3
  have ag4 : ∀ i, i < 227 → upN ad3 227 q4 i = ad3 i := fun i hi => upN_ne _ _ (by omega)
  have aq4 : upN ad3 227 q4 227 = q4 := upN_at _ _ _
  rw [← ag4 1 (by omega), ← ag4 29 (by omega), ← ag4 57 (by omega)] at I4 w
  generalize hE4 : (upE (upE E3 227 (.inl (g.2 4, 2, .inr (.inr (.inr (.inr (fun _ => none))))))) 0 (.inr (4, [.ref (upN ad3 227 q4 1), .ref (upN ad3 227 q4 29), .ref (upN ad3 227 q4 57), .null, .null, .null].set 3 (.ref q4)))) = E4 at w I4
  have s4 : E4 227 = .inl (g.2 4, 2, .inr (.inr (.inr (.inr (fun _ => none))))) := by rw [← hE4, upE_ne _ _ (by omega), upE_at]
  clear hE4
  generalize upN ad3 227 q4 = ad4 at w I4 aq4
  rw [← aq4] at I4
  have I4 : BI g ad4 E4 h0 228 [.ref (ad4 1), .ref (ad4 29), .ref (ad4 57), .ref (ad4 227), .null, .null] := I4
  -- isSaved
  refine lv_aload_n hx hb dX4_init_45 rfl (lv_at hl 0 rfl) ?_
  refine lv_iconst (v := 2) hx hb dX4_init_46 (by decide) ?_
  refine n_newa C w (by omega) (atype := .boolean) (t := 1) (ty := .boolean) ac_boolean rfl rfl (N' := 2) (a0 := (2, .inl (fun _ => 0))) (fun _ => rfl) (by decide) rfl (by decide) (Nat.le_of_ble_eq_true rfl) (Nat.le_of_ble_eq_true rfl) dX4_init_47 (fun q5 H4 w => ?_)
  refine n_putF C w hin (i := 0) (ci := 4) (k := 4) (N := 6) (C := RX4) (T := TX4) (by omega) (by omega) ((upN_ne _ _ (by omega)).trans I4.1) ((upE_ne _ _ (by omega)).trans I4.2.1) iX4 tyX4 tyX4_ok nmX4 rfl (by decide) fl_StairBows_30 rfl rfl rfl rfl rfl (Nat.le_of_ble_eq_true rfl) dX4_init_49 (fun H5 locs5 w => ?_)
  have I5 := bi_push (k := 4) (v := .ref q5) (q := q5) (x := .inl (g.2 1, 2, .inl (fun _ => 0))) (by omega) (by omega) hi_228 (Or.inr (Cv.of rfl)) I4
  have ag5 : ∀ i, i < 228 → upN ad4 228 q5 i = ad4 i := fun i hi => upN_ne _ _ (by omega)
  have aq5 : upN ad4 228 q5 228 = q5 := upN_at _ _ _
  rw [← ag5 1 (by omega), ← ag5 29 (by omega), ← ag5 57 (by omega), ← ag5 227 (by omega)] at I5 w
  generalize hE5 : (upE (upE E4 228 (.inl (g.2 1, 2, .inl (fun _ => 0)))) 0 (.inr (4, [.ref (upN ad4 228 q5 1), .ref (upN ad4 228 q5 29), .ref (upN ad4 228 q5 57), .ref (upN ad4 228 q5 227), .null, .null].set 4 (.ref q5)))) = E5 at w I5
  have s5 : E5 227 = .inl (g.2 4, 2, .inr (.inr (.inr (.inr (fun _ => none))))) := by rw [← hE5, upE_ne _ _ (by omega), upE_ne _ _ (by omega), s4]
  clear hE5
  generalize upN ad4 228 q5 = ad5 at w I5 aq5
  rw [← aq5] at I5
  have I5 : BI g ad5 E5 h0 229 [.ref (ad5 1), .ref (ad5 29), .ref (ad5 57), .ref (ad5 227), .ref (ad5 228), .null] := I5
  -- pad
  refine lv_aload_n hx hb dX4_init_52 rfl (lv_at hl 0 rfl) ?_
  refine n_new C w (by omega) (ci := 1) (fs := B1) (C := RX1) (T := TX1) (N := 2) iX1 tyX1 tyX1_ok cl_StairBows_34 ib_X1_init it_X1_init rfl (fun k hk => by rcases (show k = 0 ∨ k = 1 by omega) with rfl | rfl <;> rfl) (Nat.le_of_ble_eq_true rfl) (Nat.le_of_ble_eq_true rfl) dX4_init_53 (fun q6 H1 w => ?_)
  refine lv_dup hx hb dX4_init_56 rfl ?_
  refine n_back (L := 231) w (by omega) (by omega) (by omega) (q := q6) (e1 := .inr (1, B1)) (upN_at _ _ _) (upE_at _ _ _) (n_runN C w (by omega) (upN_at _ _ _) (upE_at _ _ _) (c_X1_init l g q6 H1.size) cd_X1_init it_X1_init hN.2.1 in_X1_init rfl (by decide +kernel) ⟨rfl, rfl⟩ ⟨Nat.le_of_ble_eq_true rfl, Nat.le_of_ble_eq_true rfl⟩ hl.1 rfl (Nat.le_of_ble_eq_true rfl) dX4_init_57 ⟨Nat.le_of_ble_eq_true rfl, Nat.le_of_ble_eq_true rfl⟩) (fun ad6 H2 locs2 hag w => ?_)
  have aq6 : ad6 229 = q6 := by rw [hag _ (Nat.le_refl _), upN_at]
  have ag6 : ∀ i, i < 229 → ad6 i = ad5 i := fun i hi => by rw [hag i (by omega), upN_ne _ _ (by omega)]
  rw [jn_upE] at w
  rw [← aq6]
  refine n_putF C w hin (i := 0) (ci := 4) (k := 5) (N := 6) (C := RX4) (T := TX4) (by omega) (by omega) ((ag6 0 (by omega)).trans I5.1) ((jn_lt _ _ (by omega)).trans I5.2.1) iX4 tyX4 tyX4_ok nmX4 rfl (by decide) fl_StairBows_37 rfl rfl rfl rfl rfl (Nat.le_of_ble_eq_true rfl) dX4_init_60 (fun H2 locs2 w => ?_)
  have I6 := bi_step (L := 231) (k := 5) (v := .ref (ad6 229)) (by omega) (by omega) hi_229 ag6 I5
  rw [← ag6 1 (by omega), ← ag6 29 (by omega), ← ag6 57 (by omega), ← ag6 227 (by omega), ← ag6 228 (by omega)] at I6 w
  generalize hE6 : (upE (jn 229 E5 (lay g ad6 mu0)) 0 (.inr (4, [.ref (ad6 1), .ref (ad6 29), .ref (ad6 57), .ref (ad6 227), .ref (ad6 228), .null].set 5 (.ref (ad6 229))))) = E6 at w I6
  have s6 : E6 227 = .inl (g.2 4, 2, .inr (.inr (.inr (.inr (fun _ => none))))) := by rw [← hE6, upE_ne _ _ (by omega), jn_lt _ _ (by omega), s5]
  clear hE6
  have I6 : BI g ad6 E6 h0 231 [.ref (ad6 1), .ref (ad6 29), .ref (ad6 57), .ref (ad6 227), .ref (ad6 228), .ref (ad6 229)] := I6
  refine lv_iconst (v := 0) hx hb dX4_init_63 (by decide) ?_
  refine lv_istore_n (lv' := [(1, .int 0), (0, .ref h0)]) hx hb dX4_init_64 rfl hl (by decide) rfl (fun ls hl => ?_)
  refine W.widen (k := 230 + 28 * 0) (n := 2354 + 285 * 0) (Nat.le_of_ble_eq_true rfl) (Nat.le_of_ble_eq_true rfl) ?_
  refine t_X4_L65 C (fun ad E H locs ls hI w => ?_) 2 0 _ _ _ _ ls (by omega) ⟨I6, _, s6, fun k hk => by omega⟩ w (lv_sub hl [1, 0] rfl)
  obtain ⟨⟨a0, e0, cv⟩, f, e1, hf⟩ := hI
  refine n_vret C B.returns B.notSynchronized w a0 (fun i h1 h2 => ?_) dX4_init_89
  by_cases hi0 : i = 0
  · subst hi0
    rw [e0]
    exact Cv.of rfl
  · by_cases h227 : i = 227
    · subst h227
      rw [e1]
      exact Cv.q (fun j hj => hf j hj)
    · exact cv i (by omega) (by omega) h227

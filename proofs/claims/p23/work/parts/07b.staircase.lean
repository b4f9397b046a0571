/-! METHODS, by program: conditions and contracts -/
abbrev rm_X3_takeFrom : Room := { frames := 1, cells := 0, slots := 0, locals := 30 }
noncomputable def wp_X3_takeFrom_L62 (v0 : Nat) (v1 : Nat) (K : Mem → Prop) (n : Nat) : Int32 → Mem → Prop :=
  Nat.rec (motive := fun _ => Int32 → Mem → Prop) (fun _ _ => False) (fun _ ih v2 μ =>
    (((μ v0 4) ≤ v2 → K μ) ∧ (¬ (μ v0 4) ≤ v2 → (vp_in v2 24 ∧ (vp_in v2 24 ∧ (wp_X2_takeFrom ((v0 + 2) + 2 + v2.toNatClampNeg) ((v1 + 2) + 2 + v2.toNatClampNeg) μ (fun m_14 => ih (v2 + 1) m_14))))))) n
theorem wp_X3_takeFrom_L62_s (v0 : Nat) (v1 : Nat) (K : Mem → Prop) (n : Nat) (v2 : Int32) (μ : Mem) : wp_X3_takeFrom_L62 v0 v1 K (n + 1) v2 μ = (
    let ih := wp_X3_takeFrom_L62 v0 v1 K n
    (((μ v0 4) ≤ v2 → K μ) ∧ (¬ (μ v0 4) ≤ v2 → (vp_in v2 24 ∧ (vp_in v2 24 ∧ (wp_X2_takeFrom ((v0 + 2) + 2 + v2.toNatClampNeg) ((v1 + 2) + 2 + v2.toNatClampNeg) μ (fun m_14 => ih (v2 + 1) m_14))))))) := rfl
noncomputable def wp_X3_takeFrom (b0 : Nat) (a1 : Nat) (μ : Mem) (K : Mem → Prop) : Prop :=
    (∀ m_1, m_1 = upR μ (b0 + 1) (va_cpy (μ (a1 + 1)) (μ (b0 + 1)) 0 0 3) → (∀ m_3, m_3 = upR m_1 (b0 + 3) (va_cpy (m_1 (a1 + 3)) (m_1 (b0 + 3)) 0 0 12) → (∀ m_5, m_5 = up2 m_3 b0 3 (m_3 a1 3) → (∀ m_7, m_7 = up2 m_5 b0 4 (m_5 a1 4) → (∀ m_9, m_9 = up2 m_7 b0 5 (m_7 a1 5) → (∃ n, wp_X3_takeFrom_L62 b0 a1 K n 0 m_9))))))
set_option maxHeartbeats 4000000 in
set_option maxRecDepth 100000 in
theorem t_X3_takeFrom_L62 {g : Gv} {ad : Nat → Nat} {l : Launch} {p : Program} {e : Env} {s : State} {m : MethodId} {args : Array Value} {below : List Frame} {meth : Method} {c : Code} (C : Cx g p s m args meth c "StairBows$Staircase" cX3_takeFrom 3 none) {v0 : Nat} {v1 : Nat}  {K : Mem → Prop}  (kv0 : kd v0 = 9) (kv1 : kd v1 = 9)  : ∀ (n : Nat) (v2 : Int32) (μ : Mem) (H : Heap) (locs : List Loc) (ls : Array Slot), wp_X3_takeFrom_L62 v0 v1 K n v2 μ → Wd g ad μ (Aw ad s.heap.size) s H locs → lv_has ls 3 [(0, .ref (ad v0)), (1, .ref (ad v1)), (2, .int v2)] → W p l e rm_X3_takeFrom s m args below meth c H locs 0 0 (MQ below (PostV g ad s.heap.size K) args s 0 0 (Aw ad s.heap.size)) (F0 m 62 ls []) := by
  obtain ⟨hx, hb, hml, -, hts, hown, -, -, hN⟩ := id C
  intro n
  induction n with
  | zero =>
    intro v2 μ H locs ls h w hl
    exact (show False from h).elim
  | succ n ih =>
    intro v2 μ H locs ls h w hl
    rw [wp_X3_takeFrom_L62_s] at h
    dsimp only at h
    refine lv_iload_n hx hb dX3_takeFrom_62 rfl (lv_at hl 2 rfl) ?_
    refine lv_aload_n hx hb dX3_takeFrom_63 rfl (lv_at hl 0 rfl) ?_
    refine x_getS C w (i := v0) (k := 4) (v := .int (μ v0 4)) kv0 (by decide) rfl mf_Staircase_38 dX3_takeFrom_64 ?_
    refine lv_icmp_ge (tgt := 91) hx hb dX3_takeFrom_67 (by decide) (fun c_11 => ?_) (fun c_11 => ?_)
    · have h := h.1 c_11
      exact x_vret C w h dX3_takeFrom_91
    · have h := h.2 c_11
      refine lv_aload_n hx hb dX3_takeFrom_70 rfl (lv_at hl 0 rfl) ?_
      refine x_getS C w (i := v0) (k := 1) (v := .ref (ad (v0 + 2))) kv0 (by decide) rfl mf_Staircase_20 dX3_takeFrom_71 ?_
      refine lv_iload_n hx hb dX3_takeFrom_74 rfl (lv_at hl 2 rfl) ?_
      have hi := h.1
      have h := h.2
      refine x_aldP C w (kS2 kv0) hi dX3_takeFrom_75 ?_
      have k_12 := kSP (kS2 kv0) hi
      refine lv_aload_n hx hb dX3_takeFrom_76 rfl (lv_at hl 1 rfl) ?_
      refine x_getS C w (i := v1) (k := 1) (v := .ref (ad (v1 + 2))) kv1 (by decide) rfl mf_Staircase_20 dX3_takeFrom_77 ?_
      refine lv_iload_n hx hb dX3_takeFrom_80 rfl (lv_at hl 2 rfl) ?_
      have hi := h.1
      have h := h.2
      refine x_aldP C w (kS2 kv1) hi dX3_takeFrom_81 ?_
      have k_13 := kSP (kS2 kv1) hi
      refine x_callv C w (x_runV (i := ((v0 + 2) + 2 + v2.toNatClampNeg)) (As := [.ref (ad ((v1 + 2) + 2 + v2.toNatClampNeg))]) (rest := []) C w k_12 (by decide) (ci := 2) rfl rfl rfl me_X2_takeFrom ml_Staircase_44 (c_X2_takeFrom l g ad μ _ ((v0 + 2) + 2 + v2.toNatClampNeg) k_12 ((v1 + 2) + 2 + v2.toNatClampNeg) k_13 h) ⟨rfl, rfl⟩ ⟨Nat.le_of_ble_eq_true rfl, Nat.le_of_ble_eq_true rfl⟩ rfl hl.1 rfl (Nat.le_of_ble_eq_true rfl) dX3_takeFrom_82 ⟨Nat.le_of_ble_eq_true rfl, Nat.le_of_ble_eq_true rfl⟩) (fun m_14 h H locs w => ?_)
      refine lv_iinc (v := (v2 + 1)) (lv' := [(2, .int (v2 + 1)), (0, .ref (ad v0)), (1, .ref (ad v1))]) hx hb dX3_takeFrom_85 hl (k := 2) rfl rfl (by decide) rfl (fun ls hl => ?_)
      refine lv_goto (tgt := 62) hx hb dX3_takeFrom_88 (by decide) ?_
      exact ih (v2 + 1) m_14 _ _ _ h w (lv_sub hl [1, 2, 0] rfl)
set_option maxHeartbeats 4000000 in
set_option maxRecDepth 100000 in
theorem c_X3_takeFrom (l : Launch) (g : Gv) (ad : Nat → Nat) (μ : Mem) (sz : Nat) (b0 : Nat) (k0 : kd b0 = 9) (a1 : Nat) (k1 : kd a1 = 9) {K : Mem → Prop} (h : wp_X3_takeFrom b0 a1 μ K) : Met l yX3_takeFrom (wX yX3_takeFrom cX3_takeFrom 3 none) rm_X3_takeFrom (Pre g ad μ sz [.ref (ad b0), .ref (ad a1)]) (PostV g ad sz K) 0 0 (Aw ad sz) := by
  refine Met.ofW (cc := cX3_takeFrom) (maxL := 3) (ret := none) (by decide) rfl ?_
  intro p e s m args below meth c s₁ B hml hv
  obtain ⟨rfl, rfl, C, w⟩ := x_start B hml hv
  obtain ⟨hx, hb, hml, -, hts, hown, -, -, hN⟩ := id C
  have hl := lv_entry ([.ref (ad b0), .ref (ad a1)]) (n := 3) (Nat.le_of_ble_eq_true rfl)
  rw [lg_entry_eq]
  generalize (lg_sl ([.ref (ad b0), .ref (ad a1)]) ++ List.replicate (3 - (lg_sl ([.ref (ad b0), .ref (ad a1)])).length) Slot.unset).toArray = ls at hl ⊢
  have hl : lv_has ls 3 [(0, .ref (ad b0)), (1, .ref (ad a1))] := hl
  show W p l e rm_X3_takeFrom s m _ below meth c s.heap [] 0 0 _ _
  unfold wp_X3_takeFrom at h
  refine lv_aload_n hx hb dX3_takeFrom_0 rfl (lv_at hl 1 rfl) ?_
  refine x_getS C w (i := a1) (k := 0) (v := .ref (ad (a1 + 1))) k1 (by decide) rfl mf_Staircase_13 dX3_takeFrom_1 ?_
  refine lv_iconst (v := 0) hx hb dX3_takeFrom_4 (by decide) ?_
  refine lv_aload_n hx hb dX3_takeFrom_5 rfl (lv_at hl 0 rfl) ?_
  refine x_getS C w (i := b0) (k := 0) (v := .ref (ad (b0 + 1))) k0 (by decide) rfl mf_Staircase_13 dX3_takeFrom_6 ?_
  refine lv_iconst (v := 0) hx hb dX3_takeFrom_9 (by decide) ?_
  refine lv_aload_n hx hb dX3_takeFrom_10 rfl (lv_at hl 0 rfl) ?_
  refine x_getS C w (i := b0) (k := 0) (v := .ref (ad (b0 + 1))) k0 (by decide) rfl mf_Staircase_13 dX3_takeFrom_11 ?_
  refine x_alen C w (i := (b0 + 1)) (K := 10) (n := 3) (v := 3) (kS1 k0) (by decide) rfl rfl dX3_takeFrom_14 ?_
  refine x_copy C w (i0 := (a1 + 1)) (i1 := (b0 + 1)) (K := 10) (n := 3) (v := 3) (kS1 k1) (kS1 k0) (by decide) (fun _ _ => rfl) (by decide) (by decide) hl.1 ml_Staircase_32 (Nat.le_of_ble_eq_true rfl) (Nat.le_of_ble_eq_true rfl) dX3_takeFrom_15 (fun m_1 e_2 H locs w => ?_)
  have h := h m_1 e_2
  refine lv_aload_n hx hb dX3_takeFrom_18 rfl (lv_at hl 1 rfl) ?_
  refine x_getS C w (i := a1) (k := 2) (v := .ref (ad (a1 + 3))) k1 (by decide) rfl mf_Staircase_24 dX3_takeFrom_19 ?_
  refine lv_iconst (v := 0) hx hb dX3_takeFrom_22 (by decide) ?_
  refine lv_aload_n hx hb dX3_takeFrom_23 rfl (lv_at hl 0 rfl) ?_
  refine x_getS C w (i := b0) (k := 2) (v := .ref (ad (b0 + 3))) k0 (by decide) rfl mf_Staircase_24 dX3_takeFrom_24 ?_
  refine lv_iconst (v := 0) hx hb dX3_takeFrom_27 (by decide) ?_
  refine lv_aload_n hx hb dX3_takeFrom_28 rfl (lv_at hl 0 rfl) ?_
  refine x_getS C w (i := b0) (k := 2) (v := .ref (ad (b0 + 3))) k0 (by decide) rfl mf_Staircase_24 dX3_takeFrom_29 ?_
  refine x_alen C w (i := (b0 + 3)) (K := 12) (n := 12) (v := 12) (kS3 k0) (by decide) rfl rfl dX3_takeFrom_32 ?_
  refine x_copy C w (i0 := (a1 + 3)) (i1 := (b0 + 3)) (K := 12) (n := 12) (v := 12) (kS3 k1) (kS3 k0) (by decide) (fun _ _ => rfl) (by decide) (by decide) hl.1 ml_Staircase_32 (Nat.le_of_ble_eq_true rfl) (Nat.le_of_ble_eq_true rfl) dX3_takeFrom_33 (fun m_3 e_4 H locs w => ?_)
  have h := h m_3 e_4
  refine lv_aload_n hx hb dX3_takeFrom_36 rfl (lv_at hl 0 rfl) ?_
  refine lv_aload_n hx hb dX3_takeFrom_37 rfl (lv_at hl 1 rfl) ?_
  refine x_getS C w (i := a1) (k := 3) (v := .int (m_3 a1 3)) k1 (by decide) rfl mf_Staircase_27 dX3_takeFrom_38 ?_
  refine x_putS C w (i := b0) (k := 3) k0 (by decide) rfl mf_Staircase_27 rfl rfl dX3_takeFrom_41 (fun m_5 e_6 H locs w => ?_)
  have h := h m_5 e_6
  refine lv_aload_n hx hb dX3_takeFrom_44 rfl (lv_at hl 0 rfl) ?_
  refine lv_aload_n hx hb dX3_takeFrom_45 rfl (lv_at hl 1 rfl) ?_
  refine x_getS C w (i := a1) (k := 4) (v := .int (m_5 a1 4)) k1 (by decide) rfl mf_Staircase_38 dX3_takeFrom_46 ?_
  refine x_putS C w (i := b0) (k := 4) k0 (by decide) rfl mf_Staircase_38 rfl rfl dX3_takeFrom_49 (fun m_7 e_8 H locs w => ?_)
  have h := h m_7 e_8
  refine lv_aload_n hx hb dX3_takeFrom_52 rfl (lv_at hl 0 rfl) ?_
  refine lv_aload_n hx hb dX3_takeFrom_53 rfl (lv_at hl 1 rfl) ?_
  refine x_getS C w (i := a1) (k := 5) (v := .int (m_7 a1 5)) k1 (by decide) rfl mf_Staircase_41 dX3_takeFrom_54 ?_
  refine x_putS C w (i := b0) (k := 5) k0 (by decide) rfl mf_Staircase_41 rfl rfl dX3_takeFrom_57 (fun m_9 e_10 H locs w => ?_)
  have h := h m_9 e_10
  refine lv_iconst (v := 0) hx hb dX3_takeFrom_60 (by decide) ?_
  refine lv_istore_n (lv' := [(2, .int 0), (0, .ref (ad b0)), (1, .ref (ad a1))]) hx hb dX3_takeFrom_61 rfl hl (by decide) rfl (fun ls hl => ?_)
  obtain ⟨n_15, h⟩ := h
  exact t_X3_takeFrom_L62 C k0 k1 n_15 0 m_9 _ _ _ h w (lv_sub hl [1, 2, 0] rfl)
abbrev rm_X3_admit : Room := { frames := 1, cells := 0, slots := 0, locals := 22 }
noncomputable def wp_X3_admit (b0 : Nat) (a1 : Int32) (a2 : Int32) (μ : Mem) (K : Mem → Prop) : Prop :=
    ((24 ≤ (μ b0 4) → K μ) ∧ (¬ 24 ≤ (μ b0 4) → (vp_in (μ b0 4) 24 ∧ (wp_X2_enterHall ((b0 + 2) + 2 + (μ b0 4).toNatClampNeg) a1 a2 μ (fun m_3 => (∀ m_4, m_4 = up2 m_3 b0 4 ((m_3 b0 4) + 1) → K m_4))))))
set_option maxHeartbeats 4000000 in
set_option maxRecDepth 100000 in
theorem c_X3_admit (l : Launch) (g : Gv) (ad : Nat → Nat) (μ : Mem) (sz : Nat) (b0 : Nat) (k0 : kd b0 = 9) (a1 : Int32) (a2 : Int32) {K : Mem → Prop} (h : wp_X3_admit b0 a1 a2 μ K) : Met l yX3_admit (wX yX3_admit cX3_admit 3 none) rm_X3_admit (Pre g ad μ sz [.ref (ad b0), .int a1, .int a2]) (PostV g ad sz K) 0 0 (Aw ad sz) := by
  refine Met.ofW (cc := cX3_admit) (maxL := 3) (ret := none) (by decide) rfl ?_
  intro p e s m args below meth c s₁ B hml hv
  obtain ⟨rfl, rfl, C, w⟩ := x_start B hml hv
  obtain ⟨hx, hb, hml, -, hts, hown, -, -, hN⟩ := id C
  have hl := lv_entry ([.ref (ad b0), .int a1, .int a2]) (n := 3) (Nat.le_of_ble_eq_true rfl)
  rw [lg_entry_eq]
  generalize (lg_sl ([.ref (ad b0), .int a1, .int a2]) ++ List.replicate (3 - (lg_sl ([.ref (ad b0), .int a1, .int a2])).length) Slot.unset).toArray = ls at hl ⊢
  have hl : lv_has ls 3 [(0, .ref (ad b0)), (1, .int a1), (2, .int a2)] := hl
  show W p l e rm_X3_admit s m _ below meth c s.heap [] 0 0 _ _
  unfold wp_X3_admit at h
  refine lv_aload_n hx hb dX3_admit_0 rfl (lv_at hl 0 rfl) ?_
  refine x_getS C w (i := b0) (k := 4) (v := .int (μ b0 4)) k0 (by decide) rfl mf_Staircase_38 dX3_admit_1 ?_
  refine lv_bipush (v := 24) hx hb dX3_admit_4 (by decide) ?_
  refine lv_icmp_ge (tgt := 33) hx hb dX3_admit_6 (by decide) (fun c_1 => ?_) (fun c_1 => ?_)
  · have h := h.1 c_1
    exact x_vret C w h dX3_admit_33
  · have h := h.2 c_1
    refine lv_aload_n hx hb dX3_admit_9 rfl (lv_at hl 0 rfl) ?_
    refine x_getS C w (i := b0) (k := 1) (v := .ref (ad (b0 + 2))) k0 (by decide) rfl mf_Staircase_20 dX3_admit_10 ?_
    refine lv_aload_n hx hb dX3_admit_13 rfl (lv_at hl 0 rfl) ?_
    refine x_getS C w (i := b0) (k := 4) (v := .int (μ b0 4)) k0 (by decide) rfl mf_Staircase_38 dX3_admit_14 ?_
    have hi := h.1
    have h := h.2
    refine x_aldP C w (kS2 k0) hi dX3_admit_17 ?_
    have k_2 := kSP (kS2 k0) hi
    refine lv_iload_n hx hb dX3_admit_18 rfl (lv_at hl 1 rfl) ?_
    refine lv_iload_n hx hb dX3_admit_19 rfl (lv_at hl 2 rfl) ?_
    refine x_callv C w (x_runV (i := ((b0 + 2) + 2 + (μ b0 4).toNatClampNeg)) (As := [.int a1, .int a2]) (rest := []) C w k_2 (by decide) (ci := 2) rfl rfl rfl me_X2_enterHall ml_Staircase_48 (c_X2_enterHall l g ad μ _ ((b0 + 2) + 2 + (μ b0 4).toNatClampNeg) k_2 a1 a2 h) ⟨rfl, rfl⟩ ⟨Nat.le_of_ble_eq_true rfl, Nat.le_of_ble_eq_true rfl⟩ rfl hl.1 rfl (Nat.le_of_ble_eq_true rfl) dX3_admit_20 ⟨Nat.le_of_ble_eq_true rfl, Nat.le_of_ble_eq_true rfl⟩) (fun m_3 h H locs w => ?_)
    refine lv_aload_n hx hb dX3_admit_23 rfl (lv_at hl 0 rfl) ?_
    refine lv_dup hx hb dX3_admit_24 rfl ?_
    refine x_getS C w (i := b0) (k := 4) (v := .int (m_3 b0 4)) k0 (by decide) rfl mf_Staircase_38 dX3_admit_25 ?_
    refine lv_iconst (v := 1) hx hb dX3_admit_28 (by decide) ?_
    refine lv_iadd hx hb dX3_admit_29 ?_
    refine x_putS C w (i := b0) (k := 4) k0 (by decide) rfl mf_Staircase_38 rfl rfl dX3_admit_30 (fun m_4 e_5 H locs w => ?_)
    have h := h m_4 e_5
    exact x_vret C w h dX3_admit_33
abbrev rm_X3_isLanding : Room := { frames := 0, cells := 0, slots := 0, locals := 0 }
noncomputable def wp_X3_isLanding (b0 : Nat) (a1 : Int32) (μ : Mem) (K : Int32 → Mem → Prop) : Prop :=
    ((¬ (((μ b0 3) >>> (a1 &&& 31)) &&& 1) = 1 → K 0 μ) ∧ ((((μ b0 3) >>> (a1 &&& 31)) &&& 1) = 1 → K 1 μ))
set_option maxHeartbeats 4000000 in
set_option maxRecDepth 100000 in
theorem c_X3_isLanding (l : Launch) (g : Gv) (ad : Nat → Nat) (μ : Mem) (sz : Nat) (b0 : Nat) (k0 : kd b0 = 9) (a1 : Int32) {K : Int32 → Mem → Prop} (h : wp_X3_isLanding b0 a1 μ K) : Met l yX3_isLanding (wX yX3_isLanding cX3_isLanding 2 (some .boolean)) rm_X3_isLanding (Pre g ad μ sz [.ref (ad b0), .int a1]) (PostI g ad sz K) 0 0 (Aw ad sz) := by
  refine Met.ofW (cc := cX3_isLanding) (maxL := 2) (ret := (some .boolean)) (by decide) rfl ?_
  intro p e s m args below meth c s₁ B hml hv
  obtain ⟨rfl, rfl, C, w⟩ := x_start B hml hv
  obtain ⟨hx, hb, hml, -, hts, hown, -, -, hN⟩ := id C
  have hl := lv_entry ([.ref (ad b0), .int a1]) (n := 2) (Nat.le_of_ble_eq_true rfl)
  rw [lg_entry_eq]
  generalize (lg_sl ([.ref (ad b0), .int a1]) ++ List.replicate (2 - (lg_sl ([.ref (ad b0), .int a1])).length) Slot.unset).toArray = ls at hl ⊢
  have hl : lv_has ls 2 [(0, .ref (ad b0)), (1, .int a1)] := hl
  show W p l e rm_X3_isLanding s m _ below meth c s.heap [] 0 0 _ _
  unfold wp_X3_isLanding at h
  refine lv_aload_n hx hb dX3_isLanding_0 rfl (lv_at hl 0 rfl) ?_
  refine x_getS C w (i := b0) (k := 3) (v := .int (μ b0 3)) k0 (by decide) rfl mf_Staircase_27 dX3_isLanding_1 ?_
  refine lv_iload_n hx hb dX3_isLanding_4 rfl (lv_at hl 1 rfl) ?_
  refine lv_ishr hx hb dX3_isLanding_5 ?_
  refine lv_iconst (v := 1) hx hb dX3_isLanding_6 (by decide) ?_
  refine lv_iand hx hb dX3_isLanding_7 ?_
  refine lv_iconst (v := 1) hx hb dX3_isLanding_8 (by decide) ?_
  refine lv_icmp_ne (tgt := 16) hx hb dX3_isLanding_9 (by decide) (fun c_1 => ?_) (fun c_1 => ?_)
  · have h := h.1 c_1
    refine lv_iconst (v := 0) hx hb dX3_isLanding_16 (by decide) ?_
    exact x_zret C w (show bz 0 from Or.inl rfl) h dX3_isLanding_17
  · have h := h.2 c_1
    refine lv_iconst (v := 1) hx hb dX3_isLanding_12 (by decide) ?_
    refine lv_goto (tgt := 17) hx hb dX3_isLanding_13 (by decide) ?_
    exact x_zret C w (show bz 1 from Or.inr rfl) h dX3_isLanding_17
abbrev rm_X3_crowdOn : Room := { frames := 1, cells := 0, slots := 0, locals := 20 }
noncomputable def wp_X3_crowdOn (b0 : Nat) (a1 : Int32) (μ : Mem) (K : Int32 → Mem → Prop) : Prop :=
    (wp_X4_isStep a1 μ (fun r_2 m_1 => ((r_2 = 0 → K 0 m_1) ∧ (¬ r_2 = 0 → (vp_in a1 12 ∧ K (m_1 (b0 + 3) a1.toNatClampNeg) m_1)))))
set_option maxHeartbeats 4000000 in
set_option maxRecDepth 100000 in
theorem c_X3_crowdOn (l : Launch) (g : Gv) (ad : Nat → Nat) (μ : Mem) (sz : Nat) (b0 : Nat) (k0 : kd b0 = 9) (a1 : Int32) {K : Int32 → Mem → Prop} (h : wp_X3_crowdOn b0 a1 μ K) : Met l yX3_crowdOn (wX yX3_crowdOn cX3_crowdOn 2 (some .int)) rm_X3_crowdOn (Pre g ad μ sz [.ref (ad b0), .int a1]) (PostI g ad sz K) 0 0 (Aw ad sz) := by
  refine Met.ofW (cc := cX3_crowdOn) (maxL := 2) (ret := (some .int)) (by decide) rfl ?_
  intro p e s m args below meth c s₁ B hml hv
  obtain ⟨rfl, rfl, C, w⟩ := x_start B hml hv
  obtain ⟨hx, hb, hml, -, hts, hown, -, -, hN⟩ := id C
  have hl := lv_entry ([.ref (ad b0), .int a1]) (n := 2) (Nat.le_of_ble_eq_true rfl)
  rw [lg_entry_eq]
  generalize (lg_sl ([.ref (ad b0), .int a1]) ++ List.replicate (2 - (lg_sl ([.ref (ad b0), .int a1])).length) Slot.unset).toArray = ls at hl ⊢
  have hl : lv_has ls 2 [(0, .ref (ad b0)), (1, .int a1)] := hl
  show W p l e rm_X3_crowdOn s m _ below meth c s.heap [] 0 0 _ _
  unfold wp_X3_crowdOn at h
  refine lv_iload_n hx hb dX3_crowdOn_0 rfl (lv_at hl 1 rfl) ?_
  refine x_calli C w (x_runSN (host := "StairBows") (As := [.int a1]) (rest := []) C w me_X4_isStep hN (c_X4_isStep l g ad μ _ a1 h) ⟨rfl, rfl⟩ ⟨Nat.le_of_ble_eq_true rfl, Nat.le_of_ble_eq_true rfl⟩ rfl hl.1 rfl (Nat.le_of_ble_eq_true rfl) dX3_crowdOn_1 ⟨Nat.le_of_ble_eq_true rfl, Nat.le_of_ble_eq_true rfl⟩) (fun r_2 m_1 h H locs w => ?_)
  refine lv_if_eq (tgt := 16) hx hb dX3_crowdOn_4 (by decide) (fun c_3 => ?_) (fun c_3 => ?_)
  · have h := h.1 c_3
    refine lv_iconst (v := 0) hx hb dX3_crowdOn_16 (by decide) ?_
    exact x_iret C w h dX3_crowdOn_17
  · have h := h.2 c_3
    refine lv_aload_n hx hb dX3_crowdOn_7 rfl (lv_at hl 0 rfl) ?_
    refine x_getS C w (i := b0) (k := 2) (v := .ref (ad (b0 + 3))) k0 (by decide) rfl mf_Staircase_24 dX3_crowdOn_8 ?_
    refine lv_iload_n hx hb dX3_crowdOn_11 rfl (lv_at hl 1 rfl) ?_
    refine x_iald C w (i := (b0 + 3)) (K := 12) (j := a1) (n := 12) (jn := a1.toNatClampNeg) rfl (kS3 k0) (by decide) rfl (show vp_in a1 12 from h.1) dX3_crowdOn_12 ?_
    have h := h.2
    refine lv_goto (tgt := 17) hx hb dX3_crowdOn_13 (by decide) ?_
    exact x_iret C w h dX3_crowdOn_17
abbrev rm_X3_roomOn : Room := { frames := 2, cells := 0, slots := 0, locals := 41 }
noncomputable def wp_X3_roomOn (b0 : Nat) (a1 : Int32) (μ : Mem) (K : Int32 → Mem → Prop) : Prop :=
    (wp_X3_isLanding b0 a1 μ (fun r_2 m_1 => ((r_2 = 0 → (wp_X3_crowdOn b0 a1 m_1 (fun r_5 m_4 => K (1 - r_5) m_4))) ∧ (¬ r_2 = 0 → (wp_X3_crowdOn b0 a1 m_1 (fun r_7 m_6 => K ((m_1 (b0 + 1) 0) - r_7) m_6))))))
set_option maxHeartbeats 4000000 in
set_option maxRecDepth 100000 in
theorem c_X3_roomOn (l : Launch) (g : Gv) (ad : Nat → Nat) (μ : Mem) (sz : Nat) (b0 : Nat) (k0 : kd b0 = 9) (a1 : Int32) {K : Int32 → Mem → Prop} (h : wp_X3_roomOn b0 a1 μ K) : Met l yX3_roomOn (wX yX3_roomOn cX3_roomOn 2 (some .int)) rm_X3_roomOn (Pre g ad μ sz [.ref (ad b0), .int a1]) (PostI g ad sz K) 0 0 (Aw ad sz) := by
  refine Met.ofW (cc := cX3_roomOn) (maxL := 2) (ret := (some .int)) (by decide) rfl ?_
  intro p e s m args below meth c s₁ B hml hv
  obtain ⟨rfl, rfl, C, w⟩ := x_start B hml hv
  obtain ⟨hx, hb, hml, -, hts, hown, -, -, hN⟩ := id C
  have hl := lv_entry ([.ref (ad b0), .int a1]) (n := 2) (Nat.le_of_ble_eq_true rfl)
  rw [lg_entry_eq]
  generalize (lg_sl ([.ref (ad b0), .int a1]) ++ List.replicate (2 - (lg_sl ([.ref (ad b0), .int a1])).length) Slot.unset).toArray = ls at hl ⊢
  have hl : lv_has ls 2 [(0, .ref (ad b0)), (1, .int a1)] := hl
  show W p l e rm_X3_roomOn s m _ below meth c s.heap [] 0 0 _ _
  unfold wp_X3_roomOn at h
  refine lv_aload_n hx hb dX3_roomOn_0 rfl (lv_at hl 0 rfl) ?_
  refine lv_iload_n hx hb dX3_roomOn_1 rfl (lv_at hl 1 rfl) ?_
  refine x_calli C w (x_runV (i := b0) (As := [.int a1]) (rest := []) C w k0 (by decide) (ci := 3) rfl rfl rfl me_X3_isLanding ml_Staircase_56 (c_X3_isLanding l g ad μ _ b0 k0 a1 h) ⟨rfl, rfl⟩ ⟨Nat.le_of_ble_eq_true rfl, Nat.le_of_ble_eq_true rfl⟩ rfl hl.1 rfl (Nat.le_of_ble_eq_true rfl) dX3_roomOn_2 ⟨Nat.le_of_ble_eq_true rfl, Nat.le_of_ble_eq_true rfl⟩) (fun r_2 m_1 h H locs w => ?_)
  refine lv_if_eq (tgt := 17) hx hb dX3_roomOn_5 (by decide) (fun c_3 => ?_) (fun c_3 => ?_)
  · have h := h.1 c_3
    refine lv_iconst (v := 1) hx hb dX3_roomOn_17 (by decide) ?_
    refine lv_aload_n hx hb dX3_roomOn_18 rfl (lv_at hl 0 rfl) ?_
    refine lv_iload_n hx hb dX3_roomOn_19 rfl (lv_at hl 1 rfl) ?_
    refine x_calli C w (x_runV (i := b0) (As := [.int a1]) (rest := [.int 1]) C w k0 (by decide) (ci := 3) rfl rfl rfl me_X3_crowdOn ml_Staircase_59 (c_X3_crowdOn l g ad m_1 _ b0 k0 a1 h) ⟨rfl, rfl⟩ ⟨Nat.le_of_ble_eq_true rfl, Nat.le_of_ble_eq_true rfl⟩ rfl hl.1 rfl (Nat.le_of_ble_eq_true rfl) dX3_roomOn_20 ⟨Nat.le_of_ble_eq_true rfl, Nat.le_of_ble_eq_true rfl⟩) (fun r_5 m_4 h H locs w => ?_)
    refine lv_isub hx hb dX3_roomOn_23 ?_
    exact x_iret C w h dX3_roomOn_24
  · have h := h.2 c_3
    refine lv_aload_n hx hb dX3_roomOn_8 rfl (lv_at hl 0 rfl) ?_
    refine x_getS C w (i := b0) (k := 0) (v := .ref (ad (b0 + 1))) k0 (by decide) rfl mf_Staircase_13 dX3_roomOn_9 ?_
    refine lv_iconst (v := 0) hx hb dX3_roomOn_12 (by decide) ?_
    refine x_iald C w (i := (b0 + 1)) (K := 10) (j := 0) (n := 3) (jn := 0) rfl (kS1 k0) (by decide) rfl (show vp_in 0 3 from vp_lit (by decide) (by decide)) dX3_roomOn_13 ?_
    refine lv_goto (tgt := 18) hx hb dX3_roomOn_14 (by decide) ?_
    refine lv_aload_n hx hb dX3_roomOn_18 rfl (lv_at hl 0 rfl) ?_
    refine lv_iload_n hx hb dX3_roomOn_19 rfl (lv_at hl 1 rfl) ?_
    refine x_calli C w (x_runV (i := b0) (As := [.int a1]) (rest := [.int (m_1 (b0 + 1) 0)]) C w k0 (by decide) (ci := 3) rfl rfl rfl me_X3_crowdOn ml_Staircase_59 (c_X3_crowdOn l g ad m_1 _ b0 k0 a1 h) ⟨rfl, rfl⟩ ⟨Nat.le_of_ble_eq_true rfl, Nat.le_of_ble_eq_true rfl⟩ rfl hl.1 rfl (Nat.le_of_ble_eq_true rfl) dX3_roomOn_20 ⟨Nat.le_of_ble_eq_true rfl, Nat.le_of_ble_eq_true rfl⟩) (fun r_7 m_6 h H locs w => ?_)
    refine lv_isub hx hb dX3_roomOn_23 ?_
    exact x_iret C w h dX3_roomOn_24
abbrev rm_X3_greatestCrowd : Room := { frames := 1, cells := 0, slots := 0, locals := 30 }
noncomputable def wp_X3_greatestCrowd_L4 (v0 : Nat) (K : Int32 → Mem → Prop) (n : Nat) : Int32 → Int32 → Mem → Prop :=
  Nat.rec (motive := fun _ => Int32 → Int32 → Mem → Prop) (fun _ _ _ => False) (fun _ ih v1 v2 μ =>
    ((12 ≤ v2 → K v1 μ) ∧ (¬ 12 ≤ v2 → (vp_in v2 12 ∧ ih (if v1 < (μ (v0 + 3) v2.toNatClampNeg) then (μ (v0 + 3) v2.toNatClampNeg) else v1) (v2 + 1) μ)))) n
theorem wp_X3_greatestCrowd_L4_s (v0 : Nat) (K : Int32 → Mem → Prop) (n : Nat) (v1 : Int32) (v2 : Int32) (μ : Mem) : wp_X3_greatestCrowd_L4 v0 K (n + 1) v1 v2 μ = (
    let ih := wp_X3_greatestCrowd_L4 v0 K n
    ((12 ≤ v2 → K v1 μ) ∧ (¬ 12 ≤ v2 → (vp_in v2 12 ∧ ih (if v1 < (μ (v0 + 3) v2.toNatClampNeg) then (μ (v0 + 3) v2.toNatClampNeg) else v1) (v2 + 1) μ)))) := rfl
noncomputable def wp_X3_greatestCrowd (b0 : Nat) (μ : Mem) (K : Int32 → Mem → Prop) : Prop :=
    (∃ n, wp_X3_greatestCrowd_L4 b0 K n 0 0 μ)
set_option maxHeartbeats 4000000 in
set_option maxRecDepth 100000 in
theorem t_X3_greatestCrowd_L4 {g : Gv} {ad : Nat → Nat} {l : Launch} {p : Program} {e : Env} {s : State} {m : MethodId} {args : Array Value} {below : List Frame} {meth : Method} {c : Code} (C : Cx g p s m args meth c "StairBows$Staircase" cX3_greatestCrowd 3 (some .int)) {v0 : Nat}  {K : Int32 → Mem → Prop}  (kv0 : kd v0 = 9)  : ∀ (n : Nat) (v1 : Int32) (v2 : Int32) (μ : Mem) (H : Heap) (locs : List Loc) (ls : Array Slot), wp_X3_greatestCrowd_L4 v0 K n v1 v2 μ → Wd g ad μ (Aw ad s.heap.size) s H locs → lv_has ls 3 [(0, .ref (ad v0)), (1, .int v1), (2, .int v2)] → W p l e rm_X3_greatestCrowd s m args below meth c H locs 0 0 (MQ below (PostI g ad s.heap.size K) args s 0 0 (Aw ad s.heap.size)) (F0 m 4 ls []) := by
  obtain ⟨hx, hb, hml, -, hts, hown, -, -, hN⟩ := id C
  intro n
  induction n with
  | zero =>
    intro v1 v2 μ H locs ls h w hl
    exact (show False from h).elim
  | succ n ih =>
    intro v1 v2 μ H locs ls h w hl
    rw [wp_X3_greatestCrowd_L4_s] at h
    dsimp only at h
    refine lv_iload_n hx hb dX3_greatestCrowd_4 rfl (lv_at hl 2 rfl) ?_
    refine lv_bipush (v := 12) hx hb dX3_greatestCrowd_5 (by decide) ?_
    refine lv_icmp_ge (tgt := 27) hx hb dX3_greatestCrowd_7 (by decide) (fun c_1 => ?_) (fun c_1 => ?_)
    · have h := h.1 c_1
      refine lv_iload_n hx hb dX3_greatestCrowd_27 rfl (lv_at hl 1 rfl) ?_
      exact x_iret C w h dX3_greatestCrowd_28
    · have h := h.2 c_1
      refine lv_iload_n hx hb dX3_greatestCrowd_10 rfl (lv_at hl 1 rfl) ?_
      refine lv_aload_n hx hb dX3_greatestCrowd_11 rfl (lv_at hl 0 rfl) ?_
      refine x_getS C w (i := v0) (k := 2) (v := .ref (ad (v0 + 3))) kv0 (by decide) rfl mf_Staircase_24 dX3_greatestCrowd_12 ?_
      refine lv_iload_n hx hb dX3_greatestCrowd_15 rfl (lv_at hl 2 rfl) ?_
      refine x_iald C w (i := (v0 + 3)) (K := 12) (j := v2) (n := 12) (jn := v2.toNatClampNeg) rfl (kS3 kv0) (by decide) rfl (show vp_in v2 12 from h.1) dX3_greatestCrowd_16 ?_
      have h := h.2
      refine va_mmax hx hb (hml.trans hl.1.symm) hown (hts _ ml_Staircase_63) (hts _ mx_static) (hts _ mx_init) (hts _ mx_code) (Nat.le_of_ble_eq_true rfl) (Nat.le_of_ble_eq_true rfl) (Nat.le_of_ble_eq_true rfl) (Nat.le_of_ble_eq_true rfl) dX3_greatestCrowd_17 ?_
      refine lv_istore_n (lv' := [(1, .int (if v1 < (μ (v0 + 3) v2.toNatClampNeg) then (μ (v0 + 3) v2.toNatClampNeg) else v1)), (0, .ref (ad v0)), (2, .int v2)]) hx hb dX3_greatestCrowd_20 rfl hl (by decide) rfl (fun ls hl => ?_)
      refine lv_iinc (v := (v2 + 1)) (lv' := [(2, .int (v2 + 1)), (1, .int (if v1 < (μ (v0 + 3) v2.toNatClampNeg) then (μ (v0 + 3) v2.toNatClampNeg) else v1)), (0, .ref (ad v0))]) hx hb dX3_greatestCrowd_21 hl (k := 2) rfl rfl (by decide) rfl (fun ls hl => ?_)
      refine lv_goto (tgt := 4) hx hb dX3_greatestCrowd_24 (by decide) ?_
      exact ih (if v1 < (μ (v0 + 3) v2.toNatClampNeg) then (μ (v0 + 3) v2.toNatClampNeg) else v1) (v2 + 1) μ _ _ _ h w (lv_sub hl [2, 1, 0] rfl)
set_option maxHeartbeats 4000000 in
set_option maxRecDepth 100000 in
theorem c_X3_greatestCrowd (l : Launch) (g : Gv) (ad : Nat → Nat) (μ : Mem) (sz : Nat) (b0 : Nat) (k0 : kd b0 = 9) {K : Int32 → Mem → Prop} (h : wp_X3_greatestCrowd b0 μ K) : Met l yX3_greatestCrowd (wX yX3_greatestCrowd cX3_greatestCrowd 3 (some .int)) rm_X3_greatestCrowd (Pre g ad μ sz [.ref (ad b0)]) (PostI g ad sz K) 0 0 (Aw ad sz) := by
  refine Met.ofW (cc := cX3_greatestCrowd) (maxL := 3) (ret := (some .int)) (by decide) rfl ?_
  intro p e s m args below meth c s₁ B hml hv
  obtain ⟨rfl, rfl, C, w⟩ := x_start B hml hv
  obtain ⟨hx, hb, hml, -, hts, hown, -, -, hN⟩ := id C
  have hl := lv_entry ([.ref (ad b0)]) (n := 3) (Nat.le_of_ble_eq_true rfl)
  rw [lg_entry_eq]
  generalize (lg_sl ([.ref (ad b0)]) ++ List.replicate (3 - (lg_sl ([.ref (ad b0)])).length) Slot.unset).toArray = ls at hl ⊢
  have hl : lv_has ls 3 [(0, .ref (ad b0))] := hl
  show W p l e rm_X3_greatestCrowd s m _ below meth c s.heap [] 0 0 _ _
  unfold wp_X3_greatestCrowd at h
  refine lv_iconst (v := 0) hx hb dX3_greatestCrowd_0 (by decide) ?_
  refine lv_istore_n (lv' := [(1, .int 0), (0, .ref (ad b0))]) hx hb dX3_greatestCrowd_1 rfl hl (by decide) rfl (fun ls hl => ?_)
  refine lv_iconst (v := 0) hx hb dX3_greatestCrowd_2 (by decide) ?_
  refine lv_istore_n (lv' := [(2, .int 0), (1, .int 0), (0, .ref (ad b0))]) hx hb dX3_greatestCrowd_3 rfl hl (by decide) rfl (fun ls hl => ?_)
  obtain ⟨n_2, h⟩ := h
  exact t_X3_greatestCrowd_L4 C k0 n_2 0 0 μ _ _ _ h w (lv_sub hl [2, 1, 0] rfl)
abbrev rm_X3_highestOn : Room := { frames := 1, cells := 0, slots := 0, locals := 21 }
noncomputable def wp_X3_highestOn_L8 (v0 : Nat) (v1 : Int32) (K : Int32 → Mem → Prop) (n : Nat) : Int32 → Int32 → Int32 → Mem → Prop :=
  Nat.rec (motive := fun _ => Int32 → Int32 → Int32 → Mem → Prop) (fun _ _ _ _ => False) (fun _ ih v2 v3 v4 μ =>
    (((μ v0 4) ≤ v4 → K v2 μ) ∧ (¬ (μ v0 4) ≤ v4 → (vp_in v4 24 ∧ (wp_X2_standsOn ((v0 + 2) + 2 + v4.toNatClampNeg) v1 μ (fun r_4 m_3 => ((r_4 = 0 → ih v2 v3 (v4 + 1) m_3) ∧ (¬ r_4 = 0 → (vp_in v4 24 ∧ (((m_3 ((v0 + 2) + 2 + v4.toNatClampNeg) 0) ≤ v3 → ih v2 v3 (v4 + 1) m_3) ∧ (¬ (m_3 ((v0 + 2) + 2 + v4.toNatClampNeg) 0) ≤ v3 → (vp_in v4 24 ∧ ih v4 (m_3 ((v0 + 2) + 2 + v4.toNatClampNeg) 0) (v4 + 1) m_3)))))))))))) n
theorem wp_X3_highestOn_L8_s (v0 : Nat) (v1 : Int32) (K : Int32 → Mem → Prop) (n : Nat) (v2 : Int32) (v3 : Int32) (v4 : Int32) (μ : Mem) : wp_X3_highestOn_L8 v0 v1 K (n + 1) v2 v3 v4 μ = (
    let ih := wp_X3_highestOn_L8 v0 v1 K n
    (((μ v0 4) ≤ v4 → K v2 μ) ∧ (¬ (μ v0 4) ≤ v4 → (vp_in v4 24 ∧ (wp_X2_standsOn ((v0 + 2) + 2 + v4.toNatClampNeg) v1 μ (fun r_4 m_3 => ((r_4 = 0 → ih v2 v3 (v4 + 1) m_3) ∧ (¬ r_4 = 0 → (vp_in v4 24 ∧ (((m_3 ((v0 + 2) + 2 + v4.toNatClampNeg) 0) ≤ v3 → ih v2 v3 (v4 + 1) m_3) ∧ (¬ (m_3 ((v0 + 2) + 2 + v4.toNatClampNeg) 0) ≤ v3 → (vp_in v4 24 ∧ ih v4 (m_3 ((v0 + 2) + 2 + v4.toNatClampNeg) 0) (v4 + 1) m_3)))))))))))) := rfl
noncomputable def wp_X3_highestOn (b0 : Nat) (a1 : Int32) (μ : Mem) (K : Int32 → Mem → Prop) : Prop :=
    (∃ n, wp_X3_highestOn_L8 b0 a1 K n (-6) 0 0 μ)
set_option maxHeartbeats 4000000 in
set_option maxRecDepth 100000 in
theorem t_X3_highestOn_L8 {g : Gv} {ad : Nat → Nat} {l : Launch} {p : Program} {e : Env} {s : State} {m : MethodId} {args : Array Value} {below : List Frame} {meth : Method} {c : Code} (C : Cx g p s m args meth c "StairBows$Staircase" cX3_highestOn 5 (some .int)) {v0 : Nat} {v1 : Int32}  {K : Int32 → Mem → Prop}  (kv0 : kd v0 = 9)  : ∀ (n : Nat) (v2 : Int32) (v3 : Int32) (v4 : Int32) (μ : Mem) (H : Heap) (locs : List Loc) (ls : Array Slot), wp_X3_highestOn_L8 v0 v1 K n v2 v3 v4 μ → Wd g ad μ (Aw ad s.heap.size) s H locs → lv_has ls 5 [(0, .ref (ad v0)), (1, .int v1), (2, .int v2), (3, .int v3), (4, .int v4)] → W p l e rm_X3_highestOn s m args below meth c H locs 0 0 (MQ below (PostI g ad s.heap.size K) args s 0 0 (Aw ad s.heap.size)) (F0 m 8 ls []) := by
  obtain ⟨hx, hb, hml, -, hts, hown, -, -, hN⟩ := id C
  intro n
  induction n with
  | zero =>
    intro v2 v3 v4 μ H locs ls h w hl
    exact (show False from h).elim
  | succ n ih =>
    intro v2 v3 v4 μ H locs ls h w hl
    rw [wp_X3_highestOn_L8_s] at h
    dsimp only at h
    refine lv_iload hx hb dX3_highestOn_8 (lv_at hl 4 rfl) ?_
    refine lv_aload_n hx hb dX3_highestOn_10 rfl (lv_at hl 0 rfl) ?_
    refine x_getS C w (i := v0) (k := 4) (v := .int (μ v0 4)) kv0 (by decide) rfl mf_Staircase_38 dX3_highestOn_11 ?_
    refine lv_icmp_ge (tgt := 65) hx hb dX3_highestOn_14 (by decide) (fun c_1 => ?_) (fun c_1 => ?_)
    · have h := h.1 c_1
      refine lv_iload_n hx hb dX3_highestOn_65 rfl (lv_at hl 2 rfl) ?_
      exact x_iret C w h dX3_highestOn_66
    · have h := h.2 c_1
      refine lv_aload_n hx hb dX3_highestOn_17 rfl (lv_at hl 0 rfl) ?_
      refine x_getS C w (i := v0) (k := 1) (v := .ref (ad (v0 + 2))) kv0 (by decide) rfl mf_Staircase_20 dX3_highestOn_18 ?_
      refine lv_iload hx hb dX3_highestOn_21 (lv_at hl 4 rfl) ?_
      have hi := h.1
      have h := h.2
      refine x_aldP C w (kS2 kv0) hi dX3_highestOn_23 ?_
      have k_2 := kSP (kS2 kv0) hi
      refine lv_iload_n hx hb dX3_highestOn_24 rfl (lv_at hl 1 rfl) ?_
      refine x_calli C w (x_runV (i := ((v0 + 2) + 2 + v4.toNatClampNeg)) (As := [.int v1]) (rest := []) C w k_2 (by decide) (ci := 2) rfl rfl rfl me_X2_standsOn ml_Staircase_69 (c_X2_standsOn l g ad μ _ ((v0 + 2) + 2 + v4.toNatClampNeg) k_2 v1 h) ⟨rfl, rfl⟩ ⟨Nat.le_of_ble_eq_true rfl, Nat.le_of_ble_eq_true rfl⟩ rfl hl.1 rfl (Nat.le_of_ble_eq_true rfl) dX3_highestOn_25 ⟨Nat.le_of_ble_eq_true rfl, Nat.le_of_ble_eq_true rfl⟩) (fun r_4 m_3 h H locs w => ?_)
      refine lv_if_eq (tgt := 59) hx hb dX3_highestOn_28 (by decide) (fun c_5 => ?_) (fun c_5 => ?_)
      · have h := h.1 c_5
        refine lv_iinc (v := (v4 + 1)) (lv' := [(4, .int (v4 + 1)), (0, .ref (ad v0)), (1, .int v1), (2, .int v2), (3, .int v3)]) hx hb dX3_highestOn_59 hl (k := 4) rfl rfl (by decide) rfl (fun ls hl => ?_)
        refine lv_goto (tgt := 8) hx hb dX3_highestOn_62 (by decide) ?_
        exact ih v2 v3 (v4 + 1) m_3 _ _ _ h w (lv_sub hl [1, 2, 3, 4, 0] rfl)
      · have h := h.2 c_5
        refine lv_aload_n hx hb dX3_highestOn_31 rfl (lv_at hl 0 rfl) ?_
        refine x_getS C w (i := v0) (k := 1) (v := .ref (ad (v0 + 2))) kv0 (by decide) rfl mf_Staircase_20 dX3_highestOn_32 ?_
        refine lv_iload hx hb dX3_highestOn_35 (lv_at hl 4 rfl) ?_
        have hi := h.1
        have h := h.2
        refine x_aldP C w (kS2 kv0) hi dX3_highestOn_37 ?_
        have k_6 := kSP (kS2 kv0) hi
        refine x_getP C w (i := ((v0 + 2) + 2 + v4.toNatClampNeg)) (k := 0) k_6 (by decide) mf_Staircase_72 dX3_highestOn_38 ?_
        refine lv_iload_n hx hb dX3_highestOn_41 rfl (lv_at hl 3 rfl) ?_
        refine lv_icmp_le (tgt := 59) hx hb dX3_highestOn_42 (by decide) (fun c_7 => ?_) (fun c_7 => ?_)
        · have h := h.1 c_7
          refine lv_iinc (v := (v4 + 1)) (lv' := [(4, .int (v4 + 1)), (0, .ref (ad v0)), (1, .int v1), (2, .int v2), (3, .int v3)]) hx hb dX3_highestOn_59 hl (k := 4) rfl rfl (by decide) rfl (fun ls hl => ?_)
          refine lv_goto (tgt := 8) hx hb dX3_highestOn_62 (by decide) ?_
          exact ih v2 v3 (v4 + 1) m_3 _ _ _ h w (lv_sub hl [1, 2, 3, 4, 0] rfl)
        · have h := h.2 c_7
          refine lv_iload hx hb dX3_highestOn_45 (lv_at hl 4 rfl) ?_
          refine lv_istore_n (lv' := [(2, .int v4), (0, .ref (ad v0)), (1, .int v1), (3, .int v3), (4, .int v4)]) hx hb dX3_highestOn_47 rfl hl (by decide) rfl (fun ls hl => ?_)
          refine lv_aload_n hx hb dX3_highestOn_48 rfl (lv_at hl 1 rfl) ?_
          refine x_getS C w (i := v0) (k := 1) (v := .ref (ad (v0 + 2))) kv0 (by decide) rfl mf_Staircase_20 dX3_highestOn_49 ?_
          refine lv_iload hx hb dX3_highestOn_52 (lv_at hl 4 rfl) ?_
          have hi := h.1
          have h := h.2
          refine x_aldP C w (kS2 kv0) hi dX3_highestOn_54 ?_
          have k_8 := kSP (kS2 kv0) hi
          refine x_getP C w (i := ((v0 + 2) + 2 + v4.toNatClampNeg)) (k := 0) k_8 (by decide) mf_Staircase_72 dX3_highestOn_55 ?_
          refine lv_istore_n (lv' := [(3, .int (m_3 ((v0 + 2) + 2 + v4.toNatClampNeg) 0)), (2, .int v4), (0, .ref (ad v0)), (1, .int v1), (4, .int v4)]) hx hb dX3_highestOn_58 rfl hl (by decide) rfl (fun ls hl => ?_)
          refine lv_iinc (v := (v4 + 1)) (lv' := [(4, .int (v4 + 1)), (3, .int (m_3 ((v0 + 2) + 2 + v4.toNatClampNeg) 0)), (2, .int v4), (0, .ref (ad v0)), (1, .int v1)]) hx hb dX3_highestOn_59 hl (k := 4) rfl rfl (by decide) rfl (fun ls hl => ?_)
          refine lv_goto (tgt := 8) hx hb dX3_highestOn_62 (by decide) ?_
          exact ih v4 (m_3 ((v0 + 2) + 2 + v4.toNatClampNeg) 0) (v4 + 1) m_3 _ _ _ h w (lv_sub hl [3, 4, 2, 1, 0] rfl)
set_option maxHeartbeats 4000000 in
set_option maxRecDepth 100000 in
theorem c_X3_highestOn (l : Launch) (g : Gv) (ad : Nat → Nat) (μ : Mem) (sz : Nat) (b0 : Nat) (k0 : kd b0 = 9) (a1 : Int32) {K : Int32 → Mem → Prop} (h : wp_X3_highestOn b0 a1 μ K) : Met l yX3_highestOn (wX yX3_highestOn cX3_highestOn 5 (some .int)) rm_X3_highestOn (Pre g ad μ sz [.ref (ad b0), .int a1]) (PostI g ad sz K) 0 0 (Aw ad sz) := by
  refine Met.ofW (cc := cX3_highestOn) (maxL := 5) (ret := (some .int)) (by decide) rfl ?_
  intro p e s m args below meth c s₁ B hml hv
  obtain ⟨rfl, rfl, C, w⟩ := x_start B hml hv
  obtain ⟨hx, hb, hml, -, hts, hown, -, -, hN⟩ := id C
  have hl := lv_entry ([.ref (ad b0), .int a1]) (n := 5) (Nat.le_of_ble_eq_true rfl)
  rw [lg_entry_eq]
  generalize (lg_sl ([.ref (ad b0), .int a1]) ++ List.replicate (5 - (lg_sl ([.ref (ad b0), .int a1])).length) Slot.unset).toArray = ls at hl ⊢
  have hl : lv_has ls 5 [(0, .ref (ad b0)), (1, .int a1)] := hl
  show W p l e rm_X3_highestOn s m _ below meth c s.heap [] 0 0 _ _
  unfold wp_X3_highestOn at h
  refine lv_bipush (v := -6) hx hb dX3_highestOn_0 (by decide) ?_
  refine lv_istore_n (lv' := [(2, .int (-6)), (0, .ref (ad b0)), (1, .int a1)]) hx hb dX3_highestOn_2 rfl hl (by decide) rfl (fun ls hl => ?_)
  refine lv_iconst (v := 0) hx hb dX3_highestOn_3 (by decide) ?_
  refine lv_istore_n (lv' := [(3, .int 0), (2, .int (-6)), (0, .ref (ad b0)), (1, .int a1)]) hx hb dX3_highestOn_4 rfl hl (by decide) rfl (fun ls hl => ?_)
  refine lv_iconst (v := 0) hx hb dX3_highestOn_5 (by decide) ?_
  refine lv_istore (lv' := [(4, .int 0), (3, .int 0), (2, .int (-6)), (0, .ref (ad b0)), (1, .int a1)]) hx hb dX3_highestOn_6 hl (by decide) rfl (fun ls hl => ?_)
  obtain ⟨n_9, h⟩ := h
  exact t_X3_highestOn_L8 C k0 n_9 (-6) 0 0 μ _ _ _ h w (lv_sub hl [3, 4, 2, 1, 0] rfl)
abbrev rm_X3_peopleWho : Room := { frames := 0, cells := 0, slots := 0, locals := 0 }
noncomputable def wp_X3_peopleWho_L4 (v0 : Nat) (v1 : Int32) (K : Int32 → Mem → Prop) (n : Nat) : Int32 → Int32 → Mem → Prop :=
  Nat.rec (motive := fun _ => Int32 → Int32 → Mem → Prop) (fun _ _ _ => False) (fun _ ih v2 v3 μ =>
    (((μ v0 4) ≤ v3 → K v2 μ) ∧ (¬ (μ v0 4) ≤ v3 → (vp_in v3 24 ∧ ((¬ (μ ((v0 + 2) + 2 + v3.toNatClampNeg) 2) = v1 → ih v2 (v3 + 1) μ) ∧ ((μ ((v0 + 2) + 2 + v3.toNatClampNeg) 2) = v1 → ih (v2 + 1) (v3 + 1) μ)))))) n
theorem wp_X3_peopleWho_L4_s (v0 : Nat) (v1 : Int32) (K : Int32 → Mem → Prop) (n : Nat) (v2 : Int32) (v3 : Int32) (μ : Mem) : wp_X3_peopleWho_L4 v0 v1 K (n + 1) v2 v3 μ = (
    let ih := wp_X3_peopleWho_L4 v0 v1 K n
    (((μ v0 4) ≤ v3 → K v2 μ) ∧ (¬ (μ v0 4) ≤ v3 → (vp_in v3 24 ∧ ((¬ (μ ((v0 + 2) + 2 + v3.toNatClampNeg) 2) = v1 → ih v2 (v3 + 1) μ) ∧ ((μ ((v0 + 2) + 2 + v3.toNatClampNeg) 2) = v1 → ih (v2 + 1) (v3 + 1) μ)))))) := rfl
noncomputable def wp_X3_peopleWho (b0 : Nat) (a1 : Int32) (μ : Mem) (K : Int32 → Mem → Prop) : Prop :=
    (∃ n, wp_X3_peopleWho_L4 b0 a1 K n 0 0 μ)
set_option maxHeartbeats 4000000 in
set_option maxRecDepth 100000 in
theorem t_X3_peopleWho_L4 {g : Gv} {ad : Nat → Nat} {l : Launch} {p : Program} {e : Env} {s : State} {m : MethodId} {args : Array Value} {below : List Frame} {meth : Method} {c : Code} (C : Cx g p s m args meth c "StairBows$Staircase" cX3_peopleWho 4 (some .int)) {v0 : Nat} {v1 : Int32}  {K : Int32 → Mem → Prop}  (kv0 : kd v0 = 9)  : ∀ (n : Nat) (v2 : Int32) (v3 : Int32) (μ : Mem) (H : Heap) (locs : List Loc) (ls : Array Slot), wp_X3_peopleWho_L4 v0 v1 K n v2 v3 μ → Wd g ad μ (Aw ad s.heap.size) s H locs → lv_has ls 4 [(0, .ref (ad v0)), (1, .int v1), (2, .int v2), (3, .int v3)] → W p l e rm_X3_peopleWho s m args below meth c H locs 0 0 (MQ below (PostI g ad s.heap.size K) args s 0 0 (Aw ad s.heap.size)) (F0 m 4 ls []) := by
  obtain ⟨hx, hb, hml, -, hts, hown, -, -, hN⟩ := id C
  intro n
  induction n with
  | zero =>
    intro v2 v3 μ H locs ls h w hl
    exact (show False from h).elim
  | succ n ih =>
    intro v2 v3 μ H locs ls h w hl
    rw [wp_X3_peopleWho_L4_s] at h
    dsimp only at h
    refine lv_iload_n hx hb dX3_peopleWho_4 rfl (lv_at hl 3 rfl) ?_
    refine lv_aload_n hx hb dX3_peopleWho_5 rfl (lv_at hl 0 rfl) ?_
    refine x_getS C w (i := v0) (k := 4) (v := .int (μ v0 4)) kv0 (by decide) rfl mf_Staircase_38 dX3_peopleWho_6 ?_
    refine lv_icmp_ge (tgt := 34) hx hb dX3_peopleWho_9 (by decide) (fun c_1 => ?_) (fun c_1 => ?_)
    · have h := h.1 c_1
      refine lv_iload_n hx hb dX3_peopleWho_34 rfl (lv_at hl 2 rfl) ?_
      exact x_iret C w h dX3_peopleWho_35
    · have h := h.2 c_1
      refine lv_aload_n hx hb dX3_peopleWho_12 rfl (lv_at hl 0 rfl) ?_
      refine x_getS C w (i := v0) (k := 1) (v := .ref (ad (v0 + 2))) kv0 (by decide) rfl mf_Staircase_20 dX3_peopleWho_13 ?_
      refine lv_iload_n hx hb dX3_peopleWho_16 rfl (lv_at hl 3 rfl) ?_
      have hi := h.1
      have h := h.2
      refine x_aldP C w (kS2 kv0) hi dX3_peopleWho_17 ?_
      have k_2 := kSP (kS2 kv0) hi
      refine x_getP C w (i := ((v0 + 2) + 2 + v3.toNatClampNeg)) (k := 2) k_2 (by decide) mf_Staircase_75 dX3_peopleWho_18 ?_
      refine lv_iload_n hx hb dX3_peopleWho_21 rfl (lv_at hl 1 rfl) ?_
      refine lv_icmp_ne (tgt := 28) hx hb dX3_peopleWho_22 (by decide) (fun c_3 => ?_) (fun c_3 => ?_)
      · have h := h.1 c_3
        refine lv_iinc (v := (v3 + 1)) (lv' := [(3, .int (v3 + 1)), (0, .ref (ad v0)), (1, .int v1), (2, .int v2)]) hx hb dX3_peopleWho_28 hl (k := 3) rfl rfl (by decide) rfl (fun ls hl => ?_)
        refine lv_goto (tgt := 4) hx hb dX3_peopleWho_31 (by decide) ?_
        exact ih v2 (v3 + 1) μ _ _ _ h w (lv_sub hl [1, 2, 3, 0] rfl)
      · have h := h.2 c_3
        refine lv_iinc (v := (v2 + 1)) (lv' := [(2, .int (v2 + 1)), (0, .ref (ad v0)), (1, .int v1), (3, .int v3)]) hx hb dX3_peopleWho_25 hl (k := 2) rfl rfl (by decide) rfl (fun ls hl => ?_)
        refine lv_iinc (v := (v3 + 1)) (lv' := [(3, .int (v3 + 1)), (2, .int (v2 + 1)), (0, .ref (ad v0)), (1, .int v1)]) hx hb dX3_peopleWho_28 hl (k := 3) rfl rfl (by decide) rfl (fun ls hl => ?_)
        refine lv_goto (tgt := 4) hx hb dX3_peopleWho_31 (by decide) ?_
        exact ih (v2 + 1) (v3 + 1) μ _ _ _ h w (lv_sub hl [2, 3, 1, 0] rfl)
set_option maxHeartbeats 4000000 in
set_option maxRecDepth 100000 in
theorem c_X3_peopleWho (l : Launch) (g : Gv) (ad : Nat → Nat) (μ : Mem) (sz : Nat) (b0 : Nat) (k0 : kd b0 = 9) (a1 : Int32) {K : Int32 → Mem → Prop} (h : wp_X3_peopleWho b0 a1 μ K) : Met l yX3_peopleWho (wX yX3_peopleWho cX3_peopleWho 4 (some .int)) rm_X3_peopleWho (Pre g ad μ sz [.ref (ad b0), .int a1]) (PostI g ad sz K) 0 0 (Aw ad sz) := by
  refine Met.ofW (cc := cX3_peopleWho) (maxL := 4) (ret := (some .int)) (by decide) rfl ?_
  intro p e s m args below meth c s₁ B hml hv
  obtain ⟨rfl, rfl, C, w⟩ := x_start B hml hv
  obtain ⟨hx, hb, hml, -, hts, hown, -, -, hN⟩ := id C
  have hl := lv_entry ([.ref (ad b0), .int a1]) (n := 4) (Nat.le_of_ble_eq_true rfl)
  rw [lg_entry_eq]
  generalize (lg_sl ([.ref (ad b0), .int a1]) ++ List.replicate (4 - (lg_sl ([.ref (ad b0), .int a1])).length) Slot.unset).toArray = ls at hl ⊢
  have hl : lv_has ls 4 [(0, .ref (ad b0)), (1, .int a1)] := hl
  show W p l e rm_X3_peopleWho s m _ below meth c s.heap [] 0 0 _ _
  unfold wp_X3_peopleWho at h
  refine lv_iconst (v := 0) hx hb dX3_peopleWho_0 (by decide) ?_
  refine lv_istore_n (lv' := [(2, .int 0), (0, .ref (ad b0)), (1, .int a1)]) hx hb dX3_peopleWho_1 rfl hl (by decide) rfl (fun ls hl => ?_)
  refine lv_iconst (v := 0) hx hb dX3_peopleWho_2 (by decide) ?_
  refine lv_istore_n (lv' := [(3, .int 0), (2, .int 0), (0, .ref (ad b0)), (1, .int a1)]) hx hb dX3_peopleWho_3 rfl hl (by decide) rfl (fun ls hl => ?_)
  obtain ⟨n_4, h⟩ := h
  exact t_X3_peopleWho_L4 C k0 n_4 0 0 μ _ _ _ h w (lv_sub hl [2, 3, 1, 0] rfl)
abbrev rm_X3_sumOf : Room := { frames := 2, cells := 0, slots := 0, locals := 41 }
noncomputable def wp_X3_sumOf_L4 (v0 : Nat) (v1 : Int32) (K : Int32 → Mem → Prop) (n : Nat) : Int32 → Int32 → Mem → Prop :=
  Nat.rec (motive := fun _ => Int32 → Int32 → Mem → Prop) (fun _ _ _ => False) (fun _ ih v2 v3 μ =>
    (((μ v0 4) ≤ v3 → K v2 μ) ∧ (¬ (μ v0 4) ≤ v3 → (vp_in v3 24 ∧ (wp_X2_tell ((v0 + 2) + 2 + v3.toNatClampNeg) v1 μ (fun r_4 m_3 => ih (v2 + r_4) (v3 + 1) m_3)))))) n
theorem wp_X3_sumOf_L4_s (v0 : Nat) (v1 : Int32) (K : Int32 → Mem → Prop) (n : Nat) (v2 : Int32) (v3 : Int32) (μ : Mem) : wp_X3_sumOf_L4 v0 v1 K (n + 1) v2 v3 μ = (
    let ih := wp_X3_sumOf_L4 v0 v1 K n
    (((μ v0 4) ≤ v3 → K v2 μ) ∧ (¬ (μ v0 4) ≤ v3 → (vp_in v3 24 ∧ (wp_X2_tell ((v0 + 2) + 2 + v3.toNatClampNeg) v1 μ (fun r_4 m_3 => ih (v2 + r_4) (v3 + 1) m_3)))))) := rfl
noncomputable def wp_X3_sumOf (b0 : Nat) (a1 : Int32) (μ : Mem) (K : Int32 → Mem → Prop) : Prop :=
    (∃ n, wp_X3_sumOf_L4 b0 a1 K n 0 0 μ)
set_option maxHeartbeats 4000000 in
set_option maxRecDepth 100000 in
theorem t_X3_sumOf_L4 {g : Gv} {ad : Nat → Nat} {l : Launch} {p : Program} {e : Env} {s : State} {m : MethodId} {args : Array Value} {below : List Frame} {meth : Method} {c : Code} (C : Cx g p s m args meth c "StairBows$Staircase" cX3_sumOf 4 (some .int)) {v0 : Nat} {v1 : Int32}  {K : Int32 → Mem → Prop}  (kv0 : kd v0 = 9)  : ∀ (n : Nat) (v2 : Int32) (v3 : Int32) (μ : Mem) (H : Heap) (locs : List Loc) (ls : Array Slot), wp_X3_sumOf_L4 v0 v1 K n v2 v3 μ → Wd g ad μ (Aw ad s.heap.size) s H locs → lv_has ls 4 [(0, .ref (ad v0)), (1, .int v1), (2, .int v2), (3, .int v3)] → W p l e rm_X3_sumOf s m args below meth c H locs 0 0 (MQ below (PostI g ad s.heap.size K) args s 0 0 (Aw ad s.heap.size)) (F0 m 4 ls []) := by
  obtain ⟨hx, hb, hml, -, hts, hown, -, -, hN⟩ := id C
  intro n
  induction n with
  | zero =>
    intro v2 v3 μ H locs ls h w hl
    exact (show False from h).elim
  | succ n ih =>
    intro v2 v3 μ H locs ls h w hl
    rw [wp_X3_sumOf_L4_s] at h
    dsimp only at h
    refine lv_iload_n hx hb dX3_sumOf_4 rfl (lv_at hl 3 rfl) ?_
    refine lv_aload_n hx hb dX3_sumOf_5 rfl (lv_at hl 0 rfl) ?_
    refine x_getS C w (i := v0) (k := 4) (v := .int (μ v0 4)) kv0 (by decide) rfl mf_Staircase_38 dX3_sumOf_6 ?_
    refine lv_icmp_ge (tgt := 31) hx hb dX3_sumOf_9 (by decide) (fun c_1 => ?_) (fun c_1 => ?_)
    · have h := h.1 c_1
      refine lv_iload_n hx hb dX3_sumOf_31 rfl (lv_at hl 2 rfl) ?_
      exact x_iret C w h dX3_sumOf_32
    · have h := h.2 c_1
      refine lv_iload_n hx hb dX3_sumOf_12 rfl (lv_at hl 2 rfl) ?_
      refine lv_aload_n hx hb dX3_sumOf_13 rfl (lv_at hl 0 rfl) ?_
      refine x_getS C w (i := v0) (k := 1) (v := .ref (ad (v0 + 2))) kv0 (by decide) rfl mf_Staircase_20 dX3_sumOf_14 ?_
      refine lv_iload_n hx hb dX3_sumOf_17 rfl (lv_at hl 3 rfl) ?_
      have hi := h.1
      have h := h.2
      refine x_aldP C w (kS2 kv0) hi dX3_sumOf_18 ?_
      have k_2 := kSP (kS2 kv0) hi
      refine lv_iload_n hx hb dX3_sumOf_19 rfl (lv_at hl 1 rfl) ?_
      refine x_calli C w (x_runV (i := ((v0 + 2) + 2 + v3.toNatClampNeg)) (As := [.int v1]) (rest := [.int v2]) C w k_2 (by decide) (ci := 2) rfl rfl rfl me_X2_tell ml_Staircase_78 (c_X2_tell l g ad μ _ ((v0 + 2) + 2 + v3.toNatClampNeg) k_2 v1 h) ⟨rfl, rfl⟩ ⟨Nat.le_of_ble_eq_true rfl, Nat.le_of_ble_eq_true rfl⟩ rfl hl.1 rfl (Nat.le_of_ble_eq_true rfl) dX3_sumOf_20 ⟨Nat.le_of_ble_eq_true rfl, Nat.le_of_ble_eq_true rfl⟩) (fun r_4 m_3 h H locs w => ?_)
      refine lv_iadd hx hb dX3_sumOf_23 ?_
      refine lv_istore_n (lv' := [(2, .int (v2 + r_4)), (0, .ref (ad v0)), (1, .int v1), (3, .int v3)]) hx hb dX3_sumOf_24 rfl hl (by decide) rfl (fun ls hl => ?_)
      refine lv_iinc (v := (v3 + 1)) (lv' := [(3, .int (v3 + 1)), (2, .int (v2 + r_4)), (0, .ref (ad v0)), (1, .int v1)]) hx hb dX3_sumOf_25 hl (k := 3) rfl rfl (by decide) rfl (fun ls hl => ?_)
      refine lv_goto (tgt := 4) hx hb dX3_sumOf_28 (by decide) ?_
      exact ih (v2 + r_4) (v3 + 1) m_3 _ _ _ h w (lv_sub hl [2, 3, 1, 0] rfl)
set_option maxHeartbeats 4000000 in
set_option maxRecDepth 100000 in
theorem c_X3_sumOf (l : Launch) (g : Gv) (ad : Nat → Nat) (μ : Mem) (sz : Nat) (b0 : Nat) (k0 : kd b0 = 9) (a1 : Int32) {K : Int32 → Mem → Prop} (h : wp_X3_sumOf b0 a1 μ K) : Met l yX3_sumOf (wX yX3_sumOf cX3_sumOf 4 (some .int)) rm_X3_sumOf (Pre g ad μ sz [.ref (ad b0), .int a1]) (PostI g ad sz K) 0 0 (Aw ad sz) := by
  refine Met.ofW (cc := cX3_sumOf) (maxL := 4) (ret := (some .int)) (by decide) rfl ?_
  intro p e s m args below meth c s₁ B hml hv
  obtain ⟨rfl, rfl, C, w⟩ := x_start B hml hv
  obtain ⟨hx, hb, hml, -, hts, hown, -, -, hN⟩ := id C
  have hl := lv_entry ([.ref (ad b0), .int a1]) (n := 4) (Nat.le_of_ble_eq_true rfl)
  rw [lg_entry_eq]
  generalize (lg_sl ([.ref (ad b0), .int a1]) ++ List.replicate (4 - (lg_sl ([.ref (ad b0), .int a1])).length) Slot.unset).toArray = ls at hl ⊢
  have hl : lv_has ls 4 [(0, .ref (ad b0)), (1, .int a1)] := hl
  show W p l e rm_X3_sumOf s m _ below meth c s.heap [] 0 0 _ _
  unfold wp_X3_sumOf at h
  refine lv_iconst (v := 0) hx hb dX3_sumOf_0 (by decide) ?_
  refine lv_istore_n (lv' := [(2, .int 0), (0, .ref (ad b0)), (1, .int a1)]) hx hb dX3_sumOf_1 rfl hl (by decide) rfl (fun ls hl => ?_)
  refine lv_iconst (v := 0) hx hb dX3_sumOf_2 (by decide) ?_
  refine lv_istore_n (lv' := [(3, .int 0), (2, .int 0), (0, .ref (ad b0)), (1, .int a1)]) hx hb dX3_sumOf_3 rfl hl (by decide) rfl (fun ls hl => ?_)
  obtain ⟨n_5, h⟩ := h
  exact t_X3_sumOf_L4 C k0 n_5 0 0 μ _ _ _ h w (lv_sub hl [2, 3, 1, 0] rfl)
abbrev rm_X3_isAnybodyOnWay : Room := { frames := 1, cells := 0, slots := 0, locals := 20 }
noncomputable def wp_X3_isAnybodyOnWay_L2 (v0 : Nat) (K : Int32 → Mem → Prop) (n : Nat) : Int32 → Mem → Prop :=
  Nat.rec (motive := fun _ => Int32 → Mem → Prop) (fun _ _ => False) (fun _ ih v1 μ =>
    (((μ v0 4) ≤ v1 → K 0 μ) ∧ (¬ (μ v0 4) ≤ v1 → (vp_in v1 24 ∧ (wp_X2_isOnWay ((v0 + 2) + 2 + v1.toNatClampNeg) μ (fun r_4 m_3 => ((r_4 = 0 → ih (v1 + 1) m_3) ∧ (¬ r_4 = 0 → K 1 m_3)))))))) n
theorem wp_X3_isAnybodyOnWay_L2_s (v0 : Nat) (K : Int32 → Mem → Prop) (n : Nat) (v1 : Int32) (μ : Mem) : wp_X3_isAnybodyOnWay_L2 v0 K (n + 1) v1 μ = (
    let ih := wp_X3_isAnybodyOnWay_L2 v0 K n
    (((μ v0 4) ≤ v1 → K 0 μ) ∧ (¬ (μ v0 4) ≤ v1 → (vp_in v1 24 ∧ (wp_X2_isOnWay ((v0 + 2) + 2 + v1.toNatClampNeg) μ (fun r_4 m_3 => ((r_4 = 0 → ih (v1 + 1) m_3) ∧ (¬ r_4 = 0 → K 1 m_3)))))))) := rfl
noncomputable def wp_X3_isAnybodyOnWay (b0 : Nat) (μ : Mem) (K : Int32 → Mem → Prop) : Prop :=
    (∃ n, wp_X3_isAnybodyOnWay_L2 b0 K n 0 μ)
set_option maxHeartbeats 4000000 in
set_option maxRecDepth 100000 in
theorem t_X3_isAnybodyOnWay_L2 {g : Gv} {ad : Nat → Nat} {l : Launch} {p : Program} {e : Env} {s : State} {m : MethodId} {args : Array Value} {below : List Frame} {meth : Method} {c : Code} (C : Cx g p s m args meth c "StairBows$Staircase" cX3_isAnybodyOnWay 2 (some .boolean)) {v0 : Nat}  {K : Int32 → Mem → Prop}  (kv0 : kd v0 = 9)  : ∀ (n : Nat) (v1 : Int32) (μ : Mem) (H : Heap) (locs : List Loc) (ls : Array Slot), wp_X3_isAnybodyOnWay_L2 v0 K n v1 μ → Wd g ad μ (Aw ad s.heap.size) s H locs → lv_has ls 2 [(0, .ref (ad v0)), (1, .int v1)] → W p l e rm_X3_isAnybodyOnWay s m args below meth c H locs 0 0 (MQ below (PostI g ad s.heap.size K) args s 0 0 (Aw ad s.heap.size)) (F0 m 2 ls []) := by
  obtain ⟨hx, hb, hml, -, hts, hown, -, -, hN⟩ := id C
  intro n
  induction n with
  | zero =>
    intro v1 μ H locs ls h w hl
    exact (show False from h).elim
  | succ n ih =>
    intro v1 μ H locs ls h w hl
    rw [wp_X3_isAnybodyOnWay_L2_s] at h
    dsimp only at h
    refine lv_iload_n hx hb dX3_isAnybodyOnWay_2 rfl (lv_at hl 1 rfl) ?_
    refine lv_aload_n hx hb dX3_isAnybodyOnWay_3 rfl (lv_at hl 0 rfl) ?_
    refine x_getS C w (i := v0) (k := 4) (v := .int (μ v0 4)) kv0 (by decide) rfl mf_Staircase_38 dX3_isAnybodyOnWay_4 ?_
    refine lv_icmp_ge (tgt := 30) hx hb dX3_isAnybodyOnWay_7 (by decide) (fun c_1 => ?_) (fun c_1 => ?_)
    · have h := h.1 c_1
      refine lv_iconst (v := 0) hx hb dX3_isAnybodyOnWay_30 (by decide) ?_
      exact x_zret C w (show bz 0 from Or.inl rfl) h dX3_isAnybodyOnWay_31
    · have h := h.2 c_1
      refine lv_aload_n hx hb dX3_isAnybodyOnWay_10 rfl (lv_at hl 0 rfl) ?_
      refine x_getS C w (i := v0) (k := 1) (v := .ref (ad (v0 + 2))) kv0 (by decide) rfl mf_Staircase_20 dX3_isAnybodyOnWay_11 ?_
      refine lv_iload_n hx hb dX3_isAnybodyOnWay_14 rfl (lv_at hl 1 rfl) ?_
      have hi := h.1
      have h := h.2
      refine x_aldP C w (kS2 kv0) hi dX3_isAnybodyOnWay_15 ?_
      have k_2 := kSP (kS2 kv0) hi
      refine x_calli C w (x_runV (i := ((v0 + 2) + 2 + v1.toNatClampNeg)) (As := []) (rest := []) C w k_2 (by decide) (ci := 2) rfl rfl rfl me_X2_isOnWay ml_Staircase_81 (c_X2_isOnWay l g ad μ _ ((v0 + 2) + 2 + v1.toNatClampNeg) k_2 h) ⟨rfl, rfl⟩ ⟨Nat.le_of_ble_eq_true rfl, Nat.le_of_ble_eq_true rfl⟩ rfl hl.1 rfl (Nat.le_of_ble_eq_true rfl) dX3_isAnybodyOnWay_16 ⟨Nat.le_of_ble_eq_true rfl, Nat.le_of_ble_eq_true rfl⟩) (fun r_4 m_3 h H locs w => ?_)
      refine lv_if_eq (tgt := 24) hx hb dX3_isAnybodyOnWay_19 (by decide) (fun c_5 => ?_) (fun c_5 => ?_)
      · have h := h.1 c_5
        refine lv_iinc (v := (v1 + 1)) (lv' := [(1, .int (v1 + 1)), (0, .ref (ad v0))]) hx hb dX3_isAnybodyOnWay_24 hl (k := 1) rfl rfl (by decide) rfl (fun ls hl => ?_)
        refine lv_goto (tgt := 2) hx hb dX3_isAnybodyOnWay_27 (by decide) ?_
        exact ih (v1 + 1) m_3 _ _ _ h w (lv_sub hl [1, 0] rfl)
      · have h := h.2 c_5
        refine lv_iconst (v := 1) hx hb dX3_isAnybodyOnWay_22 (by decide) ?_
        exact x_zret C w (show bz 1 from Or.inr rfl) h dX3_isAnybodyOnWay_23
set_option maxHeartbeats 4000000 in
set_option maxRecDepth 100000 in
theorem c_X3_isAnybodyOnWay (l : Launch) (g : Gv) (ad : Nat → Nat) (μ : Mem) (sz : Nat) (b0 : Nat) (k0 : kd b0 = 9) {K : Int32 → Mem → Prop} (h : wp_X3_isAnybodyOnWay b0 μ K) : Met l yX3_isAnybodyOnWay (wX yX3_isAnybodyOnWay cX3_isAnybodyOnWay 2 (some .boolean)) rm_X3_isAnybodyOnWay (Pre g ad μ sz [.ref (ad b0)]) (PostI g ad sz K) 0 0 (Aw ad sz) := by
  refine Met.ofW (cc := cX3_isAnybodyOnWay) (maxL := 2) (ret := (some .boolean)) (by decide) rfl ?_
  intro p e s m args below meth c s₁ B hml hv
  obtain ⟨rfl, rfl, C, w⟩ := x_start B hml hv
  obtain ⟨hx, hb, hml, -, hts, hown, -, -, hN⟩ := id C
  have hl := lv_entry ([.ref (ad b0)]) (n := 2) (Nat.le_of_ble_eq_true rfl)
  rw [lg_entry_eq]
  generalize (lg_sl ([.ref (ad b0)]) ++ List.replicate (2 - (lg_sl ([.ref (ad b0)])).length) Slot.unset).toArray = ls at hl ⊢
  have hl : lv_has ls 2 [(0, .ref (ad b0))] := hl
  show W p l e rm_X3_isAnybodyOnWay s m _ below meth c s.heap [] 0 0 _ _
  unfold wp_X3_isAnybodyOnWay at h
  refine lv_iconst (v := 0) hx hb dX3_isAnybodyOnWay_0 (by decide) ?_
  refine lv_istore_n (lv' := [(1, .int 0), (0, .ref (ad b0))]) hx hb dX3_isAnybodyOnWay_1 rfl hl (by decide) rfl (fun ls hl => ?_)
  obtain ⟨n_6, h⟩ := h
  exact t_X3_isAnybodyOnWay_L2 C k0 n_6 0 μ _ _ _ h w (lv_sub hl [1, 0] rfl)
abbrev rm_X3_bring : Room := { frames := 1, cells := 0, slots := 0, locals := 20 }
noncomputable def wp_X3_bring_B23 (v0 : Nat) (v1 : Nat) (v2 : Int32) (v3 : Int32) (v4 : Int32) (K : Mem → Prop) (μ : Mem) : Prop :=
    (wp_X4_isStep v2 μ (fun r_5 m_4 => ((r_5 = 0 → (∀ m_7, m_7 = up2 m_4 v1 7 ((m_4 v0 5) + 1) → (∀ m_9, m_9 = up2 m_7 v1 3 v2 → (∀ m_11, m_11 = up2 m_9 v1 2 v3 → (∀ m_13, m_13 = up2 m_11 v1 9 v4 → (∀ m_15, m_15 = up2 m_13 v1 8 0 → K m_15)))))) ∧ (¬ r_5 = 0 → (vp_in v2 12 ∧ (vp_in v2 12 ∧ (∀ m_17, m_17 = up2 m_4 (v0 + 3) v2.toNatClampNeg ((m_4 (v0 + 3) v2.toNatClampNeg) + 1) → (∀ m_19, m_19 = up2 m_17 v1 3 v2 → (∀ m_21, m_21 = up2 m_19 v1 2 v3 → (∀ m_23, m_23 = up2 m_21 v1 9 v4 → (∀ m_25, m_25 = up2 m_23 v1 8 0 → K m_25)))))))))))
noncomputable def wp_X3_bring (b0 : Nat) (a1 : Nat) (a2 : Int32) (a3 : Int32) (a4 : Int32) (μ : Mem) (K : Mem → Prop) : Prop :=
    (wp_X4_isStep (μ a1 3) μ (fun r_2 m_1 => ((r_2 = 0 → wp_X3_bring_B23 b0 a1 a2 a3 a4 K m_1) ∧ (¬ r_2 = 0 → (vp_in (m_1 a1 3) 12 ∧ (vp_in (m_1 a1 3) 12 ∧ (∀ m_27, m_27 = up2 m_1 (b0 + 3) ((m_1 a1 3).toNatClampNeg) ((m_1 (b0 + 3) (m_1 a1 3).toNatClampNeg) - 1) → wp_X3_bring_B23 b0 a1 a2 a3 a4 K m_27)))))))
set_option maxHeartbeats 4000000 in
set_option maxRecDepth 100000 in
theorem t_X3_bring_B23 {g : Gv} {ad : Nat → Nat} {l : Launch} {p : Program} {e : Env} {s : State} {m : MethodId} {args : Array Value} {below : List Frame} {meth : Method} {c : Code} (C : Cx g p s m args meth c "StairBows$Staircase" cX3_bring 5 none) {v0 : Nat} {v1 : Nat} {v2 : Int32} {v3 : Int32} {v4 : Int32}  {K : Mem → Prop}  (kv0 : kd v0 = 9) (kv1 : kd v1 = 13)  (μ : Mem) (H : Heap) (locs : List Loc) (ls : Array Slot) (h : wp_X3_bring_B23 v0 v1 v2 v3 v4 K μ) (w : Wd g ad μ (Aw ad s.heap.size) s H locs) (hl : lv_has ls 5 [(0, .ref (ad v0)), (1, .ref (ad v1)), (2, .int v2), (3, .int v3), (4, .int v4)]) : W p l e rm_X3_bring s m args below meth c H locs 0 0 (MQ below (PostV g ad s.heap.size K) args s 0 0 (Aw ad s.heap.size)) (F0 m 23 ls []) := by
  obtain ⟨hx, hb, hml, -, hts, hown, -, -, hN⟩ := id C
  unfold wp_X3_bring_B23 at h
  refine lv_iload_n hx hb dX3_bring_23 rfl (lv_at hl 2 rfl) ?_
  refine x_calli C w (x_runSN (host := "StairBows") (As := [.int v2]) (rest := []) C w me_X4_isStep hN (c_X4_isStep l g ad μ _ v2 h) ⟨rfl, rfl⟩ ⟨Nat.le_of_ble_eq_true rfl, Nat.le_of_ble_eq_true rfl⟩ rfl hl.1 rfl (Nat.le_of_ble_eq_true rfl) dX3_bring_24 ⟨Nat.le_of_ble_eq_true rfl, Nat.le_of_ble_eq_true rfl⟩) (fun r_5 m_4 h H locs w => ?_)
  refine lv_if_eq (tgt := 43) hx hb dX3_bring_27 (by decide) (fun c_6 => ?_) (fun c_6 => ?_)
  · have h := h.1 c_6
    refine lv_aload_n hx hb dX3_bring_43 rfl (lv_at hl 1 rfl) ?_
    refine lv_aload_n hx hb dX3_bring_44 rfl (lv_at hl 0 rfl) ?_
    refine x_getS C w (i := v0) (k := 5) (v := .int (m_4 v0 5)) kv0 (by decide) rfl mf_Staircase_41 dX3_bring_45 ?_
    refine lv_iconst (v := 1) hx hb dX3_bring_48 (by decide) ?_
    refine lv_iadd hx hb dX3_bring_49 ?_
    refine x_putP C w (i := v1) (k := 7) kv1 (by decide) mf_Staircase_130 rfl rfl rfl rfl dX3_bring_50 (fun m_7 e_8 H locs w => ?_)
    have h := h m_7 e_8
    refine lv_aload_n hx hb dX3_bring_53 rfl (lv_at hl 1 rfl) ?_
    refine lv_iload_n hx hb dX3_bring_54 rfl (lv_at hl 2 rfl) ?_
    refine x_putP C w (i := v1) (k := 3) kv1 (by decide) mf_Staircase_127 rfl rfl rfl rfl dX3_bring_55 (fun m_9 e_10 H locs w => ?_)
    have h := h m_9 e_10
    refine lv_aload_n hx hb dX3_bring_58 rfl (lv_at hl 1 rfl) ?_
    refine lv_iload_n hx hb dX3_bring_59 rfl (lv_at hl 3 rfl) ?_
    refine x_putP C w (i := v1) (k := 2) kv1 (by decide) mf_Staircase_75 rfl rfl rfl rfl dX3_bring_60 (fun m_11 e_12 H locs w => ?_)
    have h := h m_11 e_12
    refine lv_aload_n hx hb dX3_bring_63 rfl (lv_at hl 1 rfl) ?_
    refine lv_iload hx hb dX3_bring_64 (lv_at hl 4 rfl) ?_
    refine x_putP C w (i := v1) (k := 9) kv1 (by decide) mf_Staircase_85 rfl rfl rfl rfl dX3_bring_66 (fun m_13 e_14 H locs w => ?_)
    have h := h m_13 e_14
    refine lv_aload_n hx hb dX3_bring_69 rfl (lv_at hl 1 rfl) ?_
    refine lv_iconst (v := 0) hx hb dX3_bring_70 (by decide) ?_
    refine x_putP C w (i := v1) (k := 8) kv1 (by decide) mf_Staircase_109 rfl rfl rfl rfl dX3_bring_71 (fun m_15 e_16 H locs w => ?_)
    have h := h m_15 e_16
    exact x_vret C w h dX3_bring_74
  · have h := h.2 c_6
    refine lv_aload_n hx hb dX3_bring_30 rfl (lv_at hl 0 rfl) ?_
    refine x_getS C w (i := v0) (k := 2) (v := .ref (ad (v0 + 3))) kv0 (by decide) rfl mf_Staircase_24 dX3_bring_31 ?_
    refine lv_iload_n hx hb dX3_bring_34 rfl (lv_at hl 2 rfl) ?_
    refine lv_dup2_11 hx hb dX3_bring_35 rfl rfl ?_
    refine x_iald C w (i := (v0 + 3)) (K := 12) (j := v2) (n := 12) (jn := v2.toNatClampNeg) rfl (kS3 kv0) (by decide) rfl (show vp_in v2 12 from h.1) dX3_bring_36 ?_
    have h := h.2
    refine lv_iconst (v := 1) hx hb dX3_bring_37 (by decide) ?_
    refine lv_iadd hx hb dX3_bring_38 ?_
    refine x_iast C w (i := (v0 + 3)) (K := 12) (n := 12) (jn := v2.toNatClampNeg) rfl (kS3 kv0) (by decide) (fun _ => rfl) (show vp_in v2 12 from h.1) dX3_bring_39 (fun m_17 e_18 H locs w => ?_)
    have h := h.2 m_17 e_18
    refine lv_goto (tgt := 53) hx hb dX3_bring_40 (by decide) ?_
    refine lv_aload_n hx hb dX3_bring_53 rfl (lv_at hl 1 rfl) ?_
    refine lv_iload_n hx hb dX3_bring_54 rfl (lv_at hl 2 rfl) ?_
    refine x_putP C w (i := v1) (k := 3) kv1 (by decide) mf_Staircase_127 rfl rfl rfl rfl dX3_bring_55 (fun m_19 e_20 H locs w => ?_)
    have h := h m_19 e_20
    refine lv_aload_n hx hb dX3_bring_58 rfl (lv_at hl 1 rfl) ?_
    refine lv_iload_n hx hb dX3_bring_59 rfl (lv_at hl 3 rfl) ?_
    refine x_putP C w (i := v1) (k := 2) kv1 (by decide) mf_Staircase_75 rfl rfl rfl rfl dX3_bring_60 (fun m_21 e_22 H locs w => ?_)
    have h := h m_21 e_22
    refine lv_aload_n hx hb dX3_bring_63 rfl (lv_at hl 1 rfl) ?_
    refine lv_iload hx hb dX3_bring_64 (lv_at hl 4 rfl) ?_
    refine x_putP C w (i := v1) (k := 9) kv1 (by decide) mf_Staircase_85 rfl rfl rfl rfl dX3_bring_66 (fun m_23 e_24 H locs w => ?_)
    have h := h m_23 e_24
    refine lv_aload_n hx hb dX3_bring_69 rfl (lv_at hl 1 rfl) ?_
    refine lv_iconst (v := 0) hx hb dX3_bring_70 (by decide) ?_
    refine x_putP C w (i := v1) (k := 8) kv1 (by decide) mf_Staircase_109 rfl rfl rfl rfl dX3_bring_71 (fun m_25 e_26 H locs w => ?_)
    have h := h m_25 e_26
    exact x_vret C w h dX3_bring_74
set_option maxHeartbeats 4000000 in
set_option maxRecDepth 100000 in
theorem c_X3_bring (l : Launch) (g : Gv) (ad : Nat → Nat) (μ : Mem) (sz : Nat) (b0 : Nat) (k0 : kd b0 = 9) (a1 : Nat) (k1 : kd a1 = 13) (a2 : Int32) (a3 : Int32) (a4 : Int32) {K : Mem → Prop} (h : wp_X3_bring b0 a1 a2 a3 a4 μ K) : Met l yX3_bring (wX yX3_bring cX3_bring 5 none) rm_X3_bring (Pre g ad μ sz [.ref (ad b0), .ref (ad a1), .int a2, .int a3, .int a4]) (PostV g ad sz K) 0 0 (Aw ad sz) := by
  refine Met.ofW (cc := cX3_bring) (maxL := 5) (ret := none) (by decide) rfl ?_
  intro p e s m args below meth c s₁ B hml hv
  obtain ⟨rfl, rfl, C, w⟩ := x_start B hml hv
  obtain ⟨hx, hb, hml, -, hts, hown, -, -, hN⟩ := id C
  have hl := lv_entry ([.ref (ad b0), .ref (ad a1), .int a2, .int a3, .int a4]) (n := 5) (Nat.le_of_ble_eq_true rfl)
  rw [lg_entry_eq]
  generalize (lg_sl ([.ref (ad b0), .ref (ad a1), .int a2, .int a3, .int a4]) ++ List.replicate (5 - (lg_sl ([.ref (ad b0), .ref (ad a1), .int a2, .int a3, .int a4])).length) Slot.unset).toArray = ls at hl ⊢
  have hl : lv_has ls 5 [(0, .ref (ad b0)), (1, .ref (ad a1)), (2, .int a2), (3, .int a3), (4, .int a4)] := hl
  show W p l e rm_X3_bring s m _ below meth c s.heap [] 0 0 _ _
  unfold wp_X3_bring at h
  refine lv_aload_n hx hb dX3_bring_0 rfl (lv_at hl 1 rfl) ?_
  refine x_getP C w (i := a1) (k := 3) k1 (by decide) mf_Staircase_127 dX3_bring_1 ?_
  refine x_calli C w (x_runSN (host := "StairBows") (As := [.int (μ a1 3)]) (rest := []) C w me_X4_isStep hN (c_X4_isStep l g ad μ _ (μ a1 3) h) ⟨rfl, rfl⟩ ⟨Nat.le_of_ble_eq_true rfl, Nat.le_of_ble_eq_true rfl⟩ rfl hl.1 rfl (Nat.le_of_ble_eq_true rfl) dX3_bring_4 ⟨Nat.le_of_ble_eq_true rfl, Nat.le_of_ble_eq_true rfl⟩) (fun r_2 m_1 h H locs w => ?_)
  refine lv_if_eq (tgt := 23) hx hb dX3_bring_7 (by decide) (fun c_3 => ?_) (fun c_3 => ?_)
  · have h := h.1 c_3
    exact t_X3_bring_B23 C k0 k1 m_1 _ _ _ h w (lv_sub hl [0, 1, 2, 3, 4] rfl)
  · have h := h.2 c_3
    refine lv_aload_n hx hb dX3_bring_10 rfl (lv_at hl 0 rfl) ?_
    refine x_getS C w (i := b0) (k := 2) (v := .ref (ad (b0 + 3))) k0 (by decide) rfl mf_Staircase_24 dX3_bring_11 ?_
    refine lv_aload_n hx hb dX3_bring_14 rfl (lv_at hl 1 rfl) ?_
    refine x_getP C w (i := a1) (k := 3) k1 (by decide) mf_Staircase_127 dX3_bring_15 ?_
    refine lv_dup2_11 hx hb dX3_bring_18 rfl rfl ?_
    refine x_iald C w (i := (b0 + 3)) (K := 12) (j := (m_1 a1 3)) (n := 12) (jn := (m_1 a1 3).toNatClampNeg) rfl (kS3 k0) (by decide) rfl (show vp_in (m_1 a1 3) 12 from h.1) dX3_bring_19 ?_
    have h := h.2
    refine lv_iconst (v := 1) hx hb dX3_bring_20 (by decide) ?_
    refine lv_isub hx hb dX3_bring_21 ?_
    refine x_iast C w (i := (b0 + 3)) (K := 12) (n := 12) (jn := (m_1 a1 3).toNatClampNeg) rfl (kS3 k0) (by decide) (fun _ => rfl) (show vp_in (m_1 a1 3) 12 from h.1) dX3_bring_22 (fun m_27 e_28 H locs w => ?_)
    have h := h.2 m_27 e_28
    exact t_X3_bring_B23 C k0 k1 m_27 _ _ _ h w (lv_sub hl [0, 1, 2, 3, 4] rfl)
abbrev rm_X3_yielderOn : Room := { frames := 1, cells := 0, slots := 0, locals := 21 }
noncomputable def wp_X3_yielderOn_L5 (v0 : Nat) (v1 : Int32) (v2 : Nat) (K : Option Nat → Mem → Prop) (n : Nat) : Option Nat → Int32 → Mem → Prop :=
  Nat.rec (motive := fun _ => Option Nat → Int32 → Mem → Prop) (fun _ _ _ => False) (fun _ ih v3 v4 μ =>
    (((μ v0 4) ≤ v4 → K v3 μ) ∧ (¬ (μ v0 4) ≤ v4 → (vp_in v4 24 ∧ (wp_X2_standsOn ((v0 + 2) + 2 + v4.toNatClampNeg) v1 μ (fun r_4 m_3 => ((r_4 = 0 → ih v3 (v4 + 1) m_3) ∧ (¬ r_4 = 0 → (wp_X2_yieldsTo ((v0 + 2) + 2 + v4.toNatClampNeg) v2 m_3 (fun r_7 m_6 => ((r_7 = 0 → ih v3 (v4 + 1) m_6) ∧ (¬ r_7 = 0 → ((v3 = none → ih (some ((v0 + 2) + 2 + v4.toNatClampNeg)) (v4 + 1) m_6) ∧ (∀ q_9, v3 = some q_9 → (((m_6 q_9 0) ≤ (m_6 ((v0 + 2) + 2 + v4.toNatClampNeg) 0) → ih (some q_9) (v4 + 1) m_6) ∧ (¬ (m_6 q_9 0) ≤ (m_6 ((v0 + 2) + 2 + v4.toNatClampNeg) 0) → ih (some ((v0 + 2) + 2 + v4.toNatClampNeg)) (v4 + 1) m_6)))))))))))))))) n
theorem wp_X3_yielderOn_L5_s (v0 : Nat) (v1 : Int32) (v2 : Nat) (K : Option Nat → Mem → Prop) (n : Nat) (v3 : Option Nat) (v4 : Int32) (μ : Mem) : wp_X3_yielderOn_L5 v0 v1 v2 K (n + 1) v3 v4 μ = (
    let ih := wp_X3_yielderOn_L5 v0 v1 v2 K n
    (((μ v0 4) ≤ v4 → K v3 μ) ∧ (¬ (μ v0 4) ≤ v4 → (vp_in v4 24 ∧ (wp_X2_standsOn ((v0 + 2) + 2 + v4.toNatClampNeg) v1 μ (fun r_4 m_3 => ((r_4 = 0 → ih v3 (v4 + 1) m_3) ∧ (¬ r_4 = 0 → (wp_X2_yieldsTo ((v0 + 2) + 2 + v4.toNatClampNeg) v2 m_3 (fun r_7 m_6 => ((r_7 = 0 → ih v3 (v4 + 1) m_6) ∧ (¬ r_7 = 0 → ((v3 = none → ih (some ((v0 + 2) + 2 + v4.toNatClampNeg)) (v4 + 1) m_6) ∧ (∀ q_9, v3 = some q_9 → (((m_6 q_9 0) ≤ (m_6 ((v0 + 2) + 2 + v4.toNatClampNeg) 0) → ih (some q_9) (v4 + 1) m_6) ∧ (¬ (m_6 q_9 0) ≤ (m_6 ((v0 + 2) + 2 + v4.toNatClampNeg) 0) → ih (some ((v0 + 2) + 2 + v4.toNatClampNeg)) (v4 + 1) m_6)))))))))))))))) := rfl
noncomputable def wp_X3_yielderOn (b0 : Nat) (a1 : Int32) (a2 : Nat) (μ : Mem) (K : Option Nat → Mem → Prop) : Prop :=
    (∃ n, wp_X3_yielderOn_L5 b0 a1 a2 K n none 0 μ)
set_option maxHeartbeats 4000000 in
set_option maxRecDepth 100000 in
theorem t_X3_yielderOn_L5 {g : Gv} {ad : Nat → Nat} {l : Launch} {p : Program} {e : Env} {s : State} {m : MethodId} {args : Array Value} {below : List Frame} {meth : Method} {c : Code} (C : Cx g p s m args meth c "StairBows$Staircase" cX3_yielderOn 6 (some (.object "StairBows$Person"))) {v0 : Nat} {v1 : Int32} {v2 : Nat}  {K : Option Nat → Mem → Prop}  (kv0 : kd v0 = 9) (kv2 : kd v2 = 13)  : ∀ (n : Nat) (v3 : Option Nat) (v4 : Int32) (kv3 : ∀ q, v3 = some q → kd q = 13) (μ : Mem) (H : Heap) (locs : List Loc) (ls : Array Slot), wp_X3_yielderOn_L5 v0 v1 v2 K n v3 v4 μ → Wd g ad μ (Aw ad s.heap.size) s H locs → lv_has ls 6 [(0, .ref (ad v0)), (1, .int v1), (2, .ref (ad v2)), (3, va_re ad v3), (4, .int v4)] → W p l e rm_X3_yielderOn s m args below meth c H locs 0 0 (MQ below (PostR g ad s.heap.size K) args s 0 0 (Aw ad s.heap.size)) (F0 m 5 ls []) := by
  obtain ⟨hx, hb, hml, -, hts, hown, -, -, hN⟩ := id C
  intro n
  induction n with
  | zero =>
    intro v3 v4 kv3 μ H locs ls h w hl
    exact (show False from h).elim
  | succ n ih =>
    intro v3 v4 kv3 μ H locs ls h w hl
    rw [wp_X3_yielderOn_L5_s] at h
    dsimp only at h
    refine lv_iload hx hb dX3_yielderOn_5 (lv_at hl 4 rfl) ?_
    refine lv_aload_n hx hb dX3_yielderOn_7 rfl (lv_at hl 0 rfl) ?_
    refine x_getS C w (i := v0) (k := 4) (v := .int (μ v0 4)) kv0 (by decide) rfl mf_Staircase_38 dX3_yielderOn_8 ?_
    refine lv_icmp_ge (tgt := 66) hx hb dX3_yielderOn_11 (by decide) (fun c_1 => ?_) (fun c_1 => ?_)
    · have h := h.1 c_1
      refine x_aload_nR hx hb dX3_yielderOn_66 rfl (lv_at hl 3 rfl) ?_
      exact x_aret C w kv3 h dX3_yielderOn_67
    · have h := h.2 c_1
      refine lv_aload_n hx hb dX3_yielderOn_14 rfl (lv_at hl 0 rfl) ?_
      refine x_getS C w (i := v0) (k := 1) (v := .ref (ad (v0 + 2))) kv0 (by decide) rfl mf_Staircase_20 dX3_yielderOn_15 ?_
      refine lv_iload hx hb dX3_yielderOn_18 (lv_at hl 4 rfl) ?_
      have hi := h.1
      have h := h.2
      refine x_aldP C w (kS2 kv0) hi dX3_yielderOn_20 ?_
      have k_2 := kSP (kS2 kv0) hi
      refine lv_astore (lv' := [(5, .ref (ad ((v0 + 2) + 2 + v4.toNatClampNeg))), (0, .ref (ad v0)), (1, .int v1), (2, .ref (ad v2)), (3, va_re ad v3), (4, .int v4)]) hx hb dX3_yielderOn_21 hl (by decide) rfl (fun ls hl => ?_)
      refine lv_aload hx hb dX3_yielderOn_23 (lv_at hl 0 rfl) ?_
      refine lv_iload_n hx hb dX3_yielderOn_25 rfl (lv_at hl 2 rfl) ?_
      refine x_calli C w (x_runV (i := ((v0 + 2) + 2 + v4.toNatClampNeg)) (As := [.int v1]) (rest := []) C w k_2 (by decide) (ci := 2) rfl rfl rfl me_X2_standsOn ml_Staircase_69 (c_X2_standsOn l g ad μ _ ((v0 + 2) + 2 + v4.toNatClampNeg) k_2 v1 h) ⟨rfl, rfl⟩ ⟨Nat.le_of_ble_eq_true rfl, Nat.le_of_ble_eq_true rfl⟩ rfl hl.1 rfl (Nat.le_of_ble_eq_true rfl) dX3_yielderOn_26 ⟨Nat.le_of_ble_eq_true rfl, Nat.le_of_ble_eq_true rfl⟩) (fun r_4 m_3 h H locs w => ?_)
      refine lv_if_eq (tgt := 60) hx hb dX3_yielderOn_29 (by decide) (fun c_5 => ?_) (fun c_5 => ?_)
      · have h := h.1 c_5
        refine lv_iinc (v := (v4 + 1)) (lv' := [(4, .int (v4 + 1)), (5, .ref (ad ((v0 + 2) + 2 + v4.toNatClampNeg))), (0, .ref (ad v0)), (1, .int v1), (2, .ref (ad v2)), (3, va_re ad v3)]) hx hb dX3_yielderOn_60 hl (k := 5) rfl rfl (by decide) (by cases v3 <;> rfl) (fun ls hl => ?_)
        refine lv_goto (tgt := 5) hx hb dX3_yielderOn_63 (by decide) ?_
        exact ih v3 (v4 + 1) kv3 m_3 _ _ _ h w (lv_sub hl [2, 3, 4, 5, 0] rfl)
      · have h := h.2 c_5
        refine lv_aload hx hb dX3_yielderOn_32 (lv_at hl 0 rfl) ?_
        refine lv_aload_n hx hb dX3_yielderOn_34 rfl (lv_at hl 3 rfl) ?_
        refine x_calli C w (x_runV (i := ((v0 + 2) + 2 + v4.toNatClampNeg)) (As := [.ref (ad v2)]) (rest := []) C w k_2 (by decide) (ci := 2) rfl rfl rfl me_X2_yieldsTo ml_Staircase_123 (c_X2_yieldsTo l g ad m_3 _ ((v0 + 2) + 2 + v4.toNatClampNeg) k_2 v2 kv2 h) ⟨rfl, rfl⟩ ⟨Nat.le_of_ble_eq_true rfl, Nat.le_of_ble_eq_true rfl⟩ rfl hl.1 rfl (Nat.le_of_ble_eq_true rfl) dX3_yielderOn_35 ⟨Nat.le_of_ble_eq_true rfl, Nat.le_of_ble_eq_true rfl⟩) (fun r_7 m_6 h H locs w => ?_)
        refine lv_if_eq (tgt := 60) hx hb dX3_yielderOn_38 (by decide) (fun c_8 => ?_) (fun c_8 => ?_)
        · have h := h.1 c_8
          refine lv_iinc (v := (v4 + 1)) (lv' := [(4, .int (v4 + 1)), (5, .ref (ad ((v0 + 2) + 2 + v4.toNatClampNeg))), (0, .ref (ad v0)), (1, .int v1), (2, .ref (ad v2)), (3, va_re ad v3)]) hx hb dX3_yielderOn_60 hl (k := 5) rfl rfl (by decide) (by cases v3 <;> rfl) (fun ls hl => ?_)
          refine lv_goto (tgt := 5) hx hb dX3_yielderOn_63 (by decide) ?_
          exact ih v3 (v4 + 1) kv3 m_6 _ _ _ h w (lv_sub hl [2, 3, 4, 5, 0] rfl)
        · have h := h.2 c_8
          refine x_aload_nR hx hb dX3_yielderOn_41 rfl (lv_at hl 4 rfl) ?_
          refine x_ifnullR (tgt := 57) hx hb dX3_yielderOn_42 (by decide) (fun e_10 => ?_) (fun q_9 e_10 => ?_)
          · have h_e_10 := h.1 e_10
            have w_e_10 := w
            have hl_e_10 := hl
            subst e_10
            have h := h_e_10
            have w := w_e_10
            have hl := hl_e_10
            refine lv_aload hx hb dX3_yielderOn_57 (lv_at hl 0 rfl) ?_
            refine lv_astore_n (lv' := [(3, .ref (ad ((v0 + 2) + 2 + v4.toNatClampNeg))), (5, .ref (ad ((v0 + 2) + 2 + v4.toNatClampNeg))), (0, .ref (ad v0)), (1, .int v1), (2, .ref (ad v2)), (4, .int v4)]) hx hb dX3_yielderOn_59 rfl hl (by decide) rfl (fun ls hl => ?_)
            refine lv_iinc (v := (v4 + 1)) (lv' := [(4, .int (v4 + 1)), (3, .ref (ad ((v0 + 2) + 2 + v4.toNatClampNeg))), (5, .ref (ad ((v0 + 2) + 2 + v4.toNatClampNeg))), (0, .ref (ad v0)), (1, .int v1), (2, .ref (ad v2))]) hx hb dX3_yielderOn_60 hl (k := 5) rfl rfl (by decide) rfl (fun ls hl => ?_)
            refine lv_goto (tgt := 5) hx hb dX3_yielderOn_63 (by decide) ?_
            exact ih (some ((v0 + 2) + 2 + v4.toNatClampNeg)) (v4 + 1) (fun _ z => by cases z; exact k_2) m_6 _ _ _ h w (lv_sub hl [3, 4, 5, 1, 0] rfl)
          · have h_e_10 := h.2 q_9 e_10
            have w_e_10 := w
            have hl_e_10 := hl
            subst e_10
            have h := h_e_10
            have w := w_e_10
            have hl := hl_e_10
            refine lv_aload hx hb dX3_yielderOn_45 (lv_at hl 0 rfl) ?_
            refine x_getP C w (i := ((v0 + 2) + 2 + v4.toNatClampNeg)) (k := 0) k_2 (by decide) mf_Staircase_72 dX3_yielderOn_47 ?_
            refine lv_aload_n hx hb dX3_yielderOn_50 rfl (lv_at hl 4 rfl) ?_
            refine x_getP C w (i := q_9) (k := 0) (kv3 _ rfl) (by decide) mf_Staircase_72 dX3_yielderOn_51 ?_
            refine lv_icmp_ge (tgt := 60) hx hb dX3_yielderOn_54 (by decide) (fun c_11 => ?_) (fun c_11 => ?_)
            · have h := h.1 c_11
              refine lv_iinc (v := (v4 + 1)) (lv' := [(4, .int (v4 + 1)), (5, .ref (ad ((v0 + 2) + 2 + v4.toNatClampNeg))), (0, .ref (ad v0)), (1, .int v1), (2, .ref (ad v2)), (3, .ref (ad q_9))]) hx hb dX3_yielderOn_60 hl (k := 5) rfl rfl (by decide) rfl (fun ls hl => ?_)
              refine lv_goto (tgt := 5) hx hb dX3_yielderOn_63 (by decide) ?_
              exact ih (some q_9) (v4 + 1) (fun _ z => by cases z; exact (kv3 _ rfl)) m_6 _ _ _ h w (lv_sub hl [2, 3, 4, 5, 0] rfl)
            · have h := h.2 c_11
              refine lv_aload hx hb dX3_yielderOn_57 (lv_at hl 0 rfl) ?_
              refine lv_astore_n (lv' := [(3, .ref (ad ((v0 + 2) + 2 + v4.toNatClampNeg))), (5, .ref (ad ((v0 + 2) + 2 + v4.toNatClampNeg))), (0, .ref (ad v0)), (1, .int v1), (2, .ref (ad v2)), (4, .int v4)]) hx hb dX3_yielderOn_59 rfl hl (by decide) rfl (fun ls hl => ?_)
              refine lv_iinc (v := (v4 + 1)) (lv' := [(4, .int (v4 + 1)), (3, .ref (ad ((v0 + 2) + 2 + v4.toNatClampNeg))), (5, .ref (ad ((v0 + 2) + 2 + v4.toNatClampNeg))), (0, .ref (ad v0)), (1, .int v1), (2, .ref (ad v2))]) hx hb dX3_yielderOn_60 hl (k := 5) rfl rfl (by decide) rfl (fun ls hl => ?_)
              refine lv_goto (tgt := 5) hx hb dX3_yielderOn_63 (by decide) ?_
              exact ih (some ((v0 + 2) + 2 + v4.toNatClampNeg)) (v4 + 1) (fun _ z => by cases z; exact k_2) m_6 _ _ _ h w (lv_sub hl [3, 4, 5, 1, 0] rfl)
set_option maxHeartbeats 4000000 in
set_option maxRecDepth 100000 in
theorem c_X3_yielderOn (l : Launch) (g : Gv) (ad : Nat → Nat) (μ : Mem) (sz : Nat) (b0 : Nat) (k0 : kd b0 = 9) (a1 : Int32) (a2 : Nat) (k2 : kd a2 = 13) {K : Option Nat → Mem → Prop} (h : wp_X3_yielderOn b0 a1 a2 μ K) : Met l yX3_yielderOn (wX yX3_yielderOn cX3_yielderOn 6 (some (.object "StairBows$Person"))) rm_X3_yielderOn (Pre g ad μ sz [.ref (ad b0), .int a1, .ref (ad a2)]) (PostR g ad sz K) 0 0 (Aw ad sz) := by
  refine Met.ofW (cc := cX3_yielderOn) (maxL := 6) (ret := (some (.object "StairBows$Person"))) (by decide) rfl ?_
  intro p e s m args below meth c s₁ B hml hv
  obtain ⟨rfl, rfl, C, w⟩ := x_start B hml hv
  obtain ⟨hx, hb, hml, -, hts, hown, -, -, hN⟩ := id C
  have hl := lv_entry ([.ref (ad b0), .int a1, .ref (ad a2)]) (n := 6) (Nat.le_of_ble_eq_true rfl)
  rw [lg_entry_eq]
  generalize (lg_sl ([.ref (ad b0), .int a1, .ref (ad a2)]) ++ List.replicate (6 - (lg_sl ([.ref (ad b0), .int a1, .ref (ad a2)])).length) Slot.unset).toArray = ls at hl ⊢
  have hl : lv_has ls 6 [(0, .ref (ad b0)), (1, .int a1), (2, .ref (ad a2))] := hl
  show W p l e rm_X3_yielderOn s m _ below meth c s.heap [] 0 0 _ _
  unfold wp_X3_yielderOn at h
  refine lv_null hx hb dX3_yielderOn_0 ?_
  refine lv_astore_nN (lv' := [(3, .null), (0, .ref (ad b0)), (1, .int a1), (2, .ref (ad a2))]) hx hb dX3_yielderOn_1 rfl hl (by decide) rfl (fun ls hl => ?_)
  refine lv_iconst (v := 0) hx hb dX3_yielderOn_2 (by decide) ?_
  refine lv_istore (lv' := [(4, .int 0), (3, .null), (0, .ref (ad b0)), (1, .int a1), (2, .ref (ad a2))]) hx hb dX3_yielderOn_3 hl (by decide) rfl (fun ls hl => ?_)
  obtain ⟨n_12, h⟩ := h
  exact t_X3_yielderOn_L5 C k0 k2 n_12 none 0 (fun _ z => by cases z) μ _ _ _ h w (lv_sub hl [2, 3, 4, 1, 0] rfl)
abbrev rm_X3_isCleared : Room := { frames := 3, cells := 0, slots := 0, locals := 62 }
noncomputable def wp_X3_isCleared_B82 (v0 : Nat) (v2 : Nat) (v3 : Nat) (K : Int32 → Mem → Prop) (μ : Mem) : Prop :=
    (wp_X2_bow v3 ((μ (v0 + 1) 1) * (((μ v2 0) - (μ v3 0)) + 1)) μ (fun m_16 => K 1 m_16))
noncomputable def wp_X3_isCleared_B53 (v0 : Nat) (v2 : Nat) (v3 : Nat) (v4 : Int32) (K : Int32 → Mem → Prop) (μ : Mem) : Prop :=
    (wp_X4_isStep v4 μ (fun r_13 m_12 => ((r_13 = 0 → (wp_X3_bring v0 v3 v4 3 5 m_12 (fun m_15 => wp_X3_isCleared_B82 v0 v2 v3 K m_15))) ∧ (¬ r_13 = 0 → (wp_X3_bring v0 v3 v4 1 4 m_12 (fun m_17 => wp_X3_isCleared_B82 v0 v2 v3 K m_17))))))
noncomputable def wp_X3_isCleared (b0 : Nat) (a1 : Int32) (a2 : Nat) (μ : Mem) (K : Int32 → Mem → Prop) : Prop :=
    (((μ (b0 + 1) 2) ≤ (μ a2 8) → (wp_X3_yielderOn b0 a1 a2 μ (fun r_3 m_2 => ((r_3 = none → K 0 m_2) ∧ (∀ q_5, r_3 = some q_5 → (wp_X2_stepBehind q_5 m_2 (fun r_8 m_7 => (wp_X4_isStep r_8 m_7 (fun r_10 m_9 => ((r_10 = 0 → wp_X3_isCleared_B53 b0 a2 q_5 r_8 K m_9) ∧ (¬ r_10 = 0 → (wp_X3_roomOn b0 r_8 m_9 (fun r_19 m_18 => ((0 < r_19 → wp_X3_isCleared_B53 b0 a2 q_5 r_8 K m_18) ∧ (¬ 0 < r_19 → K 0 m_18))))))))))))))) ∧ (¬ (μ (b0 + 1) 2) ≤ (μ a2 8) → K 0 μ))
set_option maxHeartbeats 4000000 in
set_option maxRecDepth 100000 in
theorem t_X3_isCleared_B82 {g : Gv} {ad : Nat → Nat} {l : Launch} {p : Program} {e : Env} {s : State} {m : MethodId} {args : Array Value} {below : List Frame} {meth : Method} {c : Code} (C : Cx g p s m args meth c "StairBows$Staircase" cX3_isCleared 5 (some .boolean)) {v0 : Nat} {v2 : Nat} {v3 : Nat}  {K : Int32 → Mem → Prop}  (kv0 : kd v0 = 9) (kv2 : kd v2 = 13) (kv3 : kd v3 = 13)  (μ : Mem) (H : Heap) (locs : List Loc) (ls : Array Slot) (h : wp_X3_isCleared_B82 v0 v2 v3 K μ) (w : Wd g ad μ (Aw ad s.heap.size) s H locs) (hl : lv_has ls 5 [(0, .ref (ad v0)), (2, .ref (ad v2)), (3, .ref (ad v3))]) : W p l e rm_X3_isCleared s m args below meth c H locs 0 0 (MQ below (PostI g ad s.heap.size K) args s 0 0 (Aw ad s.heap.size)) (F0 m 82 ls []) := by
  obtain ⟨hx, hb, hml, -, hts, hown, -, -, hN⟩ := id C
  unfold wp_X3_isCleared_B82 at h
  refine lv_aload_n hx hb dX3_isCleared_82 rfl (lv_at hl 2 rfl) ?_
  refine lv_aload_n hx hb dX3_isCleared_83 rfl (lv_at hl 0 rfl) ?_
  refine x_getS C w (i := v0) (k := 0) (v := .ref (ad (v0 + 1))) kv0 (by decide) rfl mf_Staircase_13 dX3_isCleared_84 ?_
  refine lv_iconst (v := 1) hx hb dX3_isCleared_87 (by decide) ?_
  refine x_iald C w (i := (v0 + 1)) (K := 10) (j := 1) (n := 3) (jn := 1) rfl (kS1 kv0) (by decide) rfl (show vp_in 1 3 from vp_lit (by decide) (by decide)) dX3_isCleared_88 ?_
  refine lv_aload_n hx hb dX3_isCleared_89 rfl (lv_at hl 1 rfl) ?_
  refine x_getP C w (i := v2) (k := 0) kv2 (by decide) mf_Staircase_72 dX3_isCleared_90 ?_
  refine lv_aload_n hx hb dX3_isCleared_93 rfl (lv_at hl 2 rfl) ?_
  refine x_getP C w (i := v3) (k := 0) kv3 (by decide) mf_Staircase_72 dX3_isCleared_94 ?_
  refine lv_isub hx hb dX3_isCleared_97 ?_
  refine lv_iconst (v := 1) hx hb dX3_isCleared_98 (by decide) ?_
  refine lv_iadd hx hb dX3_isCleared_99 ?_
  refine lv_imul hx hb dX3_isCleared_100 ?_
  refine x_callv C w (x_runV (i := v3) (As := [.int ((μ (v0 + 1) 1) * (((μ v2 0) - (μ v3 0)) + 1))]) (rest := []) C w kv3 (by decide) (ci := 2) rfl rfl rfl me_X2_bow ml_Staircase_119 (c_X2_bow l g ad μ _ v3 kv3 ((μ (v0 + 1) 1) * (((μ v2 0) - (μ v3 0)) + 1)) h) ⟨rfl, rfl⟩ ⟨Nat.le_of_ble_eq_true rfl, Nat.le_of_ble_eq_true rfl⟩ rfl hl.1 rfl (Nat.le_of_ble_eq_true rfl) dX3_isCleared_101 ⟨Nat.le_of_ble_eq_true rfl, Nat.le_of_ble_eq_true rfl⟩) (fun m_16 h H locs w => ?_)
  refine lv_iconst (v := 1) hx hb dX3_isCleared_104 (by decide) ?_
  exact x_zret C w (show bz 1 from Or.inr rfl) h dX3_isCleared_105
set_option maxHeartbeats 4000000 in
set_option maxRecDepth 100000 in
theorem t_X3_isCleared_B53 {g : Gv} {ad : Nat → Nat} {l : Launch} {p : Program} {e : Env} {s : State} {m : MethodId} {args : Array Value} {below : List Frame} {meth : Method} {c : Code} (C : Cx g p s m args meth c "StairBows$Staircase" cX3_isCleared 5 (some .boolean)) {v0 : Nat} {v2 : Nat} {v3 : Nat} {v4 : Int32}  {K : Int32 → Mem → Prop}  (kv0 : kd v0 = 9) (kv2 : kd v2 = 13) (kv3 : kd v3 = 13)  (μ : Mem) (H : Heap) (locs : List Loc) (ls : Array Slot) (h : wp_X3_isCleared_B53 v0 v2 v3 v4 K μ) (w : Wd g ad μ (Aw ad s.heap.size) s H locs) (hl : lv_has ls 5 [(0, .ref (ad v0)), (2, .ref (ad v2)), (3, .ref (ad v3)), (4, .int v4)]) : W p l e rm_X3_isCleared s m args below meth c H locs 0 0 (MQ below (PostI g ad s.heap.size K) args s 0 0 (Aw ad s.heap.size)) (F0 m 53 ls []) := by
  obtain ⟨hx, hb, hml, -, hts, hown, -, -, hN⟩ := id C
  unfold wp_X3_isCleared_B53 at h
  refine lv_iload hx hb dX3_isCleared_53 (lv_at hl 3 rfl) ?_
  refine x_calli C w (x_runSN (host := "StairBows") (As := [.int v4]) (rest := []) C w me_X4_isStep hN (c_X4_isStep l g ad μ _ v4 h) ⟨rfl, rfl⟩ ⟨Nat.le_of_ble_eq_true rfl, Nat.le_of_ble_eq_true rfl⟩ rfl hl.1 rfl (Nat.le_of_ble_eq_true rfl) dX3_isCleared_55 ⟨Nat.le_of_ble_eq_true rfl, Nat.le_of_ble_eq_true rfl⟩) (fun r_13 m_12 h H locs w => ?_)
  refine lv_if_eq (tgt := 73) hx hb dX3_isCleared_58 (by decide) (fun c_14 => ?_) (fun c_14 => ?_)
  · have h := h.1 c_14
    refine lv_aload_n hx hb dX3_isCleared_73 rfl (lv_at hl 0 rfl) ?_
    refine lv_aload_n hx hb dX3_isCleared_74 rfl (lv_at hl 2 rfl) ?_
    refine lv_iload hx hb dX3_isCleared_75 (lv_at hl 3 rfl) ?_
    refine lv_iconst (v := 3) hx hb dX3_isCleared_77 (by decide) ?_
    refine lv_iconst (v := 5) hx hb dX3_isCleared_78 (by decide) ?_
    refine x_callv C w (x_runV (i := v0) (As := [.ref (ad v3), .int v4, .int 3, .int 5]) (rest := []) C w kv0 (by decide) (ci := 3) rfl rfl rfl me_X3_bring ml_Staircase_95 (c_X3_bring l g ad m_12 _ v0 kv0 v3 kv3 v4 3 5 h) ⟨rfl, rfl⟩ ⟨Nat.le_of_ble_eq_true rfl, Nat.le_of_ble_eq_true rfl⟩ rfl hl.1 rfl (Nat.le_of_ble_eq_true rfl) dX3_isCleared_79 ⟨Nat.le_of_ble_eq_true rfl, Nat.le_of_ble_eq_true rfl⟩) (fun m_15 h H locs w => ?_)
    exact t_X3_isCleared_B82 C kv0 kv2 kv3 m_15 _ _ _ h w (lv_sub hl [0, 1, 2] rfl)
  · have h := h.2 c_14
    refine lv_aload_n hx hb dX3_isCleared_61 rfl (lv_at hl 0 rfl) ?_
    refine lv_aload_n hx hb dX3_isCleared_62 rfl (lv_at hl 2 rfl) ?_
    refine lv_iload hx hb dX3_isCleared_63 (lv_at hl 3 rfl) ?_
    refine lv_iconst (v := 1) hx hb dX3_isCleared_65 (by decide) ?_
    refine lv_iconst (v := 4) hx hb dX3_isCleared_66 (by decide) ?_
    refine x_callv C w (x_runV (i := v0) (As := [.ref (ad v3), .int v4, .int 1, .int 4]) (rest := []) C w kv0 (by decide) (ci := 3) rfl rfl rfl me_X3_bring ml_Staircase_95 (c_X3_bring l g ad m_12 _ v0 kv0 v3 kv3 v4 1 4 h) ⟨rfl, rfl⟩ ⟨Nat.le_of_ble_eq_true rfl, Nat.le_of_ble_eq_true rfl⟩ rfl hl.1 rfl (Nat.le_of_ble_eq_true rfl) dX3_isCleared_67 ⟨Nat.le_of_ble_eq_true rfl, Nat.le_of_ble_eq_true rfl⟩) (fun m_17 h H locs w => ?_)
    refine lv_goto (tgt := 82) hx hb dX3_isCleared_70 (by decide) ?_
    exact t_X3_isCleared_B82 C kv0 kv2 kv3 m_17 _ _ _ h w (lv_sub hl [0, 1, 2] rfl)
set_option maxHeartbeats 4000000 in
set_option maxRecDepth 100000 in
theorem c_X3_isCleared (l : Launch) (g : Gv) (ad : Nat → Nat) (μ : Mem) (sz : Nat) (b0 : Nat) (k0 : kd b0 = 9) (a1 : Int32) (a2 : Nat) (k2 : kd a2 = 13) {K : Int32 → Mem → Prop} (h : wp_X3_isCleared b0 a1 a2 μ K) : Met l yX3_isCleared (wX yX3_isCleared cX3_isCleared 5 (some .boolean)) rm_X3_isCleared (Pre g ad μ sz [.ref (ad b0), .int a1, .ref (ad a2)]) (PostI g ad sz K) 0 0 (Aw ad sz) := by
  refine Met.ofW (cc := cX3_isCleared) (maxL := 5) (ret := (some .boolean)) (by decide) rfl ?_
  intro p e s m args below meth c s₁ B hml hv
  obtain ⟨rfl, rfl, C, w⟩ := x_start B hml hv
  obtain ⟨hx, hb, hml, -, hts, hown, -, -, hN⟩ := id C
  have hl := lv_entry ([.ref (ad b0), .int a1, .ref (ad a2)]) (n := 5) (Nat.le_of_ble_eq_true rfl)
  rw [lg_entry_eq]
  generalize (lg_sl ([.ref (ad b0), .int a1, .ref (ad a2)]) ++ List.replicate (5 - (lg_sl ([.ref (ad b0), .int a1, .ref (ad a2)])).length) Slot.unset).toArray = ls at hl ⊢
  have hl : lv_has ls 5 [(0, .ref (ad b0)), (1, .int a1), (2, .ref (ad a2))] := hl
  show W p l e rm_X3_isCleared s m _ below meth c s.heap [] 0 0 _ _
  unfold wp_X3_isCleared at h
  refine lv_aload_n hx hb dX3_isCleared_0 rfl (lv_at hl 2 rfl) ?_
  refine x_getP C w (i := a2) (k := 8) k2 (by decide) mf_Staircase_109 dX3_isCleared_1 ?_
  refine lv_aload_n hx hb dX3_isCleared_4 rfl (lv_at hl 0 rfl) ?_
  refine x_getS C w (i := b0) (k := 0) (v := .ref (ad (b0 + 1))) k0 (by decide) rfl mf_Staircase_13 dX3_isCleared_5 ?_
  refine lv_iconst (v := 2) hx hb dX3_isCleared_8 (by decide) ?_
  refine x_iald C w (i := (b0 + 1)) (K := 10) (j := 2) (n := 3) (jn := 2) rfl (kS1 k0) (by decide) rfl (show vp_in 2 3 from vp_lit (by decide) (by decide)) dX3_isCleared_9 ?_
  refine lv_icmp_ge (tgt := 15) hx hb dX3_isCleared_10 (by decide) (fun c_1 => ?_) (fun c_1 => ?_)
  · have h := h.1 c_1
    refine lv_aload_n hx hb dX3_isCleared_15 rfl (lv_at hl 0 rfl) ?_
    refine lv_iload_n hx hb dX3_isCleared_16 rfl (lv_at hl 1 rfl) ?_
    refine lv_aload_n hx hb dX3_isCleared_17 rfl (lv_at hl 2 rfl) ?_
    refine x_callr C w (x_runV (i := b0) (As := [.int a1, .ref (ad a2)]) (rest := []) C w k0 (by decide) (ci := 3) rfl rfl rfl me_X3_yielderOn ml_Staircase_112 (c_X3_yielderOn l g ad μ _ b0 k0 a1 a2 k2 h) ⟨rfl, rfl⟩ ⟨Nat.le_of_ble_eq_true rfl, Nat.le_of_ble_eq_true rfl⟩ rfl hl.1 rfl (Nat.le_of_ble_eq_true rfl) dX3_isCleared_18 ⟨Nat.le_of_ble_eq_true rfl, Nat.le_of_ble_eq_true rfl⟩) (fun r_3 m_2 k_4 h H locs w => ?_)
    refine x_astore_nR (lv' := [(3, va_re ad r_3), (0, .ref (ad b0)), (1, .int a1), (2, .ref (ad a2))]) hx hb dX3_isCleared_21 rfl hl (by decide) rfl (fun ls hl => ?_)
    refine x_aload_nR hx hb dX3_isCleared_22 rfl (lv_at hl 0 rfl) ?_
    refine x_ifnonnullR (tgt := 28) hx hb dX3_isCleared_23 (by decide) (fun q_5 e_6 => ?_) (fun e_6 => ?_)
    · have h_e_6 := h.2 q_5 e_6
      have w_e_6 := w
      have hl_e_6 := hl
      subst e_6
      have h := h_e_6
      have w := w_e_6
      have hl := hl_e_6
      refine lv_aload_n hx hb dX3_isCleared_28 rfl (lv_at hl 0 rfl) ?_
      refine x_calli C w (x_runV (i := q_5) (As := []) (rest := []) C w (k_4 _ rfl) (by decide) (ci := 2) rfl rfl rfl me_X2_stepBehind ml_Staircase_116 (c_X2_stepBehind l g ad m_2 _ q_5 (k_4 _ rfl) h) ⟨rfl, rfl⟩ ⟨Nat.le_of_ble_eq_true rfl, Nat.le_of_ble_eq_true rfl⟩ rfl hl.1 rfl (Nat.le_of_ble_eq_true rfl) dX3_isCleared_29 ⟨Nat.le_of_ble_eq_true rfl, Nat.le_of_ble_eq_true rfl⟩) (fun r_8 m_7 h H locs w => ?_)
      refine lv_istore (lv' := [(4, .int r_8), (3, .ref (ad q_5)), (0, .ref (ad b0)), (1, .int a1), (2, .ref (ad a2))]) hx hb dX3_isCleared_32 hl (by decide) rfl (fun ls hl => ?_)
      refine lv_iload hx hb dX3_isCleared_34 (lv_at hl 0 rfl) ?_
      refine x_calli C w (x_runSN (host := "StairBows") (As := [.int r_8]) (rest := []) C w me_X4_isStep hN (c_X4_isStep l g ad m_7 _ r_8 h) ⟨rfl, rfl⟩ ⟨Nat.le_of_ble_eq_true rfl, Nat.le_of_ble_eq_true rfl⟩ rfl hl.1 rfl (Nat.le_of_ble_eq_true rfl) dX3_isCleared_36 ⟨Nat.le_of_ble_eq_true rfl, Nat.le_of_ble_eq_true rfl⟩) (fun r_10 m_9 h H locs w => ?_)
      refine lv_if_eq (tgt := 53) hx hb dX3_isCleared_39 (by decide) (fun c_11 => ?_) (fun c_11 => ?_)
      · have h := h.1 c_11
        exact t_X3_isCleared_B53 C k0 k2 (k_4 _ rfl) m_9 _ _ _ h w (lv_sub hl [2, 4, 1, 0] rfl)
      · have h := h.2 c_11
        refine lv_aload_n hx hb dX3_isCleared_42 rfl (lv_at hl 2 rfl) ?_
        refine lv_iload hx hb dX3_isCleared_43 (lv_at hl 0 rfl) ?_
        refine x_calli C w (x_runV (i := b0) (As := [.int r_8]) (rest := []) C w k0 (by decide) (ci := 3) rfl rfl rfl me_X3_roomOn ml_Staircase_99 (c_X3_roomOn l g ad m_9 _ b0 k0 r_8 h) ⟨rfl, rfl⟩ ⟨Nat.le_of_ble_eq_true rfl, Nat.le_of_ble_eq_true rfl⟩ rfl hl.1 rfl (Nat.le_of_ble_eq_true rfl) dX3_isCleared_45 ⟨Nat.le_of_ble_eq_true rfl, Nat.le_of_ble_eq_true rfl⟩) (fun r_19 m_18 h H locs w => ?_)
        refine lv_if_gt (tgt := 53) hx hb dX3_isCleared_48 (by decide) (fun c_20 => ?_) (fun c_20 => ?_)
        · have h := h.1 c_20
          exact t_X3_isCleared_B53 C k0 k2 (k_4 _ rfl) m_18 _ _ _ h w (lv_sub hl [2, 4, 1, 0] rfl)
        · have h := h.2 c_20
          refine lv_iconst (v := 0) hx hb dX3_isCleared_51 (by decide) ?_
          exact x_zret C w (show bz 0 from Or.inl rfl) h dX3_isCleared_52
    · have h_e_6 := h.1 e_6
      have w_e_6 := w
      have hl_e_6 := hl
      subst e_6
      have h := h_e_6
      have w := w_e_6
      have hl := hl_e_6
      refine lv_iconst (v := 0) hx hb dX3_isCleared_26 (by decide) ?_
      exact x_zret C w (show bz 0 from Or.inl rfl) h dX3_isCleared_27
  · have h := h.2 c_1
    refine lv_iconst (v := 0) hx hb dX3_isCleared_13 (by decide) ?_
    exact x_zret C w (show bz 0 from Or.inl rfl) h dX3_isCleared_14
abbrev rm_X3_move : Room := { frames := 4, cells := 0, slots := 0, locals := 86 }
noncomputable def wp_X3_move (b0 : Nat) (a1 : Nat) (μ : Mem) (K : Mem → Prop) : Prop :=
    (wp_X2_nextStep a1 μ (fun r_2 m_1 => (wp_X4_isStep r_2 m_1 (fun r_4 m_3 => ((¬ r_4 = 0 → (wp_X3_roomOn b0 r_2 m_3 (fun r_7 m_6 => ((0 < r_7 → (wp_X3_bring b0 a1 r_2 1 1 m_6 (fun m_9 => K m_9))) ∧ (¬ 0 < r_7 → (wp_X3_isCleared b0 r_2 a1 m_6 (fun r_11 m_10 => ((r_11 = 0 → (wp_X2_stay a1 m_10 (fun m_13 => K m_13))) ∧ (¬ r_11 = 0 → (wp_X3_bring b0 a1 r_2 1 1 m_10 (fun m_14 => K m_14))))))))))) ∧ (r_4 = 0 → (wp_X3_bring b0 a1 r_2 2 2 m_3 (fun m_15 => K m_15))))))))
set_option maxHeartbeats 4000000 in
set_option maxRecDepth 100000 in
theorem c_X3_move (l : Launch) (g : Gv) (ad : Nat → Nat) (μ : Mem) (sz : Nat) (b0 : Nat) (k0 : kd b0 = 9) (a1 : Nat) (k1 : kd a1 = 13) {K : Mem → Prop} (h : wp_X3_move b0 a1 μ K) : Met l yX3_move (wX yX3_move cX3_move 3 none) rm_X3_move (Pre g ad μ sz [.ref (ad b0), .ref (ad a1)]) (PostV g ad sz K) 0 0 (Aw ad sz) := by
  refine Met.ofW (cc := cX3_move) (maxL := 3) (ret := none) (by decide) rfl ?_
  intro p e s m args below meth c s₁ B hml hv
  obtain ⟨rfl, rfl, C, w⟩ := x_start B hml hv
  obtain ⟨hx, hb, hml, -, hts, hown, -, -, hN⟩ := id C
  have hl := lv_entry ([.ref (ad b0), .ref (ad a1)]) (n := 3) (Nat.le_of_ble_eq_true rfl)
  rw [lg_entry_eq]
  generalize (lg_sl ([.ref (ad b0), .ref (ad a1)]) ++ List.replicate (3 - (lg_sl ([.ref (ad b0), .ref (ad a1)])).length) Slot.unset).toArray = ls at hl ⊢
  have hl : lv_has ls 3 [(0, .ref (ad b0)), (1, .ref (ad a1))] := hl
  show W p l e rm_X3_move s m _ below meth c s.heap [] 0 0 _ _
  unfold wp_X3_move at h
  refine lv_aload_n hx hb dX3_move_0 rfl (lv_at hl 1 rfl) ?_
  refine x_calli C w (x_runV (i := a1) (As := []) (rest := []) C w k1 (by decide) (ci := 2) rfl rfl rfl me_X2_nextStep ml_Staircase_91 (c_X2_nextStep l g ad μ _ a1 k1 h) ⟨rfl, rfl⟩ ⟨Nat.le_of_ble_eq_true rfl, Nat.le_of_ble_eq_true rfl⟩ rfl hl.1 rfl (Nat.le_of_ble_eq_true rfl) dX3_move_1 ⟨Nat.le_of_ble_eq_true rfl, Nat.le_of_ble_eq_true rfl⟩) (fun r_2 m_1 h H locs w => ?_)
  refine lv_istore_n (lv' := [(2, .int r_2), (0, .ref (ad b0)), (1, .ref (ad a1))]) hx hb dX3_move_4 rfl hl (by decide) rfl (fun ls hl => ?_)
  refine lv_iload_n hx hb dX3_move_5 rfl (lv_at hl 0 rfl) ?_
  refine x_calli C w (x_runSN (host := "StairBows") (As := [.int r_2]) (rest := []) C w me_X4_isStep hN (c_X4_isStep l g ad m_1 _ r_2 h) ⟨rfl, rfl⟩ ⟨Nat.le_of_ble_eq_true rfl, Nat.le_of_ble_eq_true rfl⟩ rfl hl.1 rfl (Nat.le_of_ble_eq_true rfl) dX3_move_6 ⟨Nat.le_of_ble_eq_true rfl, Nat.le_of_ble_eq_true rfl⟩) (fun r_4 m_3 h H locs w => ?_)
  refine lv_if_ne (tgt := 23) hx hb dX3_move_9 (by decide) (fun c_5 => ?_) (fun c_5 => ?_)
  · have h := h.1 c_5
    refine lv_aload_n hx hb dX3_move_23 rfl (lv_at hl 1 rfl) ?_
    refine lv_iload_n hx hb dX3_move_24 rfl (lv_at hl 0 rfl) ?_
    refine x_calli C w (x_runV (i := b0) (As := [.int r_2]) (rest := []) C w k0 (by decide) (ci := 3) rfl rfl rfl me_X3_roomOn ml_Staircase_99 (c_X3_roomOn l g ad m_3 _ b0 k0 r_2 h) ⟨rfl, rfl⟩ ⟨Nat.le_of_ble_eq_true rfl, Nat.le_of_ble_eq_true rfl⟩ rfl hl.1 rfl (Nat.le_of_ble_eq_true rfl) dX3_move_25 ⟨Nat.le_of_ble_eq_true rfl, Nat.le_of_ble_eq_true rfl⟩) (fun r_7 m_6 h H locs w => ?_)
    refine lv_if_gt (tgt := 40) hx hb dX3_move_28 (by decide) (fun c_8 => ?_) (fun c_8 => ?_)
    · have h := h.1 c_8
      refine lv_aload_n hx hb dX3_move_40 rfl (lv_at hl 1 rfl) ?_
      refine lv_aload_n hx hb dX3_move_41 rfl (lv_at hl 2 rfl) ?_
      refine lv_iload_n hx hb dX3_move_42 rfl (lv_at hl 0 rfl) ?_
      refine lv_iconst (v := 1) hx hb dX3_move_43 (by decide) ?_
      refine lv_iconst (v := 1) hx hb dX3_move_44 (by decide) ?_
      refine x_callv C w (x_runV (i := b0) (As := [.ref (ad a1), .int r_2, .int 1, .int 1]) (rest := []) C w k0 (by decide) (ci := 3) rfl rfl rfl me_X3_bring ml_Staircase_95 (c_X3_bring l g ad m_6 _ b0 k0 a1 k1 r_2 1 1 h) ⟨rfl, rfl⟩ ⟨Nat.le_of_ble_eq_true rfl, Nat.le_of_ble_eq_true rfl⟩ rfl hl.1 rfl (Nat.le_of_ble_eq_true rfl) dX3_move_45 ⟨Nat.le_of_ble_eq_true rfl, Nat.le_of_ble_eq_true rfl⟩) (fun m_9 h H locs w => ?_)
      refine lv_goto (tgt := 55) hx hb dX3_move_48 (by decide) ?_
      exact x_vret C w h dX3_move_55
    · have h := h.2 c_8
      refine lv_aload_n hx hb dX3_move_31 rfl (lv_at hl 1 rfl) ?_
      refine lv_iload_n hx hb dX3_move_32 rfl (lv_at hl 0 rfl) ?_
      refine lv_aload_n hx hb dX3_move_33 rfl (lv_at hl 2 rfl) ?_
      refine x_calli C w (x_runV (i := b0) (As := [.int r_2, .ref (ad a1)]) (rest := []) C w k0 (by decide) (ci := 3) rfl rfl rfl me_X3_isCleared ml_Staircase_102 (c_X3_isCleared l g ad m_6 _ b0 k0 r_2 a1 k1 h) ⟨rfl, rfl⟩ ⟨Nat.le_of_ble_eq_true rfl, Nat.le_of_ble_eq_true rfl⟩ rfl hl.1 rfl (Nat.le_of_ble_eq_true rfl) dX3_move_34 ⟨Nat.le_of_ble_eq_true rfl, Nat.le_of_ble_eq_true rfl⟩) (fun r_11 m_10 h H locs w => ?_)
      refine lv_if_eq (tgt := 51) hx hb dX3_move_37 (by decide) (fun c_12 => ?_) (fun c_12 => ?_)
      · have h := h.1 c_12
        refine lv_aload_n hx hb dX3_move_51 rfl (lv_at hl 2 rfl) ?_
        refine x_callv C w (x_runV (i := a1) (As := []) (rest := []) C w k1 (by decide) (ci := 2) rfl rfl rfl me_X2_stay ml_Staircase_106 (c_X2_stay l g ad m_10 _ a1 k1 h) ⟨rfl, rfl⟩ ⟨Nat.le_of_ble_eq_true rfl, Nat.le_of_ble_eq_true rfl⟩ rfl hl.1 rfl (Nat.le_of_ble_eq_true rfl) dX3_move_52 ⟨Nat.le_of_ble_eq_true rfl, Nat.le_of_ble_eq_true rfl⟩) (fun m_13 h H locs w => ?_)
        exact x_vret C w h dX3_move_55
      · have h := h.2 c_12
        refine lv_aload_n hx hb dX3_move_40 rfl (lv_at hl 1 rfl) ?_
        refine lv_aload_n hx hb dX3_move_41 rfl (lv_at hl 2 rfl) ?_
        refine lv_iload_n hx hb dX3_move_42 rfl (lv_at hl 0 rfl) ?_
        refine lv_iconst (v := 1) hx hb dX3_move_43 (by decide) ?_
        refine lv_iconst (v := 1) hx hb dX3_move_44 (by decide) ?_
        refine x_callv C w (x_runV (i := b0) (As := [.ref (ad a1), .int r_2, .int 1, .int 1]) (rest := []) C w k0 (by decide) (ci := 3) rfl rfl rfl me_X3_bring ml_Staircase_95 (c_X3_bring l g ad m_10 _ b0 k0 a1 k1 r_2 1 1 h) ⟨rfl, rfl⟩ ⟨Nat.le_of_ble_eq_true rfl, Nat.le_of_ble_eq_true rfl⟩ rfl hl.1 rfl (Nat.le_of_ble_eq_true rfl) dX3_move_45 ⟨Nat.le_of_ble_eq_true rfl, Nat.le_of_ble_eq_true rfl⟩) (fun m_14 h H locs w => ?_)
        refine lv_goto (tgt := 55) hx hb dX3_move_48 (by decide) ?_
        exact x_vret C w h dX3_move_55
  · have h := h.2 c_5
    refine lv_aload_n hx hb dX3_move_12 rfl (lv_at hl 1 rfl) ?_
    refine lv_aload_n hx hb dX3_move_13 rfl (lv_at hl 2 rfl) ?_
    refine lv_iload_n hx hb dX3_move_14 rfl (lv_at hl 0 rfl) ?_
    refine lv_iconst (v := 2) hx hb dX3_move_15 (by decide) ?_
    refine lv_iconst (v := 2) hx hb dX3_move_16 (by decide) ?_
    refine x_callv C w (x_runV (i := b0) (As := [.ref (ad a1), .int r_2, .int 2, .int 2]) (rest := []) C w k0 (by decide) (ci := 3) rfl rfl rfl me_X3_bring ml_Staircase_95 (c_X3_bring l g ad m_3 _ b0 k0 a1 k1 r_2 2 2 h) ⟨rfl, rfl⟩ ⟨Nat.le_of_ble_eq_true rfl, Nat.le_of_ble_eq_true rfl⟩ rfl hl.1 rfl (Nat.le_of_ble_eq_true rfl) dX3_move_17 ⟨Nat.le_of_ble_eq_true rfl, Nat.le_of_ble_eq_true rfl⟩) (fun m_15 h H locs w => ?_)
    refine lv_goto (tgt := 55) hx hb dX3_move_20 (by decide) ?_
    exact x_vret C w h dX3_move_55
abbrev rm_X3_tick : Room := { frames := 5, cells := 0, slots := 0, locals := 108 }
noncomputable def wp_X3_tick_L36 (v0 : Nat) (v1 : Int32) (K : Mem → Prop) (E29 : Int32 → Mem → Prop) (n : Nat) : Int32 → Mem → Prop :=
  Nat.rec (motive := fun _ => Int32 → Mem → Prop) (fun _ _ => False) (fun _ ih v2 μ =>
    (((μ v0 4) ≤ v2 → E29 (v1 + (-1)) μ) ∧ (¬ (μ v0 4) ≤ v2 → (vp_in v2 24 ∧ ((¬ (μ ((v0 + 2) + 2 + v2.toNatClampNeg) 0) = v1 → ih (v2 + 1) μ) ∧ ((μ ((v0 + 2) + 2 + v2.toNatClampNeg) 0) = v1 → (wp_X2_isOnWay ((v0 + 2) + 2 + v2.toNatClampNeg) μ (fun r_9 m_8 => ((r_9 = 0 → ih (v2 + 1) m_8) ∧ (¬ r_9 = 0 → (((m_8 ((v0 + 2) + 2 + v2.toNatClampNeg) 9) = 4 → ih (v2 + 1) m_8) ∧ (¬ (m_8 ((v0 + 2) + 2 + v2.toNatClampNeg) 9) = 4 → (wp_X3_move v0 ((v0 + 2) + 2 + v2.toNatClampNeg) m_8 (fun m_12 => ih (v2 + 1) m_12)))))))))))))) n
theorem wp_X3_tick_L36_s (v0 : Nat) (v1 : Int32) (K : Mem → Prop) (E29 : Int32 → Mem → Prop) (n : Nat) (v2 : Int32) (μ : Mem) : wp_X3_tick_L36 v0 v1 K E29 (n + 1) v2 μ = (
    let ih := wp_X3_tick_L36 v0 v1 K E29 n
    (((μ v0 4) ≤ v2 → E29 (v1 + (-1)) μ) ∧ (¬ (μ v0 4) ≤ v2 → (vp_in v2 24 ∧ ((¬ (μ ((v0 + 2) + 2 + v2.toNatClampNeg) 0) = v1 → ih (v2 + 1) μ) ∧ ((μ ((v0 + 2) + 2 + v2.toNatClampNeg) 0) = v1 → (wp_X2_isOnWay ((v0 + 2) + 2 + v2.toNatClampNeg) μ (fun r_9 m_8 => ((r_9 = 0 → ih (v2 + 1) m_8) ∧ (¬ r_9 = 0 → (((m_8 ((v0 + 2) + 2 + v2.toNatClampNeg) 9) = 4 → ih (v2 + 1) m_8) ∧ (¬ (m_8 ((v0 + 2) + 2 + v2.toNatClampNeg) 9) = 4 → (wp_X3_move v0 ((v0 + 2) + 2 + v2.toNatClampNeg) m_8 (fun m_12 => ih (v2 + 1) m_12)))))))))))))) := rfl
noncomputable def wp_X3_tick_L29 (v0 : Nat) (K : Mem → Prop) (n : Nat) : Int32 → Mem → Prop :=
  Nat.rec (motive := fun _ => Int32 → Mem → Prop) (fun _ _ => False) (fun _ ih v1 μ =>
    ((v1 < 1 → (∀ m_3, m_3 = up2 μ v0 5 ((μ v0 5) + 1) → K m_3)) ∧ (¬ v1 < 1 → (∃ n, wp_X3_tick_L36 v0 v1 K ih n 0 μ)))) n
theorem wp_X3_tick_L29_s (v0 : Nat) (K : Mem → Prop) (n : Nat) (v1 : Int32) (μ : Mem) : wp_X3_tick_L29 v0 K (n + 1) v1 μ = (
    let ih := wp_X3_tick_L29 v0 K n
    ((v1 < 1 → (∀ m_3, m_3 = up2 μ v0 5 ((μ v0 5) + 1) → K m_3)) ∧ (¬ v1 < 1 → (∃ n, wp_X3_tick_L36 v0 v1 K ih n 0 μ)))) := rfl
noncomputable def wp_X3_tick_L2 (v0 : Nat) (K : Mem → Prop) (n : Nat) : Int32 → Mem → Prop :=
  Nat.rec (motive := fun _ => Int32 → Mem → Prop) (fun _ _ => False) (fun _ ih v1 μ =>
    (((μ v0 4) ≤ v1 → (∃ n, wp_X3_tick_L29 v0 K n 9 μ)) ∧ (¬ (μ v0 4) ≤ v1 → (vp_in v1 24 ∧ (∀ m_16, m_16 = up2 μ ((v0 + 2) + 2 + v1.toNatClampNeg) 9 0 → ih (v1 + 1) m_16))))) n
theorem wp_X3_tick_L2_s (v0 : Nat) (K : Mem → Prop) (n : Nat) (v1 : Int32) (μ : Mem) : wp_X3_tick_L2 v0 K (n + 1) v1 μ = (
    let ih := wp_X3_tick_L2 v0 K n
    (((μ v0 4) ≤ v1 → (∃ n, wp_X3_tick_L29 v0 K n 9 μ)) ∧ (¬ (μ v0 4) ≤ v1 → (vp_in v1 24 ∧ (∀ m_16, m_16 = up2 μ ((v0 + 2) + 2 + v1.toNatClampNeg) 9 0 → ih (v1 + 1) m_16))))) := rfl
noncomputable def wp_X3_tick (b0 : Nat) (μ : Mem) (K : Mem → Prop) : Prop :=
    (∃ n, wp_X3_tick_L2 b0 K n 0 μ)
set_option maxHeartbeats 4000000 in
set_option maxRecDepth 100000 in
theorem t_X3_tick_L36 {g : Gv} {ad : Nat → Nat} {l : Launch} {p : Program} {e : Env} {s : State} {m : MethodId} {args : Array Value} {below : List Frame} {meth : Method} {c : Code} (C : Cx g p s m args meth c "StairBows$Staircase" cX3_tick 4 none) {v0 : Nat} {v1 : Int32}  {K : Mem → Prop} {E29 : Int32 → Mem → Prop} (kv0 : kd v0 = 9) (hE29 : ∀ (v1 : Int32) (μ : Mem) (H : Heap) (locs : List Loc) (ls : Array Slot), E29 v1 μ → Wd g ad μ (Aw ad s.heap.size) s H locs → lv_has ls 4 [(0, .ref (ad v0)), (1, .int v1)] → W p l e rm_X3_tick s m args below meth c H locs 0 0 (MQ below (PostV g ad s.heap.size K) args s 0 0 (Aw ad s.heap.size)) (F0 m 29 ls [])) : ∀ (n : Nat) (v2 : Int32) (μ : Mem) (H : Heap) (locs : List Loc) (ls : Array Slot), wp_X3_tick_L36 v0 v1 K E29 n v2 μ → Wd g ad μ (Aw ad s.heap.size) s H locs → lv_has ls 4 [(0, .ref (ad v0)), (1, .int v1), (2, .int v2)] → W p l e rm_X3_tick s m args below meth c H locs 0 0 (MQ below (PostV g ad s.heap.size K) args s 0 0 (Aw ad s.heap.size)) (F0 m 36 ls []) := by
  obtain ⟨hx, hb, hml, -, hts, hown, -, -, hN⟩ := id C
  intro n
  induction n with
  | zero =>
    intro v2 μ H locs ls h w hl
    exact (show False from h).elim
  | succ n ih =>
    intro v2 μ H locs ls h w hl
    rw [wp_X3_tick_L36_s] at h
    dsimp only at h
    refine lv_iload_n hx hb dX3_tick_36 rfl (lv_at hl 2 rfl) ?_
    refine lv_aload_n hx hb dX3_tick_37 rfl (lv_at hl 0 rfl) ?_
    refine x_getS C w (i := v0) (k := 4) (v := .int (μ v0 4)) kv0 (by decide) rfl mf_Staircase_38 dX3_tick_38 ?_
    refine lv_icmp_ge (tgt := 85) hx hb dX3_tick_41 (by decide) (fun c_5 => ?_) (fun c_5 => ?_)
    · have h := h.1 c_5
      refine lv_iinc (v := (v1 + (-1))) (lv' := [(1, .int (v1 + (-1))), (0, .ref (ad v0)), (2, .int v2)]) hx hb dX3_tick_85 hl (k := 1) rfl rfl (by decide) rfl (fun ls hl => ?_)
      refine lv_goto (tgt := 29) hx hb dX3_tick_88 (by decide) ?_
      exact hE29 (v1 + (-1)) μ _ _ _ h w (lv_sub hl [1, 0] rfl)
    · have h := h.2 c_5
      refine lv_aload_n hx hb dX3_tick_44 rfl (lv_at hl 0 rfl) ?_
      refine x_getS C w (i := v0) (k := 1) (v := .ref (ad (v0 + 2))) kv0 (by decide) rfl mf_Staircase_20 dX3_tick_45 ?_
      refine lv_iload_n hx hb dX3_tick_48 rfl (lv_at hl 2 rfl) ?_
      have hi := h.1
      have h := h.2
      refine x_aldP C w (kS2 kv0) hi dX3_tick_49 ?_
      have k_6 := kSP (kS2 kv0) hi
      refine lv_astore_n (lv' := [(3, .ref (ad ((v0 + 2) + 2 + v2.toNatClampNeg))), (0, .ref (ad v0)), (1, .int v1), (2, .int v2)]) hx hb dX3_tick_50 rfl hl (by decide) rfl (fun ls hl => ?_)
      refine lv_aload_n hx hb dX3_tick_51 rfl (lv_at hl 0 rfl) ?_
      refine x_getP C w (i := ((v0 + 2) + 2 + v2.toNatClampNeg)) (k := 0) k_6 (by decide) mf_Staircase_72 dX3_tick_52 ?_
      refine lv_iload_n hx hb dX3_tick_55 rfl (lv_at hl 2 rfl) ?_
      refine lv_icmp_ne (tgt := 79) hx hb dX3_tick_56 (by decide) (fun c_7 => ?_) (fun c_7 => ?_)
      · have h := h.1 c_7
        refine lv_iinc (v := (v2 + 1)) (lv' := [(2, .int (v2 + 1)), (3, .ref (ad ((v0 + 2) + 2 + v2.toNatClampNeg))), (0, .ref (ad v0)), (1, .int v1)]) hx hb dX3_tick_79 hl (k := 3) rfl rfl (by decide) rfl (fun ls hl => ?_)
        refine lv_goto (tgt := 36) hx hb dX3_tick_82 (by decide) ?_
        exact ih (v2 + 1) μ _ _ _ h w (lv_sub hl [2, 3, 0] rfl)
      · have h := h.2 c_7
        refine lv_aload_n hx hb dX3_tick_59 rfl (lv_at hl 0 rfl) ?_
        refine x_calli C w (x_runV (i := ((v0 + 2) + 2 + v2.toNatClampNeg)) (As := []) (rest := []) C w k_6 (by decide) (ci := 2) rfl rfl rfl me_X2_isOnWay ml_Staircase_81 (c_X2_isOnWay l g ad μ _ ((v0 + 2) + 2 + v2.toNatClampNeg) k_6 h) ⟨rfl, rfl⟩ ⟨Nat.le_of_ble_eq_true rfl, Nat.le_of_ble_eq_true rfl⟩ rfl hl.1 rfl (Nat.le_of_ble_eq_true rfl) dX3_tick_60 ⟨Nat.le_of_ble_eq_true rfl, Nat.le_of_ble_eq_true rfl⟩) (fun r_9 m_8 h H locs w => ?_)
        refine lv_if_eq (tgt := 79) hx hb dX3_tick_63 (by decide) (fun c_10 => ?_) (fun c_10 => ?_)
        · have h := h.1 c_10
          refine lv_iinc (v := (v2 + 1)) (lv' := [(2, .int (v2 + 1)), (3, .ref (ad ((v0 + 2) + 2 + v2.toNatClampNeg))), (0, .ref (ad v0)), (1, .int v1)]) hx hb dX3_tick_79 hl (k := 3) rfl rfl (by decide) rfl (fun ls hl => ?_)
          refine lv_goto (tgt := 36) hx hb dX3_tick_82 (by decide) ?_
          exact ih (v2 + 1) m_8 _ _ _ h w (lv_sub hl [2, 3, 0] rfl)
        · have h := h.2 c_10
          refine lv_aload_n hx hb dX3_tick_66 rfl (lv_at hl 0 rfl) ?_
          refine x_getP C w (i := ((v0 + 2) + 2 + v2.toNatClampNeg)) (k := 9) k_6 (by decide) mf_Staircase_85 dX3_tick_67 ?_
          refine lv_iconst (v := 4) hx hb dX3_tick_70 (by decide) ?_
          refine lv_icmp_eq (tgt := 79) hx hb dX3_tick_71 (by decide) (fun c_11 => ?_) (fun c_11 => ?_)
          · have h := h.1 c_11
            refine lv_iinc (v := (v2 + 1)) (lv' := [(2, .int (v2 + 1)), (3, .ref (ad ((v0 + 2) + 2 + v2.toNatClampNeg))), (0, .ref (ad v0)), (1, .int v1)]) hx hb dX3_tick_79 hl (k := 3) rfl rfl (by decide) rfl (fun ls hl => ?_)
            refine lv_goto (tgt := 36) hx hb dX3_tick_82 (by decide) ?_
            exact ih (v2 + 1) m_8 _ _ _ h w (lv_sub hl [2, 3, 0] rfl)
          · have h := h.2 c_11
            refine lv_aload_n hx hb dX3_tick_74 rfl (lv_at hl 1 rfl) ?_
            refine lv_aload_n hx hb dX3_tick_75 rfl (lv_at hl 0 rfl) ?_
            refine x_callv C w (x_runV (i := v0) (As := [.ref (ad ((v0 + 2) + 2 + v2.toNatClampNeg))]) (rest := []) C w kv0 (by decide) (ci := 3) rfl rfl rfl me_X3_move ml_Staircase_88 (c_X3_move l g ad m_8 _ v0 kv0 ((v0 + 2) + 2 + v2.toNatClampNeg) k_6 h) ⟨rfl, rfl⟩ ⟨Nat.le_of_ble_eq_true rfl, Nat.le_of_ble_eq_true rfl⟩ rfl hl.1 rfl (Nat.le_of_ble_eq_true rfl) dX3_tick_76 ⟨Nat.le_of_ble_eq_true rfl, Nat.le_of_ble_eq_true rfl⟩) (fun m_12 h H locs w => ?_)
            refine lv_iinc (v := (v2 + 1)) (lv' := [(2, .int (v2 + 1)), (3, .ref (ad ((v0 + 2) + 2 + v2.toNatClampNeg))), (0, .ref (ad v0)), (1, .int v1)]) hx hb dX3_tick_79 hl (k := 3) rfl rfl (by decide) rfl (fun ls hl => ?_)
            refine lv_goto (tgt := 36) hx hb dX3_tick_82 (by decide) ?_
            exact ih (v2 + 1) m_12 _ _ _ h w (lv_sub hl [2, 3, 0] rfl)
set_option maxHeartbeats 4000000 in
set_option maxRecDepth 100000 in
theorem t_X3_tick_L29 {g : Gv} {ad : Nat → Nat} {l : Launch} {p : Program} {e : Env} {s : State} {m : MethodId} {args : Array Value} {below : List Frame} {meth : Method} {c : Code} (C : Cx g p s m args meth c "StairBows$Staircase" cX3_tick 4 none) {v0 : Nat}  {K : Mem → Prop}  (kv0 : kd v0 = 9)  : ∀ (n : Nat) (v1 : Int32) (μ : Mem) (H : Heap) (locs : List Loc) (ls : Array Slot), wp_X3_tick_L29 v0 K n v1 μ → Wd g ad μ (Aw ad s.heap.size) s H locs → lv_has ls 4 [(0, .ref (ad v0)), (1, .int v1)] → W p l e rm_X3_tick s m args below meth c H locs 0 0 (MQ below (PostV g ad s.heap.size K) args s 0 0 (Aw ad s.heap.size)) (F0 m 29 ls []) := by
  obtain ⟨hx, hb, hml, -, hts, hown, -, -, hN⟩ := id C
  intro n
  induction n with
  | zero =>
    intro v1 μ H locs ls h w hl
    exact (show False from h).elim
  | succ n ih =>
    intro v1 μ H locs ls h w hl
    rw [wp_X3_tick_L29_s] at h
    dsimp only at h
    refine lv_iload_n hx hb dX3_tick_29 rfl (lv_at hl 1 rfl) ?_
    refine lv_iconst (v := 1) hx hb dX3_tick_30 (by decide) ?_
    refine lv_icmp_lt (tgt := 91) hx hb dX3_tick_31 (by decide) (fun c_2 => ?_) (fun c_2 => ?_)
    · have h := h.1 c_2
      refine lv_aload_n hx hb dX3_tick_91 rfl (lv_at hl 0 rfl) ?_
      refine lv_dup hx hb dX3_tick_92 rfl ?_
      refine x_getS C w (i := v0) (k := 5) (v := .int (μ v0 5)) kv0 (by decide) rfl mf_Staircase_41 dX3_tick_93 ?_
      refine lv_iconst (v := 1) hx hb dX3_tick_96 (by decide) ?_
      refine lv_iadd hx hb dX3_tick_97 ?_
      refine x_putS C w (i := v0) (k := 5) kv0 (by decide) rfl mf_Staircase_41 rfl rfl dX3_tick_98 (fun m_3 e_4 H locs w => ?_)
      have h := h m_3 e_4
      exact x_vret C w h dX3_tick_101
    · have h := h.2 c_2
      refine lv_iconst (v := 0) hx hb dX3_tick_34 (by decide) ?_
      refine lv_istore_n (lv' := [(2, .int 0), (0, .ref (ad v0)), (1, .int v1)]) hx hb dX3_tick_35 rfl hl (by decide) rfl (fun ls hl => ?_)
      obtain ⟨n_13, h⟩ := h
      exact t_X3_tick_L36 C kv0 ih n_13 0 μ _ _ _ h w (lv_sub hl [1, 2, 0] rfl)
set_option maxHeartbeats 4000000 in
set_option maxRecDepth 100000 in
theorem t_X3_tick_L2 {g : Gv} {ad : Nat → Nat} {l : Launch} {p : Program} {e : Env} {s : State} {m : MethodId} {args : Array Value} {below : List Frame} {meth : Method} {c : Code} (C : Cx g p s m args meth c "StairBows$Staircase" cX3_tick 4 none) {v0 : Nat}  {K : Mem → Prop}  (kv0 : kd v0 = 9)  : ∀ (n : Nat) (v1 : Int32) (μ : Mem) (H : Heap) (locs : List Loc) (ls : Array Slot), wp_X3_tick_L2 v0 K n v1 μ → Wd g ad μ (Aw ad s.heap.size) s H locs → lv_has ls 4 [(0, .ref (ad v0)), (1, .int v1)] → W p l e rm_X3_tick s m args below meth c H locs 0 0 (MQ below (PostV g ad s.heap.size K) args s 0 0 (Aw ad s.heap.size)) (F0 m 2 ls []) := by
  obtain ⟨hx, hb, hml, -, hts, hown, -, -, hN⟩ := id C
  intro n
  induction n with
  | zero =>
    intro v1 μ H locs ls h w hl
    exact (show False from h).elim
  | succ n ih =>
    intro v1 μ H locs ls h w hl
    rw [wp_X3_tick_L2_s] at h
    dsimp only at h
    refine lv_iload_n hx hb dX3_tick_2 rfl (lv_at hl 1 rfl) ?_
    refine lv_aload_n hx hb dX3_tick_3 rfl (lv_at hl 0 rfl) ?_
    refine x_getS C w (i := v0) (k := 4) (v := .int (μ v0 4)) kv0 (by decide) rfl mf_Staircase_38 dX3_tick_4 ?_
    refine lv_icmp_ge (tgt := 26) hx hb dX3_tick_7 (by decide) (fun c_1 => ?_) (fun c_1 => ?_)
    · have h := h.1 c_1
      refine lv_bipush (v := 9) hx hb dX3_tick_26 (by decide) ?_
      refine lv_istore_n (lv' := [(1, .int 9), (0, .ref (ad v0))]) hx hb dX3_tick_28 rfl hl (by decide) rfl (fun ls hl => ?_)
      obtain ⟨n_14, h⟩ := h
      exact t_X3_tick_L29 C kv0 n_14 9 μ _ _ _ h w (lv_sub hl [1, 0] rfl)
    · have h := h.2 c_1
      refine lv_aload_n hx hb dX3_tick_10 rfl (lv_at hl 0 rfl) ?_
      refine x_getS C w (i := v0) (k := 1) (v := .ref (ad (v0 + 2))) kv0 (by decide) rfl mf_Staircase_20 dX3_tick_11 ?_
      refine lv_iload_n hx hb dX3_tick_14 rfl (lv_at hl 1 rfl) ?_
      have hi := h.1
      have h := h.2
      refine x_aldP C w (kS2 kv0) hi dX3_tick_15 ?_
      have k_15 := kSP (kS2 kv0) hi
      refine lv_iconst (v := 0) hx hb dX3_tick_16 (by decide) ?_
      refine x_putP C w (i := ((v0 + 2) + 2 + v1.toNatClampNeg)) (k := 9) k_15 (by decide) mf_Staircase_85 rfl rfl rfl rfl dX3_tick_17 (fun m_16 e_17 H locs w => ?_)
      have h := h m_16 e_17
      refine lv_iinc (v := (v1 + 1)) (lv' := [(1, .int (v1 + 1)), (0, .ref (ad v0))]) hx hb dX3_tick_20 hl (k := 1) rfl rfl (by decide) rfl (fun ls hl => ?_)
      refine lv_goto (tgt := 2) hx hb dX3_tick_23 (by decide) ?_
      exact ih (v1 + 1) m_16 _ _ _ h w (lv_sub hl [1, 0] rfl)
set_option maxHeartbeats 4000000 in
set_option maxRecDepth 100000 in
theorem c_X3_tick (l : Launch) (g : Gv) (ad : Nat → Nat) (μ : Mem) (sz : Nat) (b0 : Nat) (k0 : kd b0 = 9) {K : Mem → Prop} (h : wp_X3_tick b0 μ K) : Met l yX3_tick (wX yX3_tick cX3_tick 4 none) rm_X3_tick (Pre g ad μ sz [.ref (ad b0)]) (PostV g ad sz K) 0 0 (Aw ad sz) := by
  refine Met.ofW (cc := cX3_tick) (maxL := 4) (ret := none) (by decide) rfl ?_
  intro p e s m args below meth c s₁ B hml hv
  obtain ⟨rfl, rfl, C, w⟩ := x_start B hml hv
  obtain ⟨hx, hb, hml, -, hts, hown, -, -, hN⟩ := id C
  have hl := lv_entry ([.ref (ad b0)]) (n := 4) (Nat.le_of_ble_eq_true rfl)
  rw [lg_entry_eq]
  generalize (lg_sl ([.ref (ad b0)]) ++ List.replicate (4 - (lg_sl ([.ref (ad b0)])).length) Slot.unset).toArray = ls at hl ⊢
  have hl : lv_has ls 4 [(0, .ref (ad b0))] := hl
  show W p l e rm_X3_tick s m _ below meth c s.heap [] 0 0 _ _
  unfold wp_X3_tick at h
  refine lv_iconst (v := 0) hx hb dX3_tick_0 (by decide) ?_
  refine lv_istore_n (lv' := [(1, .int 0), (0, .ref (ad b0))]) hx hb dX3_tick_1 rfl hl (by decide) rfl (fun ls hl => ?_)
  obtain ⟨n_18, h⟩ := h
  exact t_X3_tick_L2 C k0 n_18 0 μ _ _ _ h w (lv_sub hl [1, 0] rfl)

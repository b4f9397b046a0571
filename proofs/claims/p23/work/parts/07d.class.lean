/-! METHODS, by program: conditions and contracts -/
abbrev rm_X4_isSetting : Room := { frames := 0, cells := 0, slots := 0, locals := 0 }
noncomputable def wp_X4_isSetting (a0 : Int32) (μ : Mem) (K : Int32 → Mem → Prop) : Prop :=
    ((a0 < 0 → K 0 μ) ∧ (¬ a0 < 0 → ((2 < a0 → K 0 μ) ∧ (¬ 2 < a0 → K 1 μ))))
set_option maxHeartbeats 4000000 in
set_option maxRecDepth 100000 in
theorem c_X4_isSetting (l : Launch) (g : Gv) (ad : Nat → Nat) (μ : Mem) (sz : Nat) (a0 : Int32) {K : Int32 → Mem → Prop} (h : wp_X4_isSetting a0 μ K) : Met l yX4_isSetting (wX yX4_isSetting cX4_isSetting 1 (some .boolean)) rm_X4_isSetting (Pre g ad μ sz [.int a0]) (PostI g ad sz K) 0 0 (Aw ad sz) := by
  refine Met.ofW (cc := cX4_isSetting) (maxL := 1) (ret := (some .boolean)) (by decide) rfl ?_
  intro p e s m args below meth c s₁ B hml hv
  obtain ⟨rfl, rfl, C, w⟩ := x_start B hml hv
  obtain ⟨hx, hb, hml, -, hts, hown, -, -, hN⟩ := id C
  have hl := lv_entry ([.int a0]) (n := 1) (Nat.le_of_ble_eq_true rfl)
  rw [lg_entry_eq]
  generalize (lg_sl ([.int a0]) ++ List.replicate (1 - (lg_sl ([.int a0])).length) Slot.unset).toArray = ls at hl ⊢
  have hl : lv_has ls 1 [(0, .int a0)] := hl
  show W p l e rm_X4_isSetting s m _ below meth c s.heap [] 0 0 _ _
  unfold wp_X4_isSetting at h
  refine lv_iload_n hx hb dX4_isSetting_0 rfl (lv_at hl 0 rfl) ?_
  refine lv_if_lt (tgt := 13) hx hb dX4_isSetting_1 (by decide) (fun c_1 => ?_) (fun c_1 => ?_)
  · have h := h.1 c_1
    refine lv_iconst (v := 0) hx hb dX4_isSetting_13 (by decide) ?_
    exact x_zret C w (show bz 0 from Or.inl rfl) h dX4_isSetting_14
  · have h := h.2 c_1
    refine lv_iload_n hx hb dX4_isSetting_4 rfl (lv_at hl 0 rfl) ?_
    refine lv_iconst (v := 2) hx hb dX4_isSetting_5 (by decide) ?_
    refine lv_icmp_gt (tgt := 13) hx hb dX4_isSetting_6 (by decide) (fun c_2 => ?_) (fun c_2 => ?_)
    · have h := h.1 c_2
      refine lv_iconst (v := 0) hx hb dX4_isSetting_13 (by decide) ?_
      exact x_zret C w (show bz 0 from Or.inl rfl) h dX4_isSetting_14
    · have h := h.2 c_2
      refine lv_iconst (v := 1) hx hb dX4_isSetting_9 (by decide) ?_
      refine lv_goto (tgt := 14) hx hb dX4_isSetting_10 (by decide) ?_
      exact x_zret C w (show bz 1 from Or.inr rfl) h dX4_isSetting_14
abbrev rm_X4_set : Room := { frames := 3, cells := 0, slots := 0, locals := 73 }
noncomputable def wp_X4_set_B46 (v1 : Int32) (v2 : Int32) (K : Int32 → Mem → Prop) (μ : Mem) : Prop :=
    (wp_X0_keep 1 μ (fun m_7 => (vp_in v1 3 ∧ (vp_in v1 3 ∧ (∀ m_8, m_8 = up2 m_7 2 v1.toNatClampNeg v2 → K (m_7 2 v1.toNatClampNeg) m_8)))))
noncomputable def wp_X4_set (a1 : Int32) (a2 : Int32) (μ : Mem) (K : Int32 → Mem → Prop) : Prop :=
    (wp_X4_isSetting a1 μ (fun r_2 m_1 => ((r_2 = 0 → K (-2) m_1) ∧ (¬ r_2 = 0 → (vp_in a1 3 ∧ ((a2 < (leastV a1.toNatClampNeg) → K (-2) m_1) ∧ (¬ a2 < (leastV a1.toNatClampNeg) → (vp_in a1 3 ∧ ((a2 ≤ (greatV a1.toNatClampNeg) → ((¬ a1 = 0 → wp_X4_set_B46 a1 a2 K m_1) ∧ (a1 = 0 → (wp_X3_greatestCrowd 1 m_1 (fun r_11 m_10 => ((r_11 ≤ a2 → wp_X4_set_B46 a1 a2 K m_10) ∧ (¬ r_11 ≤ a2 → K (-5) m_10))))))) ∧ (¬ a2 ≤ (greatV a1.toNatClampNeg) → K (-2) m_1))))))))))
set_option maxHeartbeats 4000000 in
set_option maxRecDepth 100000 in
theorem t_X4_set_B46 {g : Gv} {ad : Nat → Nat} {l : Launch} {p : Program} {e : Env} {s : State} {m : MethodId} {args : Array Value} {below : List Frame} {meth : Method} {c : Code} (C : Cx g p s m args meth c "StairBows" cX4_set 4 (some .int)) {v1 : Int32} {v2 : Int32}  {K : Int32 → Mem → Prop}    (μ : Mem) (H : Heap) (locs : List Loc) (ls : Array Slot) (h : wp_X4_set_B46 v1 v2 K μ) (w : Wd g ad μ (Aw ad s.heap.size) s H locs) (hl : lv_has ls 4 [(0, .ref (ad 0)), (1, .int v1), (2, .int v2)]) : W p l e rm_X4_set s m args below meth c H locs 0 0 (MQ below (PostI g ad s.heap.size K) args s 0 0 (Aw ad s.heap.size)) (F0 m 46 ls []) := by
  obtain ⟨hx, hb, hml, -, hts, hown, -, -, hN⟩ := id C
  unfold wp_X4_set_B46 at h
  refine lv_aload_n hx hb dX4_set_46 rfl (lv_at hl 0 rfl) ?_
  refine x_getX C w (k := 2) (v := .ref (ad 57)) (by decide) rfl mf_StairBows_22 dX4_set_47 ?_
  refine lv_aload_n hx hb dX4_set_50 rfl (lv_at hl 0 rfl) ?_
  refine x_getX C w (k := 0) (v := .ref (ad 1)) (by decide) rfl mf_StairBows_10 dX4_set_51 ?_
  refine x_callv C w (x_runV (i := 57) (As := [.ref (ad 1)]) (rest := []) C w (rfl : kd 57 = 1) (by decide) (ci := 0) rfl rfl rfl me_X0_keep ml_StairBows_56 (c_X0_keep l g ad μ _ 1 (rfl : kd 1 = 9) h) ⟨rfl, rfl⟩ ⟨Nat.le_of_ble_eq_true rfl, Nat.le_of_ble_eq_true rfl⟩ rfl hl.1 rfl (Nat.le_of_ble_eq_true rfl) dX4_set_54 ⟨Nat.le_of_ble_eq_true rfl, Nat.le_of_ble_eq_true rfl⟩) (fun m_7 h H locs w => ?_)
  refine lv_aload_n hx hb dX4_set_57 rfl (lv_at hl 0 rfl) ?_
  refine x_getX C w (k := 0) (v := .ref (ad 1)) (by decide) rfl mf_StairBows_10 dX4_set_58 ?_
  refine x_getS C w (i := 1) (k := 0) (v := .ref (ad 2)) (rfl : kd 1 = 9) (by decide) rfl mf_StairBows_60 dX4_set_61 ?_
  refine lv_iload_n hx hb dX4_set_64 rfl (lv_at hl 1 rfl) ?_
  refine x_iald C w (i := 2) (K := 10) (j := v1) (n := 3) (jn := v1.toNatClampNeg) rfl (kS1 (rfl : kd 1 = 9)) (by decide) rfl (show vp_in v1 3 from h.1) dX4_set_65 ?_
  have h := h.2
  refine lv_istore_n (lv' := [(3, .int (m_7 2 v1.toNatClampNeg)), (0, .ref (ad 0)), (1, .int v1), (2, .int v2)]) hx hb dX4_set_66 rfl hl (by decide) rfl (fun ls hl => ?_)
  refine lv_aload_n hx hb dX4_set_67 rfl (lv_at hl 1 rfl) ?_
  refine x_getX C w (k := 0) (v := .ref (ad 1)) (by decide) rfl mf_StairBows_10 dX4_set_68 ?_
  refine x_getS C w (i := 1) (k := 0) (v := .ref (ad 2)) (rfl : kd 1 = 9) (by decide) rfl mf_StairBows_60 dX4_set_71 ?_
  refine lv_iload_n hx hb dX4_set_74 rfl (lv_at hl 2 rfl) ?_
  refine lv_iload_n hx hb dX4_set_75 rfl (lv_at hl 3 rfl) ?_
  refine x_iast C w (i := 2) (K := 10) (n := 3) (jn := v1.toNatClampNeg) rfl (kS1 (rfl : kd 1 = 9)) (by decide) (fun _ => rfl) (show vp_in v1 3 from h.1) dX4_set_76 (fun m_8 e_9 H locs w => ?_)
  have h := h.2 m_8 e_9
  refine lv_iload_n hx hb dX4_set_77 rfl (lv_at hl 0 rfl) ?_
  exact x_iret C w h dX4_set_78
set_option maxHeartbeats 4000000 in
set_option maxRecDepth 100000 in
theorem c_X4_set (l : Launch) (g : Gv) (ad : Nat → Nat) (μ : Mem) (sz : Nat) (a1 : Int32) (a2 : Int32) {K : Int32 → Mem → Prop} (h : wp_X4_set a1 a2 μ K) : Met l yX4_set (wX yX4_set cX4_set 4 (some .int)) rm_X4_set (Pre g ad μ sz [.ref (ad 0), .int a1, .int a2]) (PostI g ad sz K) 0 0 (Aw ad sz) := by
  refine Met.ofW (cc := cX4_set) (maxL := 4) (ret := (some .int)) (by decide) rfl ?_
  intro p e s m args below meth c s₁ B hml hv
  obtain ⟨rfl, rfl, C, w⟩ := x_start B hml hv
  obtain ⟨hx, hb, hml, -, hts, hown, -, -, hN⟩ := id C
  have hl := lv_entry ([.ref (ad 0), .int a1, .int a2]) (n := 4) (Nat.le_of_ble_eq_true rfl)
  rw [lg_entry_eq]
  generalize (lg_sl ([.ref (ad 0), .int a1, .int a2]) ++ List.replicate (4 - (lg_sl ([.ref (ad 0), .int a1, .int a2])).length) Slot.unset).toArray = ls at hl ⊢
  have hl : lv_has ls 4 [(0, .ref (ad 0)), (1, .int a1), (2, .int a2)] := hl
  show W p l e rm_X4_set s m _ below meth c s.heap [] 0 0 _ _
  unfold wp_X4_set at h
  refine lv_iload_n hx hb dX4_set_0 rfl (lv_at hl 1 rfl) ?_
  refine x_calli C w (x_runS (As := [.int a1]) (rest := []) C w me_X4_isSetting ml_StairBows_41 (c_X4_isSetting l g ad μ _ a1 h) ⟨rfl, rfl⟩ ⟨Nat.le_of_ble_eq_true rfl, Nat.le_of_ble_eq_true rfl⟩ rfl hl.1 rfl (Nat.le_of_ble_eq_true rfl) dX4_set_1 ⟨Nat.le_of_ble_eq_true rfl, Nat.le_of_ble_eq_true rfl⟩) (fun r_2 m_1 h H locs w => ?_)
  refine lv_if_eq (tgt := 25) hx hb dX4_set_4 (by decide) (fun c_3 => ?_) (fun c_3 => ?_)
  · have h := h.1 c_3
    refine lv_bipush (v := -2) hx hb dX4_set_25 (by decide) ?_
    exact x_iret C w h dX4_set_27
  · have h := h.2 c_3
    refine lv_iload_n hx hb dX4_set_7 rfl (lv_at hl 2 rfl) ?_
    obtain ⟨tF, tL, tG, ⟨hZF, hTF⟩, ⟨hZL, hTL⟩, ⟨hZG, hTG⟩⟩ := w.2.2.2.2
    refine va_gets hx hb hZL w.2.2.1 hown (hts _ mf_StairBows_45) (fun _ h => h) dX4_set_8 ?_
    refine lv_iload_n hx hb dX4_set_11 rfl (lv_at hl 1 rfl) ?_
    refine va_ti (v := .int (leastV a1.toNatClampNeg)) hx hb hTL w.2.2.1 h.1 rfl dX4_set_12 ?_
    have h := h.2
    refine lv_icmp_lt (tgt := 25) hx hb dX4_set_13 (by decide) (fun c_4 => ?_) (fun c_4 => ?_)
    · have h := h.1 c_4
      refine lv_bipush (v := -2) hx hb dX4_set_25 (by decide) ?_
      exact x_iret C w h dX4_set_27
    · have h := h.2 c_4
      refine lv_iload_n hx hb dX4_set_16 rfl (lv_at hl 2 rfl) ?_
      obtain ⟨tF, tL, tG, ⟨hZF, hTF⟩, ⟨hZL, hTL⟩, ⟨hZG, hTG⟩⟩ := w.2.2.2.2
      refine va_gets hx hb hZG w.2.2.1 hown (hts _ mf_StairBows_49) (fun _ h => h) dX4_set_17 ?_
      refine lv_iload_n hx hb dX4_set_20 rfl (lv_at hl 1 rfl) ?_
      refine va_ti (v := .int (greatV a1.toNatClampNeg)) hx hb hTG w.2.2.1 h.1 rfl dX4_set_21 ?_
      have h := h.2
      refine lv_icmp_le (tgt := 28) hx hb dX4_set_22 (by decide) (fun c_5 => ?_) (fun c_5 => ?_)
      · have h := h.1 c_5
        refine lv_iload_n hx hb dX4_set_28 rfl (lv_at hl 1 rfl) ?_
        refine lv_if_ne (tgt := 46) hx hb dX4_set_29 (by decide) (fun c_6 => ?_) (fun c_6 => ?_)
        · have h := h.1 c_6
          exact t_X4_set_B46 C m_1 _ _ _ h w (lv_sub hl [0, 1, 2] rfl)
        · have h := h.2 c_6
          refine lv_aload_n hx hb dX4_set_32 rfl (lv_at hl 0 rfl) ?_
          refine x_getX C w (k := 0) (v := .ref (ad 1)) (by decide) rfl mf_StairBows_10 dX4_set_33 ?_
          refine x_calli C w (x_runV (i := 1) (As := []) (rest := []) C w (rfl : kd 1 = 9) (by decide) (ci := 3) rfl rfl rfl me_X3_greatestCrowd ml_StairBows_52 (c_X3_greatestCrowd l g ad m_1 _ 1 (rfl : kd 1 = 9) h) ⟨rfl, rfl⟩ ⟨Nat.le_of_ble_eq_true rfl, Nat.le_of_ble_eq_true rfl⟩ rfl hl.1 rfl (Nat.le_of_ble_eq_true rfl) dX4_set_36 ⟨Nat.le_of_ble_eq_true rfl, Nat.le_of_ble_eq_true rfl⟩) (fun r_11 m_10 h H locs w => ?_)
          refine lv_iload_n hx hb dX4_set_39 rfl (lv_at hl 2 rfl) ?_
          refine lv_icmp_le (tgt := 46) hx hb dX4_set_40 (by decide) (fun c_12 => ?_) (fun c_12 => ?_)
          · have h := h.1 c_12
            exact t_X4_set_B46 C m_10 _ _ _ h w (lv_sub hl [0, 1, 2] rfl)
          · have h := h.2 c_12
            refine lv_bipush (v := -5) hx hb dX4_set_43 (by decide) ?_
            exact x_iret C w h dX4_set_45
      · have h := h.2 c_5
        refine lv_bipush (v := -2) hx hb dX4_set_25 (by decide) ?_
        exact x_iret C w h dX4_set_27
abbrev rm_X4_landing : Room := { frames := 3, cells := 0, slots := 0, locals := 73 }
noncomputable def wp_X4_landing (a1 : Int32) (a2 : Int32) (μ : Mem) (K : Int32 → Mem → Prop) : Prop :=
    (wp_X4_isStep a1 μ (fun r_2 m_1 => ((¬ r_2 = 0 → (wp_X3_isLanding 1 a1 m_1 (fun r_5 m_4 => ((r_5 = a2 → K (-5) m_4) ∧ (¬ r_5 = a2 → (wp_X3_crowdOn 1 a1 m_4 (fun r_8 m_7 => ((r_8 ≤ 1 → (wp_X0_keep 1 m_7 (fun m_10 => (∀ m_11, m_11 = up2 m_10 1 3 ((m_10 1 3) ^^^ (1 <<< (a1 &&& 31))) → (wp_J6_bitCount_0f7a4 (m_11 1 3) m_11 (fun r_14 m_13 => K r_14 m_13)))))) ∧ (¬ r_8 ≤ 1 → K (-5) m_7))))))))) ∧ (r_2 = 0 → K (-1) m_1))))
set_option maxHeartbeats 4000000 in
set_option maxRecDepth 100000 in
theorem c_X4_landing (l : Launch) (g : Gv) (ad : Nat → Nat) (μ : Mem) (sz : Nat) (a1 : Int32) (a2 : Int32) {K : Int32 → Mem → Prop} (h : wp_X4_landing a1 a2 μ K) : Met l yX4_landing (wX yX4_landing cX4_landing 3 (some .int)) rm_X4_landing (Pre g ad μ sz [.ref (ad 0), .int a1, .int a2]) (PostI g ad sz K) 0 0 (Aw ad sz) := by
  refine Met.ofW (cc := cX4_landing) (maxL := 3) (ret := (some .int)) (by decide) rfl ?_
  intro p e s m args below meth c s₁ B hml hv
  obtain ⟨rfl, rfl, C, w⟩ := x_start B hml hv
  obtain ⟨hx, hb, hml, -, hts, hown, -, -, hN⟩ := id C
  have hl := lv_entry ([.ref (ad 0), .int a1, .int a2]) (n := 3) (Nat.le_of_ble_eq_true rfl)
  rw [lg_entry_eq]
  generalize (lg_sl ([.ref (ad 0), .int a1, .int a2]) ++ List.replicate (3 - (lg_sl ([.ref (ad 0), .int a1, .int a2])).length) Slot.unset).toArray = ls at hl ⊢
  have hl : lv_has ls 3 [(0, .ref (ad 0)), (1, .int a1), (2, .int a2)] := hl
  show W p l e rm_X4_landing s m _ below meth c s.heap [] 0 0 _ _
  unfold wp_X4_landing at h
  refine lv_iload_n hx hb dX4_landing_0 rfl (lv_at hl 1 rfl) ?_
  refine x_calli C w (x_runS (As := [.int a1]) (rest := []) C w me_X4_isStep ml_StairBows_63 (c_X4_isStep l g ad μ _ a1 h) ⟨rfl, rfl⟩ ⟨Nat.le_of_ble_eq_true rfl, Nat.le_of_ble_eq_true rfl⟩ rfl hl.1 rfl (Nat.le_of_ble_eq_true rfl) dX4_landing_1 ⟨Nat.le_of_ble_eq_true rfl, Nat.le_of_ble_eq_true rfl⟩) (fun r_2 m_1 h H locs w => ?_)
  refine lv_if_ne (tgt := 9) hx hb dX4_landing_4 (by decide) (fun c_3 => ?_) (fun c_3 => ?_)
  · have h := h.1 c_3
    refine lv_aload_n hx hb dX4_landing_9 rfl (lv_at hl 0 rfl) ?_
    refine x_getX C w (k := 0) (v := .ref (ad 1)) (by decide) rfl mf_StairBows_10 dX4_landing_10 ?_
    refine lv_iload_n hx hb dX4_landing_13 rfl (lv_at hl 1 rfl) ?_
    refine x_calli C w (x_runV (i := 1) (As := [.int a1]) (rest := []) C w (rfl : kd 1 = 9) (by decide) (ci := 3) rfl rfl rfl me_X3_isLanding ml_StairBows_66 (c_X3_isLanding l g ad m_1 _ 1 (rfl : kd 1 = 9) a1 h) ⟨rfl, rfl⟩ ⟨Nat.le_of_ble_eq_true rfl, Nat.le_of_ble_eq_true rfl⟩ rfl hl.1 rfl (Nat.le_of_ble_eq_true rfl) dX4_landing_14 ⟨Nat.le_of_ble_eq_true rfl, Nat.le_of_ble_eq_true rfl⟩) (fun r_5 m_4 h H locs w => ?_)
    refine lv_iload_n hx hb dX4_landing_17 rfl (lv_at hl 2 rfl) ?_
    refine lv_icmp_eq (tgt := 33) hx hb dX4_landing_18 (by decide) (fun c_6 => ?_) (fun c_6 => ?_)
    · have h := h.1 c_6
      refine lv_bipush (v := -5) hx hb dX4_landing_33 (by decide) ?_
      exact x_iret C w h dX4_landing_35
    · have h := h.2 c_6
      refine lv_aload_n hx hb dX4_landing_21 rfl (lv_at hl 0 rfl) ?_
      refine x_getX C w (k := 0) (v := .ref (ad 1)) (by decide) rfl mf_StairBows_10 dX4_landing_22 ?_
      refine lv_iload_n hx hb dX4_landing_25 rfl (lv_at hl 1 rfl) ?_
      refine x_calli C w (x_runV (i := 1) (As := [.int a1]) (rest := []) C w (rfl : kd 1 = 9) (by decide) (ci := 3) rfl rfl rfl me_X3_crowdOn ml_StairBows_69 (c_X3_crowdOn l g ad m_4 _ 1 (rfl : kd 1 = 9) a1 h) ⟨rfl, rfl⟩ ⟨Nat.le_of_ble_eq_true rfl, Nat.le_of_ble_eq_true rfl⟩ rfl hl.1 rfl (Nat.le_of_ble_eq_true rfl) dX4_landing_26 ⟨Nat.le_of_ble_eq_true rfl, Nat.le_of_ble_eq_true rfl⟩) (fun r_8 m_7 h H locs w => ?_)
      refine lv_iconst (v := 1) hx hb dX4_landing_29 (by decide) ?_
      refine lv_icmp_le (tgt := 36) hx hb dX4_landing_30 (by decide) (fun c_9 => ?_) (fun c_9 => ?_)
      · have h := h.1 c_9
        refine lv_aload_n hx hb dX4_landing_36 rfl (lv_at hl 0 rfl) ?_
        refine x_getX C w (k := 2) (v := .ref (ad 57)) (by decide) rfl mf_StairBows_22 dX4_landing_37 ?_
        refine lv_aload_n hx hb dX4_landing_40 rfl (lv_at hl 0 rfl) ?_
        refine x_getX C w (k := 0) (v := .ref (ad 1)) (by decide) rfl mf_StairBows_10 dX4_landing_41 ?_
        refine x_callv C w (x_runV (i := 57) (As := [.ref (ad 1)]) (rest := []) C w (rfl : kd 57 = 1) (by decide) (ci := 0) rfl rfl rfl me_X0_keep ml_StairBows_56 (c_X0_keep l g ad m_7 _ 1 (rfl : kd 1 = 9) h) ⟨rfl, rfl⟩ ⟨Nat.le_of_ble_eq_true rfl, Nat.le_of_ble_eq_true rfl⟩ rfl hl.1 rfl (Nat.le_of_ble_eq_true rfl) dX4_landing_44 ⟨Nat.le_of_ble_eq_true rfl, Nat.le_of_ble_eq_true rfl⟩) (fun m_10 h H locs w => ?_)
        refine lv_aload_n hx hb dX4_landing_47 rfl (lv_at hl 0 rfl) ?_
        refine x_getX C w (k := 0) (v := .ref (ad 1)) (by decide) rfl mf_StairBows_10 dX4_landing_48 ?_
        refine lv_dup hx hb dX4_landing_51 rfl ?_
        refine x_getS C w (i := 1) (k := 3) (v := .int (m_10 1 3)) (rfl : kd 1 = 9) (by decide) rfl mf_StairBows_73 dX4_landing_52 ?_
        refine lv_iconst (v := 1) hx hb dX4_landing_55 (by decide) ?_
        refine lv_iload_n hx hb dX4_landing_56 rfl (lv_at hl 1 rfl) ?_
        refine lv_ishl hx hb dX4_landing_57 ?_
        refine lv_ixor hx hb dX4_landing_58 ?_
        refine x_putS C w (i := 1) (k := 3) (rfl : kd 1 = 9) (by decide) rfl mf_StairBows_73 rfl rfl dX4_landing_59 (fun m_11 e_12 H locs w => ?_)
        have h := h m_11 e_12
        refine lv_aload_n hx hb dX4_landing_62 rfl (lv_at hl 0 rfl) ?_
        refine x_getX C w (k := 0) (v := .ref (ad 1)) (by decide) rfl mf_StairBows_10 dX4_landing_63 ?_
        refine x_getS C w (i := 1) (k := 3) (v := .int (m_11 1 3)) (rfl : kd 1 = 9) (by decide) rfl mf_StairBows_73 dX4_landing_66 ?_
        refine x_calli C w (x_runS (As := [.int (m_11 1 3)]) (rest := []) C w me_J6_bitCount_0f7a4 ml_StairBows_77 (c_J6_bitCount_0f7a4 l g ad m_11 _ (m_11 1 3) h) ⟨rfl, rfl⟩ ⟨Nat.le_of_ble_eq_true rfl, Nat.le_of_ble_eq_true rfl⟩ rfl hl.1 rfl (Nat.le_of_ble_eq_true rfl) dX4_landing_69 ⟨Nat.le_of_ble_eq_true rfl, Nat.le_of_ble_eq_true rfl⟩) (fun r_14 m_13 h H locs w => ?_)
        exact x_iret C w h dX4_landing_72
      · have h := h.2 c_9
        refine lv_bipush (v := -5) hx hb dX4_landing_33 (by decide) ?_
        exact x_iret C w h dX4_landing_35
  · have h := h.2 c_3
    refine lv_iconst (v := -1) hx hb dX4_landing_7 (by decide) ?_
    exact x_iret C w h dX4_landing_8
abbrev rm_X4_come : Room := { frames := 3, cells := 0, slots := 0, locals := 73 }
noncomputable def wp_X4_come (a1 : Int32) (a2 : Int32) (μ : Mem) (K : Int32 → Mem → Prop) : Prop :=
    ((a1 < 1 → K (-2) μ) ∧ (¬ a1 < 1 → ((a1 ≤ 9 → (((μ 1 4) < 24 → (wp_X0_keep 1 μ (fun m_4 => (wp_X3_admit 1 a1 a2 m_4 (fun m_5 => K ((m_5 1 4) - 1) m_5))))) ∧ (¬ (μ 1 4) < 24 → K (-4) μ))) ∧ (¬ a1 ≤ 9 → K (-2) μ))))
set_option maxHeartbeats 4000000 in
set_option maxRecDepth 100000 in
theorem c_X4_come (l : Launch) (g : Gv) (ad : Nat → Nat) (μ : Mem) (sz : Nat) (a1 : Int32) (a2 : Int32) {K : Int32 → Mem → Prop} (h : wp_X4_come a1 a2 μ K) : Met l yX4_come (wX yX4_come cX4_come 3 (some .int)) rm_X4_come (Pre g ad μ sz [.ref (ad 0), .int a1, .int a2]) (PostI g ad sz K) 0 0 (Aw ad sz) := by
  refine Met.ofW (cc := cX4_come) (maxL := 3) (ret := (some .int)) (by decide) rfl ?_
  intro p e s m args below meth c s₁ B hml hv
  obtain ⟨rfl, rfl, C, w⟩ := x_start B hml hv
  obtain ⟨hx, hb, hml, -, hts, hown, -, -, hN⟩ := id C
  have hl := lv_entry ([.ref (ad 0), .int a1, .int a2]) (n := 3) (Nat.le_of_ble_eq_true rfl)
  rw [lg_entry_eq]
  generalize (lg_sl ([.ref (ad 0), .int a1, .int a2]) ++ List.replicate (3 - (lg_sl ([.ref (ad 0), .int a1, .int a2])).length) Slot.unset).toArray = ls at hl ⊢
  have hl : lv_has ls 3 [(0, .ref (ad 0)), (1, .int a1), (2, .int a2)] := hl
  show W p l e rm_X4_come s m _ below meth c s.heap [] 0 0 _ _
  unfold wp_X4_come at h
  refine lv_iload_n hx hb dX4_come_0 rfl (lv_at hl 1 rfl) ?_
  refine lv_iconst (v := 1) hx hb dX4_come_1 (by decide) ?_
  refine lv_icmp_lt (tgt := 11) hx hb dX4_come_2 (by decide) (fun c_1 => ?_) (fun c_1 => ?_)
  · have h := h.1 c_1
    refine lv_bipush (v := -2) hx hb dX4_come_11 (by decide) ?_
    exact x_iret C w h dX4_come_13
  · have h := h.2 c_1
    refine lv_iload_n hx hb dX4_come_5 rfl (lv_at hl 1 rfl) ?_
    refine lv_bipush (v := 9) hx hb dX4_come_6 (by decide) ?_
    refine lv_icmp_le (tgt := 14) hx hb dX4_come_8 (by decide) (fun c_2 => ?_) (fun c_2 => ?_)
    · have h := h.1 c_2
      refine lv_aload_n hx hb dX4_come_14 rfl (lv_at hl 0 rfl) ?_
      refine x_getX C w (k := 0) (v := .ref (ad 1)) (by decide) rfl mf_StairBows_10 dX4_come_15 ?_
      refine x_getS C w (i := 1) (k := 4) (v := .int (μ 1 4)) (rfl : kd 1 = 9) (by decide) rfl mf_StairBows_82 dX4_come_18 ?_
      refine lv_bipush (v := 24) hx hb dX4_come_21 (by decide) ?_
      refine lv_icmp_lt (tgt := 29) hx hb dX4_come_23 (by decide) (fun c_3 => ?_) (fun c_3 => ?_)
      · have h := h.1 c_3
        refine lv_aload_n hx hb dX4_come_29 rfl (lv_at hl 0 rfl) ?_
        refine x_getX C w (k := 2) (v := .ref (ad 57)) (by decide) rfl mf_StairBows_22 dX4_come_30 ?_
        refine lv_aload_n hx hb dX4_come_33 rfl (lv_at hl 0 rfl) ?_
        refine x_getX C w (k := 0) (v := .ref (ad 1)) (by decide) rfl mf_StairBows_10 dX4_come_34 ?_
        refine x_callv C w (x_runV (i := 57) (As := [.ref (ad 1)]) (rest := []) C w (rfl : kd 57 = 1) (by decide) (ci := 0) rfl rfl rfl me_X0_keep ml_StairBows_56 (c_X0_keep l g ad μ _ 1 (rfl : kd 1 = 9) h) ⟨rfl, rfl⟩ ⟨Nat.le_of_ble_eq_true rfl, Nat.le_of_ble_eq_true rfl⟩ rfl hl.1 rfl (Nat.le_of_ble_eq_true rfl) dX4_come_37 ⟨Nat.le_of_ble_eq_true rfl, Nat.le_of_ble_eq_true rfl⟩) (fun m_4 h H locs w => ?_)
        refine lv_aload_n hx hb dX4_come_40 rfl (lv_at hl 0 rfl) ?_
        refine x_getX C w (k := 0) (v := .ref (ad 1)) (by decide) rfl mf_StairBows_10 dX4_come_41 ?_
        refine lv_iload_n hx hb dX4_come_44 rfl (lv_at hl 1 rfl) ?_
        refine lv_iload_n hx hb dX4_come_45 rfl (lv_at hl 2 rfl) ?_
        refine x_callv C w (x_runV (i := 1) (As := [.int a1, .int a2]) (rest := []) C w (rfl : kd 1 = 9) (by decide) (ci := 3) rfl rfl rfl me_X3_admit ml_StairBows_85 (c_X3_admit l g ad m_4 _ 1 (rfl : kd 1 = 9) a1 a2 h) ⟨rfl, rfl⟩ ⟨Nat.le_of_ble_eq_true rfl, Nat.le_of_ble_eq_true rfl⟩ rfl hl.1 rfl (Nat.le_of_ble_eq_true rfl) dX4_come_46 ⟨Nat.le_of_ble_eq_true rfl, Nat.le_of_ble_eq_true rfl⟩) (fun m_5 h H locs w => ?_)
        refine lv_aload_n hx hb dX4_come_49 rfl (lv_at hl 0 rfl) ?_
        refine x_getX C w (k := 0) (v := .ref (ad 1)) (by decide) rfl mf_StairBows_10 dX4_come_50 ?_
        refine x_getS C w (i := 1) (k := 4) (v := .int (m_5 1 4)) (rfl : kd 1 = 9) (by decide) rfl mf_StairBows_82 dX4_come_53 ?_
        refine lv_iconst (v := 1) hx hb dX4_come_56 (by decide) ?_
        refine lv_isub hx hb dX4_come_57 ?_
        exact x_iret C w h dX4_come_58
      · have h := h.2 c_3
        refine lv_bipush (v := -4) hx hb dX4_come_26 (by decide) ?_
        exact x_iret C w h dX4_come_28
    · have h := h.2 c_2
      refine lv_bipush (v := -2) hx hb dX4_come_11 (by decide) ?_
      exact x_iret C w h dX4_come_13
abbrev rm_X4_read : Room := { frames := 3, cells := 0, slots := 0, locals := 73 }
noncomputable def wp_X4_read_L55 (v1 : Int32) (K : Int32 → Mem → Prop) (n : Nat) : Int32 → Mem → Prop :=
  Nat.rec (motive := fun _ => Int32 → Mem → Prop) (fun _ _ => False) (fun _ ih v2 μ =>
    ((v1 ≤ v2 → (∀ m_7, m_7 = up2 μ 229 1 0 → K (m_7 1 4) m_7)) ∧ (¬ v1 ≤ v2 → (wp_X1_rankOf v2 μ (fun r_10 m_9 => (wp_X1_isUp v2 m_9 (fun r_12 m_11 => (wp_X3_admit 1 r_10 r_12 m_11 (fun m_13 => ih (v2 + 1) m_13))))))))) n
theorem wp_X4_read_L55_s (v1 : Int32) (K : Int32 → Mem → Prop) (n : Nat) (v2 : Int32) (μ : Mem) : wp_X4_read_L55 v1 K (n + 1) v2 μ = (
    let ih := wp_X4_read_L55 v1 K n
    ((v1 ≤ v2 → (∀ m_7, m_7 = up2 μ 229 1 0 → K (m_7 1 4) m_7)) ∧ (¬ v1 ≤ v2 → (wp_X1_rankOf v2 μ (fun r_10 m_9 => (wp_X1_isUp v2 m_9 (fun r_12 m_11 => (wp_X3_admit 1 r_10 r_12 m_11 (fun m_13 => ih (v2 + 1) m_13))))))))) := rfl
noncomputable def wp_X4_read  (μ : Mem) (K : Int32 → Mem → Prop) : Prop :=
    (wp_X1_firstFault μ (fun r_2 m_1 => ((r_2 = (-6) → ((((m_1 1 4) + ((m_1 229 1) / 2)) ≤ 24 → (wp_X0_keep 1 m_1 (fun m_5 => (∃ n, wp_X4_read_L55 ((m_1 229 1) / 2) K n 0 m_5)))) ∧ (¬ ((m_1 1 4) + ((m_1 229 1) / 2)) ≤ 24 → K (-4) m_1))) ∧ (¬ r_2 = (-6) → K (-3) m_1))))
set_option maxHeartbeats 4000000 in
set_option maxRecDepth 100000 in
theorem t_X4_read_L55 {g : Gv} {ad : Nat → Nat} {l : Launch} {p : Program} {e : Env} {s : State} {m : MethodId} {args : Array Value} {below : List Frame} {meth : Method} {c : Code} (C : Cx g p s m args meth c "StairBows" cX4_read 3 (some .int)) {v1 : Int32}  {K : Int32 → Mem → Prop}    : ∀ (n : Nat) (v2 : Int32) (μ : Mem) (H : Heap) (locs : List Loc) (ls : Array Slot), wp_X4_read_L55 v1 K n v2 μ → Wd g ad μ (Aw ad s.heap.size) s H locs → lv_has ls 3 [(0, .ref (ad 0)), (1, .int v1), (2, .int v2)] → W p l e rm_X4_read s m args below meth c H locs 0 0 (MQ below (PostI g ad s.heap.size K) args s 0 0 (Aw ad s.heap.size)) (F0 m 55 ls []) := by
  obtain ⟨hx, hb, hml, -, hts, hown, -, -, hN⟩ := id C
  intro n
  induction n with
  | zero =>
    intro v2 μ H locs ls h w hl
    exact (show False from h).elim
  | succ n ih =>
    intro v2 μ H locs ls h w hl
    rw [wp_X4_read_L55_s] at h
    dsimp only at h
    refine lv_iload_n hx hb dX4_read_55 rfl (lv_at hl 2 rfl) ?_
    refine lv_iload_n hx hb dX4_read_56 rfl (lv_at hl 1 rfl) ?_
    refine lv_icmp_ge (tgt := 89) hx hb dX4_read_57 (by decide) (fun c_6 => ?_) (fun c_6 => ?_)
    · have h := h.1 c_6
      refine lv_aload_n hx hb dX4_read_89 rfl (lv_at hl 0 rfl) ?_
      refine x_getX C w (k := 5) (v := .ref (ad 229)) (by decide) rfl mf_StairBows_37 dX4_read_90 ?_
      refine lv_iconst (v := 0) hx hb dX4_read_93 (by decide) ?_
      refine x_putD C w mf_StairBows_92 dX4_read_94 (fun m_7 e_8 H locs w => ?_)
      have h := h m_7 e_8
      refine lv_aload_n hx hb dX4_read_97 rfl (lv_at hl 0 rfl) ?_
      refine x_getX C w (k := 0) (v := .ref (ad 1)) (by decide) rfl mf_StairBows_10 dX4_read_98 ?_
      refine x_getS C w (i := 1) (k := 4) (v := .int (m_7 1 4)) (rfl : kd 1 = 9) (by decide) rfl mf_StairBows_82 dX4_read_101 ?_
      exact x_iret C w h dX4_read_104
    · have h := h.2 c_6
      refine lv_aload_n hx hb dX4_read_60 rfl (lv_at hl 0 rfl) ?_
      refine x_getX C w (k := 0) (v := .ref (ad 1)) (by decide) rfl mf_StairBows_10 dX4_read_61 ?_
      refine lv_aload_n hx hb dX4_read_64 rfl (lv_at hl 0 rfl) ?_
      refine x_getX C w (k := 5) (v := .ref (ad 229)) (by decide) rfl mf_StairBows_37 dX4_read_65 ?_
      refine lv_iload_n hx hb dX4_read_68 rfl (lv_at hl 2 rfl) ?_
      refine x_calli C w (x_runV (i := 229) (As := [.int v2]) (rest := [.ref (ad 1)]) C w (rfl : kd 229 = 5) (by decide) (ci := 1) rfl rfl rfl me_X1_rankOf ml_StairBows_95 (c_X1_rankOf l g ad μ _ v2 h) ⟨rfl, rfl⟩ ⟨Nat.le_of_ble_eq_true rfl, Nat.le_of_ble_eq_true rfl⟩ rfl hl.1 rfl (Nat.le_of_ble_eq_true rfl) dX4_read_69 ⟨Nat.le_of_ble_eq_true rfl, Nat.le_of_ble_eq_true rfl⟩) (fun r_10 m_9 h H locs w => ?_)
      refine lv_aload_n hx hb dX4_read_72 rfl (lv_at hl 0 rfl) ?_
      refine x_getX C w (k := 5) (v := .ref (ad 229)) (by decide) rfl mf_StairBows_37 dX4_read_73 ?_
      refine lv_iload_n hx hb dX4_read_76 rfl (lv_at hl 2 rfl) ?_
      refine x_calli C w (x_runV (i := 229) (As := [.int v2]) (rest := [.int r_10, .ref (ad 1)]) C w (rfl : kd 229 = 5) (by decide) (ci := 1) rfl rfl rfl me_X1_isUp ml_StairBows_98 (c_X1_isUp l g ad m_9 _ v2 h) ⟨rfl, rfl⟩ ⟨Nat.le_of_ble_eq_true rfl, Nat.le_of_ble_eq_true rfl⟩ rfl hl.1 rfl (Nat.le_of_ble_eq_true rfl) dX4_read_77 ⟨Nat.le_of_ble_eq_true rfl, Nat.le_of_ble_eq_true rfl⟩) (fun r_12 m_11 h H locs w => ?_)
      refine x_callv C w (x_runV (i := 1) (As := [.int r_10, .int r_12]) (rest := []) C w (rfl : kd 1 = 9) (by decide) (ci := 3) rfl rfl rfl me_X3_admit ml_StairBows_85 (c_X3_admit l g ad m_11 _ 1 (rfl : kd 1 = 9) r_10 r_12 h) ⟨rfl, rfl⟩ ⟨Nat.le_of_ble_eq_true rfl, Nat.le_of_ble_eq_true rfl⟩ rfl hl.1 rfl (Nat.le_of_ble_eq_true rfl) dX4_read_80 ⟨Nat.le_of_ble_eq_true rfl, Nat.le_of_ble_eq_true rfl⟩) (fun m_13 h H locs w => ?_)
      refine lv_iinc (v := (v2 + 1)) (lv' := [(2, .int (v2 + 1)), (0, .ref (ad 0)), (1, .int v1)]) hx hb dX4_read_83 hl (k := 2) rfl rfl (by decide) rfl (fun ls hl => ?_)
      refine lv_goto (tgt := 55) hx hb dX4_read_86 (by decide) ?_
      exact ih (v2 + 1) m_13 _ _ _ h w (lv_sub hl [1, 2, 0] rfl)
set_option maxHeartbeats 4000000 in
set_option maxRecDepth 100000 in
theorem c_X4_read (l : Launch) (g : Gv) (ad : Nat → Nat) (μ : Mem) (sz : Nat)  {K : Int32 → Mem → Prop} (h : wp_X4_read μ K) : Met l yX4_read (wX yX4_read cX4_read 3 (some .int)) rm_X4_read (Pre g ad μ sz [.ref (ad 0)]) (PostI g ad sz K) 0 0 (Aw ad sz) := by
  refine Met.ofW (cc := cX4_read) (maxL := 3) (ret := (some .int)) (by decide) rfl ?_
  intro p e s m args below meth c s₁ B hml hv
  obtain ⟨rfl, rfl, C, w⟩ := x_start B hml hv
  obtain ⟨hx, hb, hml, -, hts, hown, -, -, hN⟩ := id C
  have hl := lv_entry ([.ref (ad 0)]) (n := 3) (Nat.le_of_ble_eq_true rfl)
  rw [lg_entry_eq]
  generalize (lg_sl ([.ref (ad 0)]) ++ List.replicate (3 - (lg_sl ([.ref (ad 0)])).length) Slot.unset).toArray = ls at hl ⊢
  have hl : lv_has ls 3 [(0, .ref (ad 0))] := hl
  show W p l e rm_X4_read s m _ below meth c s.heap [] 0 0 _ _
  unfold wp_X4_read at h
  refine lv_aload_n hx hb dX4_read_0 rfl (lv_at hl 0 rfl) ?_
  refine x_getX C w (k := 5) (v := .ref (ad 229)) (by decide) rfl mf_StairBows_37 dX4_read_1 ?_
  refine x_calli C w (x_runV (i := 229) (As := []) (rest := []) C w (rfl : kd 229 = 5) (by decide) (ci := 1) rfl rfl rfl me_X1_firstFault ml_StairBows_89 (c_X1_firstFault l g ad μ _  h) ⟨rfl, rfl⟩ ⟨Nat.le_of_ble_eq_true rfl, Nat.le_of_ble_eq_true rfl⟩ rfl hl.1 rfl (Nat.le_of_ble_eq_true rfl) dX4_read_4 ⟨Nat.le_of_ble_eq_true rfl, Nat.le_of_ble_eq_true rfl⟩) (fun r_2 m_1 h H locs w => ?_)
  refine lv_bipush (v := -6) hx hb dX4_read_7 (by decide) ?_
  refine lv_icmp_eq (tgt := 15) hx hb dX4_read_9 (by decide) (fun c_3 => ?_) (fun c_3 => ?_)
  · have h := h.1 c_3
    refine lv_aload_n hx hb dX4_read_15 rfl (lv_at hl 0 rfl) ?_
    refine x_getX C w (k := 5) (v := .ref (ad 229)) (by decide) rfl mf_StairBows_37 dX4_read_16 ?_
    refine x_getD C w (k := 1) (v := .int (m_1 229 1)) (by decide) rfl mf_StairBows_92 dX4_read_19 ?_
    refine lv_iconst (v := 2) hx hb dX4_read_22 (by decide) ?_
    refine lv_idiv hx hb dX4_read_23 (by decide) ?_
    refine lv_istore_n (lv' := [(1, .int ((m_1 229 1) / 2)), (0, .ref (ad 0))]) hx hb dX4_read_24 rfl hl (by decide) rfl (fun ls hl => ?_)
    refine lv_aload_n hx hb dX4_read_25 rfl (lv_at hl 1 rfl) ?_
    refine x_getX C w (k := 0) (v := .ref (ad 1)) (by decide) rfl mf_StairBows_10 dX4_read_26 ?_
    refine x_getS C w (i := 1) (k := 4) (v := .int (m_1 1 4)) (rfl : kd 1 = 9) (by decide) rfl mf_StairBows_82 dX4_read_29 ?_
    refine lv_iload_n hx hb dX4_read_32 rfl (lv_at hl 0 rfl) ?_
    refine lv_iadd hx hb dX4_read_33 ?_
    refine lv_bipush (v := 24) hx hb dX4_read_34 (by decide) ?_
    refine lv_icmp_le (tgt := 42) hx hb dX4_read_36 (by decide) (fun c_4 => ?_) (fun c_4 => ?_)
    · have h := h.1 c_4
      refine lv_aload_n hx hb dX4_read_42 rfl (lv_at hl 1 rfl) ?_
      refine x_getX C w (k := 2) (v := .ref (ad 57)) (by decide) rfl mf_StairBows_22 dX4_read_43 ?_
      refine lv_aload_n hx hb dX4_read_46 rfl (lv_at hl 1 rfl) ?_
      refine x_getX C w (k := 0) (v := .ref (ad 1)) (by decide) rfl mf_StairBows_10 dX4_read_47 ?_
      refine x_callv C w (x_runV (i := 57) (As := [.ref (ad 1)]) (rest := []) C w (rfl : kd 57 = 1) (by decide) (ci := 0) rfl rfl rfl me_X0_keep ml_StairBows_56 (c_X0_keep l g ad m_1 _ 1 (rfl : kd 1 = 9) h) ⟨rfl, rfl⟩ ⟨Nat.le_of_ble_eq_true rfl, Nat.le_of_ble_eq_true rfl⟩ rfl hl.1 rfl (Nat.le_of_ble_eq_true rfl) dX4_read_50 ⟨Nat.le_of_ble_eq_true rfl, Nat.le_of_ble_eq_true rfl⟩) (fun m_5 h H locs w => ?_)
      refine lv_iconst (v := 0) hx hb dX4_read_53 (by decide) ?_
      refine lv_istore_n (lv' := [(2, .int 0), (1, .int ((m_1 229 1) / 2)), (0, .ref (ad 0))]) hx hb dX4_read_54 rfl hl (by decide) rfl (fun ls hl => ?_)
      obtain ⟨n_14, h⟩ := h
      exact t_X4_read_L55 C n_14 0 m_5 _ _ _ h w (lv_sub hl [2, 1, 0] rfl)
    · have h := h.2 c_4
      refine lv_bipush (v := -4) hx hb dX4_read_39 (by decide) ?_
      exact x_iret C w h dX4_read_41
  · have h := h.2 c_3
    refine lv_bipush (v := -3) hx hb dX4_read_12 (by decide) ?_
    exact x_iret C w h dX4_read_14
abbrev rm_X4_isPerson : Room := { frames := 0, cells := 0, slots := 0, locals := 0 }
noncomputable def wp_X4_isPerson (a1 : Int32) (μ : Mem) (K : Int32 → Mem → Prop) : Prop :=
    ((a1 < 0 → K 0 μ) ∧ (¬ a1 < 0 → (((μ 1 4) ≤ a1 → K 0 μ) ∧ (¬ (μ 1 4) ≤ a1 → K 1 μ))))
set_option maxHeartbeats 4000000 in
set_option maxRecDepth 100000 in
theorem c_X4_isPerson (l : Launch) (g : Gv) (ad : Nat → Nat) (μ : Mem) (sz : Nat) (a1 : Int32) {K : Int32 → Mem → Prop} (h : wp_X4_isPerson a1 μ K) : Met l yX4_isPerson (wX yX4_isPerson cX4_isPerson 2 (some .boolean)) rm_X4_isPerson (Pre g ad μ sz [.ref (ad 0), .int a1]) (PostI g ad sz K) 0 0 (Aw ad sz) := by
  refine Met.ofW (cc := cX4_isPerson) (maxL := 2) (ret := (some .boolean)) (by decide) rfl ?_
  intro p e s m args below meth c s₁ B hml hv
  obtain ⟨rfl, rfl, C, w⟩ := x_start B hml hv
  obtain ⟨hx, hb, hml, -, hts, hown, -, -, hN⟩ := id C
  have hl := lv_entry ([.ref (ad 0), .int a1]) (n := 2) (Nat.le_of_ble_eq_true rfl)
  rw [lg_entry_eq]
  generalize (lg_sl ([.ref (ad 0), .int a1]) ++ List.replicate (2 - (lg_sl ([.ref (ad 0), .int a1])).length) Slot.unset).toArray = ls at hl ⊢
  have hl : lv_has ls 2 [(0, .ref (ad 0)), (1, .int a1)] := hl
  show W p l e rm_X4_isPerson s m _ below meth c s.heap [] 0 0 _ _
  unfold wp_X4_isPerson at h
  refine lv_iload_n hx hb dX4_isPerson_0 rfl (lv_at hl 1 rfl) ?_
  refine lv_if_lt (tgt := 19) hx hb dX4_isPerson_1 (by decide) (fun c_1 => ?_) (fun c_1 => ?_)
  · have h := h.1 c_1
    refine lv_iconst (v := 0) hx hb dX4_isPerson_19 (by decide) ?_
    exact x_zret C w (show bz 0 from Or.inl rfl) h dX4_isPerson_20
  · have h := h.2 c_1
    refine lv_iload_n hx hb dX4_isPerson_4 rfl (lv_at hl 1 rfl) ?_
    refine lv_aload_n hx hb dX4_isPerson_5 rfl (lv_at hl 0 rfl) ?_
    refine x_getX C w (k := 0) (v := .ref (ad 1)) (by decide) rfl mf_StairBows_10 dX4_isPerson_6 ?_
    refine x_getS C w (i := 1) (k := 4) (v := .int (μ 1 4)) (rfl : kd 1 = 9) (by decide) rfl mf_StairBows_82 dX4_isPerson_9 ?_
    refine lv_icmp_ge (tgt := 19) hx hb dX4_isPerson_12 (by decide) (fun c_2 => ?_) (fun c_2 => ?_)
    · have h := h.1 c_2
      refine lv_iconst (v := 0) hx hb dX4_isPerson_19 (by decide) ?_
      exact x_zret C w (show bz 0 from Or.inl rfl) h dX4_isPerson_20
    · have h := h.2 c_2
      refine lv_iconst (v := 1) hx hb dX4_isPerson_15 (by decide) ?_
      refine lv_goto (tgt := 20) hx hb dX4_isPerson_16 (by decide) ?_
      exact x_zret C w (show bz 1 from Or.inr rfl) h dX4_isPerson_20
abbrev rm_X4_turn : Room := { frames := 3, cells := 0, slots := 0, locals := 73 }
noncomputable def wp_X4_turn (a1 : Int32) (μ : Mem) (K : Int32 → Mem → Prop) : Prop :=
    (wp_X4_isPerson a1 μ (fun r_2 m_1 => ((¬ r_2 = 0 → (vp_in a1 24 ∧ (((m_1 (3 + 2 + a1.toNatClampNeg) 2) = 1 → (wp_X0_keep 1 m_1 (fun m_6 => ((¬ (m_6 (3 + 2 + a1.toNatClampNeg) 1) = 0 → (∀ m_8, m_8 = up2 m_6 (3 + 2 + a1.toNatClampNeg) 1 0 → (((m_8 (3 + 2 + a1.toNatClampNeg) 1) = 0 → K 0 m_8) ∧ (¬ (m_8 (3 + 2 + a1.toNatClampNeg) 1) = 0 → K 1 m_8)))) ∧ ((m_6 (3 + 2 + a1.toNatClampNeg) 1) = 0 → (∀ m_11, m_11 = up2 m_6 (3 + 2 + a1.toNatClampNeg) 1 1 → (((m_11 (3 + 2 + a1.toNatClampNeg) 1) = 0 → K 0 m_11) ∧ (¬ (m_11 (3 + 2 + a1.toNatClampNeg) 1) = 0 → K 1 m_11)))))))) ∧ (¬ (m_1 (3 + 2 + a1.toNatClampNeg) 2) = 1 → K (-5) m_1)))) ∧ (r_2 = 0 → K (-1) m_1))))
set_option maxHeartbeats 4000000 in
set_option maxRecDepth 100000 in
theorem c_X4_turn (l : Launch) (g : Gv) (ad : Nat → Nat) (μ : Mem) (sz : Nat) (a1 : Int32) {K : Int32 → Mem → Prop} (h : wp_X4_turn a1 μ K) : Met l yX4_turn (wX yX4_turn cX4_turn 3 (some .int)) rm_X4_turn (Pre g ad μ sz [.ref (ad 0), .int a1]) (PostI g ad sz K) 0 0 (Aw ad sz) := by
  refine Met.ofW (cc := cX4_turn) (maxL := 3) (ret := (some .int)) (by decide) rfl ?_
  intro p e s m args below meth c s₁ B hml hv
  obtain ⟨rfl, rfl, C, w⟩ := x_start B hml hv
  obtain ⟨hx, hb, hml, -, hts, hown, -, -, hN⟩ := id C
  have hl := lv_entry ([.ref (ad 0), .int a1]) (n := 3) (Nat.le_of_ble_eq_true rfl)
  rw [lg_entry_eq]
  generalize (lg_sl ([.ref (ad 0), .int a1]) ++ List.replicate (3 - (lg_sl ([.ref (ad 0), .int a1])).length) Slot.unset).toArray = ls at hl ⊢
  have hl : lv_has ls 3 [(0, .ref (ad 0)), (1, .int a1)] := hl
  show W p l e rm_X4_turn s m _ below meth c s.heap [] 0 0 _ _
  unfold wp_X4_turn at h
  refine lv_aload_n hx hb dX4_turn_0 rfl (lv_at hl 0 rfl) ?_
  refine lv_iload_n hx hb dX4_turn_1 rfl (lv_at hl 1 rfl) ?_
  refine x_calli C w (x_runV (i := 0) (As := [.int a1]) (rest := []) C w (rfl : kd 0 = 0) (by decide) (ci := 4) rfl rfl rfl me_X4_isPerson ml_StairBows_101 (c_X4_isPerson l g ad μ _ a1 h) ⟨rfl, rfl⟩ ⟨Nat.le_of_ble_eq_true rfl, Nat.le_of_ble_eq_true rfl⟩ rfl hl.1 rfl (Nat.le_of_ble_eq_true rfl) dX4_turn_2 ⟨Nat.le_of_ble_eq_true rfl, Nat.le_of_ble_eq_true rfl⟩) (fun r_2 m_1 h H locs w => ?_)
  refine lv_if_ne (tgt := 10) hx hb dX4_turn_5 (by decide) (fun c_3 => ?_) (fun c_3 => ?_)
  · have h := h.1 c_3
    refine lv_aload_n hx hb dX4_turn_10 rfl (lv_at hl 0 rfl) ?_
    refine x_getX C w (k := 0) (v := .ref (ad 1)) (by decide) rfl mf_StairBows_10 dX4_turn_11 ?_
    refine x_getS C w (i := 1) (k := 1) (v := .ref (ad 3)) (rfl : kd 1 = 9) (by decide) rfl mf_StairBows_104 dX4_turn_14 ?_
    refine lv_iload_n hx hb dX4_turn_17 rfl (lv_at hl 1 rfl) ?_
    have hi := h.1
    have h := h.2
    refine x_aldP C w (kS2 (rfl : kd 1 = 9)) hi dX4_turn_18 ?_
    have k_4 := kSP (kS2 (rfl : kd 1 = 9)) hi
    refine lv_astore_n (lv' := [(2, .ref (ad (3 + 2 + a1.toNatClampNeg))), (0, .ref (ad 0)), (1, .int a1)]) hx hb dX4_turn_19 rfl hl (by decide) rfl (fun ls hl => ?_)
    refine lv_aload_n hx hb dX4_turn_20 rfl (lv_at hl 0 rfl) ?_
    refine x_getP C w (i := (3 + 2 + a1.toNatClampNeg)) (k := 2) k_4 (by decide) mf_StairBows_108 dX4_turn_21 ?_
    refine lv_iconst (v := 1) hx hb dX4_turn_24 (by decide) ?_
    refine lv_icmp_eq (tgt := 31) hx hb dX4_turn_25 (by decide) (fun c_5 => ?_) (fun c_5 => ?_)
    · have h := h.1 c_5
      refine lv_aload_n hx hb dX4_turn_31 rfl (lv_at hl 1 rfl) ?_
      refine x_getX C w (k := 2) (v := .ref (ad 57)) (by decide) rfl mf_StairBows_22 dX4_turn_32 ?_
      refine lv_aload_n hx hb dX4_turn_35 rfl (lv_at hl 1 rfl) ?_
      refine x_getX C w (k := 0) (v := .ref (ad 1)) (by decide) rfl mf_StairBows_10 dX4_turn_36 ?_
      refine x_callv C w (x_runV (i := 57) (As := [.ref (ad 1)]) (rest := []) C w (rfl : kd 57 = 1) (by decide) (ci := 0) rfl rfl rfl me_X0_keep ml_StairBows_56 (c_X0_keep l g ad m_1 _ 1 (rfl : kd 1 = 9) h) ⟨rfl, rfl⟩ ⟨Nat.le_of_ble_eq_true rfl, Nat.le_of_ble_eq_true rfl⟩ rfl hl.1 rfl (Nat.le_of_ble_eq_true rfl) dX4_turn_39 ⟨Nat.le_of_ble_eq_true rfl, Nat.le_of_ble_eq_true rfl⟩) (fun m_6 h H locs w => ?_)
      refine lv_aload_n hx hb dX4_turn_42 rfl (lv_at hl 0 rfl) ?_
      refine lv_aload_n hx hb dX4_turn_43 rfl (lv_at hl 0 rfl) ?_
      refine x_getP C w (i := (3 + 2 + a1.toNatClampNeg)) (k := 1) k_4 (by decide) mf_StairBows_113 dX4_turn_44 ?_
      refine lv_if_ne (tgt := 54) hx hb dX4_turn_47 (by decide) (fun c_7 => ?_) (fun c_7 => ?_)
      · have h := h.1 c_7
        refine lv_iconst (v := 0) hx hb dX4_turn_54 (by decide) ?_
        refine x_putP C w (i := (3 + 2 + a1.toNatClampNeg)) (k := 1) k_4 (by decide) mf_StairBows_113 rfl rfl (bz_narrow (show bz 0 from Or.inl rfl)) (bz_fits (show bz 0 from Or.inl rfl)) dX4_turn_55 (fun m_8 e_9 H locs w => ?_)
        have h := h m_8 e_9
        refine lv_aload_n hx hb dX4_turn_58 rfl (lv_at hl 0 rfl) ?_
        refine x_getP C w (i := (3 + 2 + a1.toNatClampNeg)) (k := 1) k_4 (by decide) mf_StairBows_113 dX4_turn_59 ?_
        refine lv_if_eq (tgt := 69) hx hb dX4_turn_62 (by decide) (fun c_10 => ?_) (fun c_10 => ?_)
        · have h := h.1 c_10
          refine lv_iconst (v := 0) hx hb dX4_turn_69 (by decide) ?_
          exact x_iret C w h dX4_turn_70
        · have h := h.2 c_10
          refine lv_iconst (v := 1) hx hb dX4_turn_65 (by decide) ?_
          refine lv_goto (tgt := 70) hx hb dX4_turn_66 (by decide) ?_
          exact x_iret C w h dX4_turn_70
      · have h := h.2 c_7
        refine lv_iconst (v := 1) hx hb dX4_turn_50 (by decide) ?_
        refine lv_goto (tgt := 55) hx hb dX4_turn_51 (by decide) ?_
        refine x_putP C w (i := (3 + 2 + a1.toNatClampNeg)) (k := 1) k_4 (by decide) mf_StairBows_113 rfl rfl (bz_narrow (show bz 1 from Or.inr rfl)) (bz_fits (show bz 1 from Or.inr rfl)) dX4_turn_55 (fun m_11 e_12 H locs w => ?_)
        have h := h m_11 e_12
        refine lv_aload_n hx hb dX4_turn_58 rfl (lv_at hl 0 rfl) ?_
        refine x_getP C w (i := (3 + 2 + a1.toNatClampNeg)) (k := 1) k_4 (by decide) mf_StairBows_113 dX4_turn_59 ?_
        refine lv_if_eq (tgt := 69) hx hb dX4_turn_62 (by decide) (fun c_13 => ?_) (fun c_13 => ?_)
        · have h := h.1 c_13
          refine lv_iconst (v := 0) hx hb dX4_turn_69 (by decide) ?_
          exact x_iret C w h dX4_turn_70
        · have h := h.2 c_13
          refine lv_iconst (v := 1) hx hb dX4_turn_65 (by decide) ?_
          refine lv_goto (tgt := 70) hx hb dX4_turn_66 (by decide) ?_
          exact x_iret C w h dX4_turn_70
    · have h := h.2 c_5
      refine lv_bipush (v := -5) hx hb dX4_turn_28 (by decide) ?_
      exact x_iret C w h dX4_turn_30
  · have h := h.2 c_3
    refine lv_iconst (v := -1) hx hb dX4_turn_8 (by decide) ?_
    exact x_iret C w h dX4_turn_9
abbrev rm_X4_pass : Room := { frames := 6, cells := 0, slots := 0, locals := 131 }
noncomputable def wp_X4_pass_L54 (v1 : Int32) (v2 : Int32) (K : Int32 → Mem → Prop) (n : Nat) : Int32 → Mem → Prop :=
  Nat.rec (motive := fun _ => Int32 → Mem → Prop) (fun _ _ => False) (fun _ ih v3 μ =>
    ((v1 ≤ v3 → (wp_X3_peopleWho 1 2 μ (fun r_9 m_8 => K (r_9 - v2) m_8))) ∧ (¬ v1 ≤ v3 → (wp_X3_tick 1 μ (fun m_10 => ih (v3 + 1) m_10))))) n
theorem wp_X4_pass_L54_s (v1 : Int32) (v2 : Int32) (K : Int32 → Mem → Prop) (n : Nat) (v3 : Int32) (μ : Mem) : wp_X4_pass_L54 v1 v2 K (n + 1) v3 μ = (
    let ih := wp_X4_pass_L54 v1 v2 K n
    ((v1 ≤ v3 → (wp_X3_peopleWho 1 2 μ (fun r_9 m_8 => K (r_9 - v2) m_8))) ∧ (¬ v1 ≤ v3 → (wp_X3_tick 1 μ (fun m_10 => ih (v3 + 1) m_10))))) := rfl
noncomputable def wp_X4_pass (a1 : Int32) (μ : Mem) (K : Int32 → Mem → Prop) : Prop :=
    ((a1 < 1 → K (-2) μ) ∧ (¬ a1 < 1 → ((a1 ≤ 99 → ((((μ 1 5) + a1) ≤ 9999 → (wp_X0_keep 1 μ (fun m_4 => (wp_X3_peopleWho 1 2 m_4 (fun r_6 m_5 => (∃ n, wp_X4_pass_L54 a1 r_6 K n 0 m_5)))))) ∧ (¬ ((μ 1 5) + a1) ≤ 9999 → K (-4) μ))) ∧ (¬ a1 ≤ 99 → K (-2) μ))))
set_option maxHeartbeats 4000000 in
set_option maxRecDepth 100000 in
theorem t_X4_pass_L54 {g : Gv} {ad : Nat → Nat} {l : Launch} {p : Program} {e : Env} {s : State} {m : MethodId} {args : Array Value} {below : List Frame} {meth : Method} {c : Code} (C : Cx g p s m args meth c "StairBows" cX4_pass 4 (some .int)) {v1 : Int32} {v2 : Int32}  {K : Int32 → Mem → Prop}    : ∀ (n : Nat) (v3 : Int32) (μ : Mem) (H : Heap) (locs : List Loc) (ls : Array Slot), wp_X4_pass_L54 v1 v2 K n v3 μ → Wd g ad μ (Aw ad s.heap.size) s H locs → lv_has ls 4 [(0, .ref (ad 0)), (1, .int v1), (2, .int v2), (3, .int v3)] → W p l e rm_X4_pass s m args below meth c H locs 0 0 (MQ below (PostI g ad s.heap.size K) args s 0 0 (Aw ad s.heap.size)) (F0 m 54 ls []) := by
  obtain ⟨hx, hb, hml, -, hts, hown, -, -, hN⟩ := id C
  intro n
  induction n with
  | zero =>
    intro v3 μ H locs ls h w hl
    exact (show False from h).elim
  | succ n ih =>
    intro v3 μ H locs ls h w hl
    rw [wp_X4_pass_L54_s] at h
    dsimp only at h
    refine lv_iload_n hx hb dX4_pass_54 rfl (lv_at hl 3 rfl) ?_
    refine lv_iload_n hx hb dX4_pass_55 rfl (lv_at hl 1 rfl) ?_
    refine lv_icmp_ge (tgt := 72) hx hb dX4_pass_56 (by decide) (fun c_7 => ?_) (fun c_7 => ?_)
    · have h := h.1 c_7
      refine lv_aload_n hx hb dX4_pass_72 rfl (lv_at hl 0 rfl) ?_
      refine x_getX C w (k := 0) (v := .ref (ad 1)) (by decide) rfl mf_StairBows_10 dX4_pass_73 ?_
      refine lv_iconst (v := 2) hx hb dX4_pass_76 (by decide) ?_
      refine x_calli C w (x_runV (i := 1) (As := [.int 2]) (rest := []) C w (rfl : kd 1 = 9) (by decide) (ci := 3) rfl rfl rfl me_X3_peopleWho ml_StairBows_120 (c_X3_peopleWho l g ad μ _ 1 (rfl : kd 1 = 9) 2 h) ⟨rfl, rfl⟩ ⟨Nat.le_of_ble_eq_true rfl, Nat.le_of_ble_eq_true rfl⟩ rfl hl.1 rfl (Nat.le_of_ble_eq_true rfl) dX4_pass_77 ⟨Nat.le_of_ble_eq_true rfl, Nat.le_of_ble_eq_true rfl⟩) (fun r_9 m_8 h H locs w => ?_)
      refine lv_iload_n hx hb dX4_pass_80 rfl (lv_at hl 2 rfl) ?_
      refine lv_isub hx hb dX4_pass_81 ?_
      exact x_iret C w h dX4_pass_82
    · have h := h.2 c_7
      refine lv_aload_n hx hb dX4_pass_59 rfl (lv_at hl 0 rfl) ?_
      refine x_getX C w (k := 0) (v := .ref (ad 1)) (by decide) rfl mf_StairBows_10 dX4_pass_60 ?_
      refine x_callv C w (x_runV (i := 1) (As := []) (rest := []) C w (rfl : kd 1 = 9) (by decide) (ci := 3) rfl rfl rfl me_X3_tick ml_StairBows_123 (c_X3_tick l g ad μ _ 1 (rfl : kd 1 = 9) h) ⟨rfl, rfl⟩ ⟨Nat.le_of_ble_eq_true rfl, Nat.le_of_ble_eq_true rfl⟩ rfl hl.1 rfl (Nat.le_of_ble_eq_true rfl) dX4_pass_63 ⟨Nat.le_of_ble_eq_true rfl, Nat.le_of_ble_eq_true rfl⟩) (fun m_10 h H locs w => ?_)
      refine lv_iinc (v := (v3 + 1)) (lv' := [(3, .int (v3 + 1)), (0, .ref (ad 0)), (1, .int v1), (2, .int v2)]) hx hb dX4_pass_66 hl (k := 3) rfl rfl (by decide) rfl (fun ls hl => ?_)
      refine lv_goto (tgt := 54) hx hb dX4_pass_69 (by decide) ?_
      exact ih (v3 + 1) m_10 _ _ _ h w (lv_sub hl [1, 2, 3, 0] rfl)
set_option maxHeartbeats 4000000 in
set_option maxRecDepth 100000 in
theorem c_X4_pass (l : Launch) (g : Gv) (ad : Nat → Nat) (μ : Mem) (sz : Nat) (a1 : Int32) {K : Int32 → Mem → Prop} (h : wp_X4_pass a1 μ K) : Met l yX4_pass (wX yX4_pass cX4_pass 4 (some .int)) rm_X4_pass (Pre g ad μ sz [.ref (ad 0), .int a1]) (PostI g ad sz K) 0 0 (Aw ad sz) := by
  refine Met.ofW (cc := cX4_pass) (maxL := 4) (ret := (some .int)) (by decide) rfl ?_
  intro p e s m args below meth c s₁ B hml hv
  obtain ⟨rfl, rfl, C, w⟩ := x_start B hml hv
  obtain ⟨hx, hb, hml, -, hts, hown, -, -, hN⟩ := id C
  have hl := lv_entry ([.ref (ad 0), .int a1]) (n := 4) (Nat.le_of_ble_eq_true rfl)
  rw [lg_entry_eq]
  generalize (lg_sl ([.ref (ad 0), .int a1]) ++ List.replicate (4 - (lg_sl ([.ref (ad 0), .int a1])).length) Slot.unset).toArray = ls at hl ⊢
  have hl : lv_has ls 4 [(0, .ref (ad 0)), (1, .int a1)] := hl
  show W p l e rm_X4_pass s m _ below meth c s.heap [] 0 0 _ _
  unfold wp_X4_pass at h
  refine lv_iload_n hx hb dX4_pass_0 rfl (lv_at hl 1 rfl) ?_
  refine lv_iconst (v := 1) hx hb dX4_pass_1 (by decide) ?_
  refine lv_icmp_lt (tgt := 11) hx hb dX4_pass_2 (by decide) (fun c_1 => ?_) (fun c_1 => ?_)
  · have h := h.1 c_1
    refine lv_bipush (v := -2) hx hb dX4_pass_11 (by decide) ?_
    exact x_iret C w h dX4_pass_13
  · have h := h.2 c_1
    refine lv_iload_n hx hb dX4_pass_5 rfl (lv_at hl 1 rfl) ?_
    refine lv_bipush (v := 99) hx hb dX4_pass_6 (by decide) ?_
    refine lv_icmp_le (tgt := 14) hx hb dX4_pass_8 (by decide) (fun c_2 => ?_) (fun c_2 => ?_)
    · have h := h.1 c_2
      refine lv_aload_n hx hb dX4_pass_14 rfl (lv_at hl 0 rfl) ?_
      refine x_getX C w (k := 0) (v := .ref (ad 1)) (by decide) rfl mf_StairBows_10 dX4_pass_15 ?_
      refine x_getS C w (i := 1) (k := 5) (v := .int (μ 1 5)) (rfl : kd 1 = 9) (by decide) rfl mf_StairBows_117 dX4_pass_18 ?_
      refine lv_iload_n hx hb dX4_pass_21 rfl (lv_at hl 1 rfl) ?_
      refine lv_iadd hx hb dX4_pass_22 ?_
      refine lv_sipush (v := 9999) hx hb dX4_pass_23 (by decide) ?_
      refine lv_icmp_le (tgt := 32) hx hb dX4_pass_26 (by decide) (fun c_3 => ?_) (fun c_3 => ?_)
      · have h := h.1 c_3
        refine lv_aload_n hx hb dX4_pass_32 rfl (lv_at hl 0 rfl) ?_
        refine x_getX C w (k := 2) (v := .ref (ad 57)) (by decide) rfl mf_StairBows_22 dX4_pass_33 ?_
        refine lv_aload_n hx hb dX4_pass_36 rfl (lv_at hl 0 rfl) ?_
        refine x_getX C w (k := 0) (v := .ref (ad 1)) (by decide) rfl mf_StairBows_10 dX4_pass_37 ?_
        refine x_callv C w (x_runV (i := 57) (As := [.ref (ad 1)]) (rest := []) C w (rfl : kd 57 = 1) (by decide) (ci := 0) rfl rfl rfl me_X0_keep ml_StairBows_56 (c_X0_keep l g ad μ _ 1 (rfl : kd 1 = 9) h) ⟨rfl, rfl⟩ ⟨Nat.le_of_ble_eq_true rfl, Nat.le_of_ble_eq_true rfl⟩ rfl hl.1 rfl (Nat.le_of_ble_eq_true rfl) dX4_pass_40 ⟨Nat.le_of_ble_eq_true rfl, Nat.le_of_ble_eq_true rfl⟩) (fun m_4 h H locs w => ?_)
        refine lv_aload_n hx hb dX4_pass_43 rfl (lv_at hl 0 rfl) ?_
        refine x_getX C w (k := 0) (v := .ref (ad 1)) (by decide) rfl mf_StairBows_10 dX4_pass_44 ?_
        refine lv_iconst (v := 2) hx hb dX4_pass_47 (by decide) ?_
        refine x_calli C w (x_runV (i := 1) (As := [.int 2]) (rest := []) C w (rfl : kd 1 = 9) (by decide) (ci := 3) rfl rfl rfl me_X3_peopleWho ml_StairBows_120 (c_X3_peopleWho l g ad m_4 _ 1 (rfl : kd 1 = 9) 2 h) ⟨rfl, rfl⟩ ⟨Nat.le_of_ble_eq_true rfl, Nat.le_of_ble_eq_true rfl⟩ rfl hl.1 rfl (Nat.le_of_ble_eq_true rfl) dX4_pass_48 ⟨Nat.le_of_ble_eq_true rfl, Nat.le_of_ble_eq_true rfl⟩) (fun r_6 m_5 h H locs w => ?_)
        refine lv_istore_n (lv' := [(2, .int r_6), (0, .ref (ad 0)), (1, .int a1)]) hx hb dX4_pass_51 rfl hl (by decide) rfl (fun ls hl => ?_)
        refine lv_iconst (v := 0) hx hb dX4_pass_52 (by decide) ?_
        refine lv_istore_n (lv' := [(3, .int 0), (2, .int r_6), (0, .ref (ad 0)), (1, .int a1)]) hx hb dX4_pass_53 rfl hl (by decide) rfl (fun ls hl => ?_)
        obtain ⟨n_11, h⟩ := h
        exact t_X4_pass_L54 C n_11 0 m_5 _ _ _ h w (lv_sub hl [2, 3, 1, 0] rfl)
      · have h := h.2 c_3
        refine lv_bipush (v := -4) hx hb dX4_pass_29 (by decide) ?_
        exact x_iret C w h dX4_pass_31
    · have h := h.2 c_2
      refine lv_bipush (v := -2) hx hb dX4_pass_11 (by decide) ?_
      exact x_iret C w h dX4_pass_13
abbrev rm_X4_person : Room := { frames := 2, cells := 0, slots := 0, locals := 41 }
noncomputable def wp_X4_person (a1 : Int32) (a2 : Int32) (μ : Mem) (K : Int32 → Mem → Prop) : Prop :=
    (wp_X4_isPerson a1 μ (fun r_2 m_1 => ((¬ r_2 = 0 → (vp_in a1 24 ∧ (wp_X2_tell (3 + 2 + a1.toNatClampNeg) a2 m_1 (fun r_6 m_5 => K r_6 m_5)))) ∧ (r_2 = 0 → K (-1) m_1))))
set_option maxHeartbeats 4000000 in
set_option maxRecDepth 100000 in
theorem c_X4_person (l : Launch) (g : Gv) (ad : Nat → Nat) (μ : Mem) (sz : Nat) (a1 : Int32) (a2 : Int32) {K : Int32 → Mem → Prop} (h : wp_X4_person a1 a2 μ K) : Met l yX4_person (wX yX4_person cX4_person 3 (some .int)) rm_X4_person (Pre g ad μ sz [.ref (ad 0), .int a1, .int a2]) (PostI g ad sz K) 0 0 (Aw ad sz) := by
  refine Met.ofW (cc := cX4_person) (maxL := 3) (ret := (some .int)) (by decide) rfl ?_
  intro p e s m args below meth c s₁ B hml hv
  obtain ⟨rfl, rfl, C, w⟩ := x_start B hml hv
  obtain ⟨hx, hb, hml, -, hts, hown, -, -, hN⟩ := id C
  have hl := lv_entry ([.ref (ad 0), .int a1, .int a2]) (n := 3) (Nat.le_of_ble_eq_true rfl)
  rw [lg_entry_eq]
  generalize (lg_sl ([.ref (ad 0), .int a1, .int a2]) ++ List.replicate (3 - (lg_sl ([.ref (ad 0), .int a1, .int a2])).length) Slot.unset).toArray = ls at hl ⊢
  have hl : lv_has ls 3 [(0, .ref (ad 0)), (1, .int a1), (2, .int a2)] := hl
  show W p l e rm_X4_person s m _ below meth c s.heap [] 0 0 _ _
  unfold wp_X4_person at h
  refine lv_aload_n hx hb dX4_person_0 rfl (lv_at hl 0 rfl) ?_
  refine lv_iload_n hx hb dX4_person_1 rfl (lv_at hl 1 rfl) ?_
  refine x_calli C w (x_runV (i := 0) (As := [.int a1]) (rest := []) C w (rfl : kd 0 = 0) (by decide) (ci := 4) rfl rfl rfl me_X4_isPerson ml_StairBows_101 (c_X4_isPerson l g ad μ _ a1 h) ⟨rfl, rfl⟩ ⟨Nat.le_of_ble_eq_true rfl, Nat.le_of_ble_eq_true rfl⟩ rfl hl.1 rfl (Nat.le_of_ble_eq_true rfl) dX4_person_2 ⟨Nat.le_of_ble_eq_true rfl, Nat.le_of_ble_eq_true rfl⟩) (fun r_2 m_1 h H locs w => ?_)
  refine lv_if_ne (tgt := 10) hx hb dX4_person_5 (by decide) (fun c_3 => ?_) (fun c_3 => ?_)
  · have h := h.1 c_3
    refine lv_aload_n hx hb dX4_person_10 rfl (lv_at hl 0 rfl) ?_
    refine x_getX C w (k := 0) (v := .ref (ad 1)) (by decide) rfl mf_StairBows_10 dX4_person_11 ?_
    refine x_getS C w (i := 1) (k := 1) (v := .ref (ad 3)) (rfl : kd 1 = 9) (by decide) rfl mf_StairBows_104 dX4_person_14 ?_
    refine lv_iload_n hx hb dX4_person_17 rfl (lv_at hl 1 rfl) ?_
    have hi := h.1
    have h := h.2
    refine x_aldP C w (kS2 (rfl : kd 1 = 9)) hi dX4_person_18 ?_
    have k_4 := kSP (kS2 (rfl : kd 1 = 9)) hi
    refine lv_iload_n hx hb dX4_person_19 rfl (lv_at hl 2 rfl) ?_
    refine x_calli C w (x_runV (i := (3 + 2 + a1.toNatClampNeg)) (As := [.int a2]) (rest := []) C w k_4 (by decide) (ci := 2) rfl rfl rfl me_X2_tell ml_StairBows_126 (c_X2_tell l g ad m_1 _ (3 + 2 + a1.toNatClampNeg) k_4 a2 h) ⟨rfl, rfl⟩ ⟨Nat.le_of_ble_eq_true rfl, Nat.le_of_ble_eq_true rfl⟩ rfl hl.1 rfl (Nat.le_of_ble_eq_true rfl) dX4_person_20 ⟨Nat.le_of_ble_eq_true rfl, Nat.le_of_ble_eq_true rfl⟩) (fun r_6 m_5 h H locs w => ?_)
    exact x_iret C w h dX4_person_23
  · have h := h.2 c_3
    refine lv_iconst (v := -1) hx hb dX4_person_8 (by decide) ?_
    exact x_iret C w h dX4_person_9
abbrev rm_X4_step : Room := { frames := 3, cells := 0, slots := 0, locals := 62 }
noncomputable def wp_X4_step (a1 : Int32) (a2 : Int32) (μ : Mem) (K : Int32 → Mem → Prop) : Prop :=
    (wp_X4_isStep a1 μ (fun r_2 m_1 => ((¬ r_2 = 0 → (((a2.toInt < 0 ∨ 3 < a2.toInt) → K (-2) m_1) ∧ (a2.toInt = 0 → (wp_X3_isLanding 1 a1 m_1 (fun r_6 m_5 => ((r_6 = 0 → K 0 m_5) ∧ (¬ r_6 = 0 → K 1 m_5))))) ∧ (a2.toInt = 1 → (wp_X3_crowdOn 1 a1 m_1 (fun r_10 m_9 => K r_10 m_9))) ∧ (a2.toInt = 2 → (wp_X3_roomOn 1 a1 m_1 (fun r_13 m_12 => K r_13 m_12))) ∧ (a2.toInt = 3 → (wp_X3_highestOn 1 a1 m_1 (fun r_16 m_15 => K r_16 m_15))))) ∧ (r_2 = 0 → K (-1) m_1))))
set_option maxHeartbeats 4000000 in
set_option maxRecDepth 100000 in
theorem c_X4_step (l : Launch) (g : Gv) (ad : Nat → Nat) (μ : Mem) (sz : Nat) (a1 : Int32) (a2 : Int32) {K : Int32 → Mem → Prop} (h : wp_X4_step a1 a2 μ K) : Met l yX4_step (wX yX4_step cX4_step 3 (some .int)) rm_X4_step (Pre g ad μ sz [.ref (ad 0), .int a1, .int a2]) (PostI g ad sz K) 0 0 (Aw ad sz) := by
  refine Met.ofW (cc := cX4_step) (maxL := 3) (ret := (some .int)) (by decide) rfl ?_
  intro p e s m args below meth c s₁ B hml hv
  obtain ⟨rfl, rfl, C, w⟩ := x_start B hml hv
  obtain ⟨hx, hb, hml, -, hts, hown, -, -, hN⟩ := id C
  have hl := lv_entry ([.ref (ad 0), .int a1, .int a2]) (n := 3) (Nat.le_of_ble_eq_true rfl)
  rw [lg_entry_eq]
  generalize (lg_sl ([.ref (ad 0), .int a1, .int a2]) ++ List.replicate (3 - (lg_sl ([.ref (ad 0), .int a1, .int a2])).length) Slot.unset).toArray = ls at hl ⊢
  have hl : lv_has ls 3 [(0, .ref (ad 0)), (1, .int a1), (2, .int a2)] := hl
  show W p l e rm_X4_step s m _ below meth c s.heap [] 0 0 _ _
  unfold wp_X4_step at h
  refine lv_iload_n hx hb dX4_step_0 rfl (lv_at hl 1 rfl) ?_
  refine x_calli C w (x_runS (As := [.int a1]) (rest := []) C w me_X4_isStep ml_StairBows_63 (c_X4_isStep l g ad μ _ a1 h) ⟨rfl, rfl⟩ ⟨Nat.le_of_ble_eq_true rfl, Nat.le_of_ble_eq_true rfl⟩ rfl hl.1 rfl (Nat.le_of_ble_eq_true rfl) dX4_step_1 ⟨Nat.le_of_ble_eq_true rfl, Nat.le_of_ble_eq_true rfl⟩) (fun r_2 m_1 h H locs w => ?_)
  refine lv_if_ne (tgt := 9) hx hb dX4_step_4 (by decide) (fun c_3 => ?_) (fun c_3 => ?_)
  · have h := h.1 c_3
    refine lv_iload_n hx hb dX4_step_9 rfl (lv_at hl 2 rfl) ?_
    by_cases c_4 : a2.toInt < 0 ∨ 3 < a2.toInt
    · have h := h.1 c_4
      refine lv_tableOut (tgt := 84) hx hb dX4_step_10 c_4 (by decide) ?_
      refine lv_bipush (v := -2) hx hb dX4_step_84 (by decide) ?_
      exact x_iret C w h dX4_step_86
    · by_cases c_8 : a2.toInt = 0
      · have h := h.2.1 c_8
        refine lv_tableIn (off := 30) (tgt := 40) hx hb dX4_step_10 (by omega) (by omega) (by rw [c_8]; rfl) (by decide) ?_
        refine lv_aload_n hx hb dX4_step_40 rfl (lv_at hl 0 rfl) ?_
        refine x_getX C w (k := 0) (v := .ref (ad 1)) (by decide) rfl mf_StairBows_10 dX4_step_41 ?_
        refine lv_iload_n hx hb dX4_step_44 rfl (lv_at hl 1 rfl) ?_
        refine x_calli C w (x_runV (i := 1) (As := [.int a1]) (rest := []) C w (rfl : kd 1 = 9) (by decide) (ci := 3) rfl rfl rfl me_X3_isLanding ml_StairBows_66 (c_X3_isLanding l g ad m_1 _ 1 (rfl : kd 1 = 9) a1 h) ⟨rfl, rfl⟩ ⟨Nat.le_of_ble_eq_true rfl, Nat.le_of_ble_eq_true rfl⟩ rfl hl.1 rfl (Nat.le_of_ble_eq_true rfl) dX4_step_45 ⟨Nat.le_of_ble_eq_true rfl, Nat.le_of_ble_eq_true rfl⟩) (fun r_6 m_5 h H locs w => ?_)
        refine lv_if_eq (tgt := 55) hx hb dX4_step_48 (by decide) (fun c_7 => ?_) (fun c_7 => ?_)
        · have h := h.1 c_7
          refine lv_iconst (v := 0) hx hb dX4_step_55 (by decide) ?_
          exact x_iret C w h dX4_step_56
        · have h := h.2 c_7
          refine lv_iconst (v := 1) hx hb dX4_step_51 (by decide) ?_
          refine lv_goto (tgt := 56) hx hb dX4_step_52 (by decide) ?_
          exact x_iret C w h dX4_step_56
      · by_cases c_11 : a2.toInt = 1
        · have h := h.2.2.1 c_11
          refine lv_tableIn (off := 47) (tgt := 57) hx hb dX4_step_10 (by omega) (by omega) (by rw [c_11]; rfl) (by decide) ?_
          refine lv_aload_n hx hb dX4_step_57 rfl (lv_at hl 0 rfl) ?_
          refine x_getX C w (k := 0) (v := .ref (ad 1)) (by decide) rfl mf_StairBows_10 dX4_step_58 ?_
          refine lv_iload_n hx hb dX4_step_61 rfl (lv_at hl 1 rfl) ?_
          refine x_calli C w (x_runV (i := 1) (As := [.int a1]) (rest := []) C w (rfl : kd 1 = 9) (by decide) (ci := 3) rfl rfl rfl me_X3_crowdOn ml_StairBows_69 (c_X3_crowdOn l g ad m_1 _ 1 (rfl : kd 1 = 9) a1 h) ⟨rfl, rfl⟩ ⟨Nat.le_of_ble_eq_true rfl, Nat.le_of_ble_eq_true rfl⟩ rfl hl.1 rfl (Nat.le_of_ble_eq_true rfl) dX4_step_62 ⟨Nat.le_of_ble_eq_true rfl, Nat.le_of_ble_eq_true rfl⟩) (fun r_10 m_9 h H locs w => ?_)
          exact x_iret C w h dX4_step_65
        · by_cases c_14 : a2.toInt = 2
          · have h := h.2.2.2.1 c_14
            refine lv_tableIn (off := 56) (tgt := 66) hx hb dX4_step_10 (by omega) (by omega) (by rw [c_14]; rfl) (by decide) ?_
            refine lv_aload_n hx hb dX4_step_66 rfl (lv_at hl 0 rfl) ?_
            refine x_getX C w (k := 0) (v := .ref (ad 1)) (by decide) rfl mf_StairBows_10 dX4_step_67 ?_
            refine lv_iload_n hx hb dX4_step_70 rfl (lv_at hl 1 rfl) ?_
            refine x_calli C w (x_runV (i := 1) (As := [.int a1]) (rest := []) C w (rfl : kd 1 = 9) (by decide) (ci := 3) rfl rfl rfl me_X3_roomOn ml_StairBows_129 (c_X3_roomOn l g ad m_1 _ 1 (rfl : kd 1 = 9) a1 h) ⟨rfl, rfl⟩ ⟨Nat.le_of_ble_eq_true rfl, Nat.le_of_ble_eq_true rfl⟩ rfl hl.1 rfl (Nat.le_of_ble_eq_true rfl) dX4_step_71 ⟨Nat.le_of_ble_eq_true rfl, Nat.le_of_ble_eq_true rfl⟩) (fun r_13 m_12 h H locs w => ?_)
            exact x_iret C w h dX4_step_74
          · have c_17 : a2.toInt = 3 := by omega
            have h := h.2.2.2.2 c_17
            refine lv_tableIn (off := 65) (tgt := 75) hx hb dX4_step_10 (by omega) (by omega) (by rw [c_17]; rfl) (by decide) ?_
            refine lv_aload_n hx hb dX4_step_75 rfl (lv_at hl 0 rfl) ?_
            refine x_getX C w (k := 0) (v := .ref (ad 1)) (by decide) rfl mf_StairBows_10 dX4_step_76 ?_
            refine lv_iload_n hx hb dX4_step_79 rfl (lv_at hl 1 rfl) ?_
            refine x_calli C w (x_runV (i := 1) (As := [.int a1]) (rest := []) C w (rfl : kd 1 = 9) (by decide) (ci := 3) rfl rfl rfl me_X3_highestOn ml_StairBows_132 (c_X3_highestOn l g ad m_1 _ 1 (rfl : kd 1 = 9) a1 h) ⟨rfl, rfl⟩ ⟨Nat.le_of_ble_eq_true rfl, Nat.le_of_ble_eq_true rfl⟩ rfl hl.1 rfl (Nat.le_of_ble_eq_true rfl) dX4_step_80 ⟨Nat.le_of_ble_eq_true rfl, Nat.le_of_ble_eq_true rfl⟩) (fun r_16 m_15 h H locs w => ?_)
            exact x_iret C w h dX4_step_83
  · have h := h.2 c_3
    refine lv_iconst (v := -1) hx hb dX4_step_7 (by decide) ?_
    exact x_iret C w h dX4_step_8
abbrev rm_X4_does : Room := { frames := 6, cells := 0, slots := 0, locals := 131 }
noncomputable def wp_X4_does (a1 : Int32) (μ : Mem) (K : Int32 → Mem → Prop) : Prop :=
    (wp_X4_isPerson a1 μ (fun r_2 m_1 => ((¬ r_2 = 0 → (wp_X3_takeFrom 29 1 m_1 (fun m_4 => (wp_X3_tick 29 m_4 (fun m_5 => (vp_in a1 24 ∧ K (m_5 (31 + 2 + a1.toNatClampNeg) 9) m_5)))))) ∧ (r_2 = 0 → K (-1) m_1))))
set_option maxHeartbeats 4000000 in
set_option maxRecDepth 100000 in
theorem c_X4_does (l : Launch) (g : Gv) (ad : Nat → Nat) (μ : Mem) (sz : Nat) (a1 : Int32) {K : Int32 → Mem → Prop} (h : wp_X4_does a1 μ K) : Met l yX4_does (wX yX4_does cX4_does 2 (some .int)) rm_X4_does (Pre g ad μ sz [.ref (ad 0), .int a1]) (PostI g ad sz K) 0 0 (Aw ad sz) := by
  refine Met.ofW (cc := cX4_does) (maxL := 2) (ret := (some .int)) (by decide) rfl ?_
  intro p e s m args below meth c s₁ B hml hv
  obtain ⟨rfl, rfl, C, w⟩ := x_start B hml hv
  obtain ⟨hx, hb, hml, -, hts, hown, -, -, hN⟩ := id C
  have hl := lv_entry ([.ref (ad 0), .int a1]) (n := 2) (Nat.le_of_ble_eq_true rfl)
  rw [lg_entry_eq]
  generalize (lg_sl ([.ref (ad 0), .int a1]) ++ List.replicate (2 - (lg_sl ([.ref (ad 0), .int a1])).length) Slot.unset).toArray = ls at hl ⊢
  have hl : lv_has ls 2 [(0, .ref (ad 0)), (1, .int a1)] := hl
  show W p l e rm_X4_does s m _ below meth c s.heap [] 0 0 _ _
  unfold wp_X4_does at h
  refine lv_aload_n hx hb dX4_does_0 rfl (lv_at hl 0 rfl) ?_
  refine lv_iload_n hx hb dX4_does_1 rfl (lv_at hl 1 rfl) ?_
  refine x_calli C w (x_runV (i := 0) (As := [.int a1]) (rest := []) C w (rfl : kd 0 = 0) (by decide) (ci := 4) rfl rfl rfl me_X4_isPerson ml_StairBows_101 (c_X4_isPerson l g ad μ _ a1 h) ⟨rfl, rfl⟩ ⟨Nat.le_of_ble_eq_true rfl, Nat.le_of_ble_eq_true rfl⟩ rfl hl.1 rfl (Nat.le_of_ble_eq_true rfl) dX4_does_2 ⟨Nat.le_of_ble_eq_true rfl, Nat.le_of_ble_eq_true rfl⟩) (fun r_2 m_1 h H locs w => ?_)
  refine lv_if_ne (tgt := 10) hx hb dX4_does_5 (by decide) (fun c_3 => ?_) (fun c_3 => ?_)
  · have h := h.1 c_3
    refine lv_aload_n hx hb dX4_does_10 rfl (lv_at hl 0 rfl) ?_
    refine x_getX C w (k := 1) (v := .ref (ad 29)) (by decide) rfl mf_StairBows_16 dX4_does_11 ?_
    refine lv_aload_n hx hb dX4_does_14 rfl (lv_at hl 0 rfl) ?_
    refine x_getX C w (k := 0) (v := .ref (ad 1)) (by decide) rfl mf_StairBows_10 dX4_does_15 ?_
    refine x_callv C w (x_runV (i := 29) (As := [.ref (ad 1)]) (rest := []) C w (rfl : kd 29 = 9) (by decide) (ci := 3) rfl rfl rfl me_X3_takeFrom ml_StairBows_135 (c_X3_takeFrom l g ad m_1 _ 29 (rfl : kd 29 = 9) 1 (rfl : kd 1 = 9) h) ⟨rfl, rfl⟩ ⟨Nat.le_of_ble_eq_true rfl, Nat.le_of_ble_eq_true rfl⟩ rfl hl.1 rfl (Nat.le_of_ble_eq_true rfl) dX4_does_18 ⟨Nat.le_of_ble_eq_true rfl, Nat.le_of_ble_eq_true rfl⟩) (fun m_4 h H locs w => ?_)
    refine lv_aload_n hx hb dX4_does_21 rfl (lv_at hl 0 rfl) ?_
    refine x_getX C w (k := 1) (v := .ref (ad 29)) (by decide) rfl mf_StairBows_16 dX4_does_22 ?_
    refine x_callv C w (x_runV (i := 29) (As := []) (rest := []) C w (rfl : kd 29 = 9) (by decide) (ci := 3) rfl rfl rfl me_X3_tick ml_StairBows_123 (c_X3_tick l g ad m_4 _ 29 (rfl : kd 29 = 9) h) ⟨rfl, rfl⟩ ⟨Nat.le_of_ble_eq_true rfl, Nat.le_of_ble_eq_true rfl⟩ rfl hl.1 rfl (Nat.le_of_ble_eq_true rfl) dX4_does_25 ⟨Nat.le_of_ble_eq_true rfl, Nat.le_of_ble_eq_true rfl⟩) (fun m_5 h H locs w => ?_)
    refine lv_aload_n hx hb dX4_does_28 rfl (lv_at hl 0 rfl) ?_
    refine x_getX C w (k := 1) (v := .ref (ad 29)) (by decide) rfl mf_StairBows_16 dX4_does_29 ?_
    refine x_getS C w (i := 29) (k := 1) (v := .ref (ad 31)) (rfl : kd 29 = 9) (by decide) rfl mf_StairBows_104 dX4_does_32 ?_
    refine lv_iload_n hx hb dX4_does_35 rfl (lv_at hl 1 rfl) ?_
    have hi := h.1
    have h := h.2
    refine x_aldP C w (kS2 (rfl : kd 29 = 9)) hi dX4_does_36 ?_
    have k_6 := kSP (kS2 (rfl : kd 29 = 9)) hi
    refine x_getP C w (i := (31 + 2 + a1.toNatClampNeg)) (k := 9) k_6 (by decide) mf_StairBows_138 dX4_does_37 ?_
    exact x_iret C w h dX4_does_40
  · have h := h.2 c_3
    refine lv_iconst (v := -1) hx hb dX4_does_8 (by decide) ?_
    exact x_iret C w h dX4_does_9
abbrev rm_X4_count : Room := { frames := 3, cells := 0, slots := 0, locals := 64 }
noncomputable def wp_X4_count (a1 : Int32) (μ : Mem) (K : Int32 → Mem → Prop) : Prop :=
    (wp_X4_isSetting a1 μ (fun r_2 m_1 => ((r_2 = 0 → (((a1.toInt < 3 ∨ 14 < a1.toInt) → K (-2) m_1) ∧ (a1.toInt = 3 → K (m_1 1 5) m_1) ∧ (a1.toInt = 4 → K (m_1 1 4) m_1) ∧ (a1.toInt = 5 → (wp_X3_peopleWho 1 0 m_1 (fun r_8 m_7 => K r_8 m_7))) ∧ (a1.toInt = 6 → (wp_X3_peopleWho 1 1 m_1 (fun r_11 m_10 => K r_11 m_10))) ∧ (a1.toInt = 7 → (wp_X3_peopleWho 1 2 m_1 (fun r_14 m_13 => K r_14 m_13))) ∧ (a1.toInt = 8 → (wp_X3_peopleWho 1 3 m_1 (fun r_17 m_16 => K r_17 m_16))) ∧ (a1.toInt = 9 → K (m_1 1 3) m_1) ∧ (a1.toInt = 10 → (wp_X3_sumOf 1 6 m_1 (fun r_21 m_20 => K r_21 m_20))) ∧ (a1.toInt = 11 → (wp_X3_sumOf 1 5 m_1 (fun r_24 m_23 => K r_24 m_23))) ∧ (a1.toInt = 12 → (wp_X3_sumOf 1 4 m_1 (fun r_27 m_26 => K r_27 m_26))) ∧ (a1.toInt = 13 → K (m_1 229 1) m_1) ∧ (a1.toInt = 14 → K (m_1 57 1) m_1))) ∧ (¬ r_2 = 0 → (vp_in a1 3 ∧ K (m_1 2 a1.toNatClampNeg) m_1)))))
set_option maxHeartbeats 4000000 in
set_option maxRecDepth 100000 in
theorem c_X4_count (l : Launch) (g : Gv) (ad : Nat → Nat) (μ : Mem) (sz : Nat) (a1 : Int32) {K : Int32 → Mem → Prop} (h : wp_X4_count a1 μ K) : Met l yX4_count (wX yX4_count cX4_count 2 (some .int)) rm_X4_count (Pre g ad μ sz [.ref (ad 0), .int a1]) (PostI g ad sz K) 0 0 (Aw ad sz) := by
  refine Met.ofW (cc := cX4_count) (maxL := 2) (ret := (some .int)) (by decide) rfl ?_
  intro p e s m args below meth c s₁ B hml hv
  obtain ⟨rfl, rfl, C, w⟩ := x_start B hml hv
  obtain ⟨hx, hb, hml, -, hts, hown, -, -, hN⟩ := id C
  have hl := lv_entry ([.ref (ad 0), .int a1]) (n := 2) (Nat.le_of_ble_eq_true rfl)
  rw [lg_entry_eq]
  generalize (lg_sl ([.ref (ad 0), .int a1]) ++ List.replicate (2 - (lg_sl ([.ref (ad 0), .int a1])).length) Slot.unset).toArray = ls at hl ⊢
  have hl : lv_has ls 2 [(0, .ref (ad 0)), (1, .int a1)] := hl
  show W p l e rm_X4_count s m _ below meth c s.heap [] 0 0 _ _
  unfold wp_X4_count at h
  refine lv_iload_n hx hb dX4_count_0 rfl (lv_at hl 1 rfl) ?_
  refine x_calli C w (x_runS (As := [.int a1]) (rest := []) C w me_X4_isSetting ml_StairBows_41 (c_X4_isSetting l g ad μ _ a1 h) ⟨rfl, rfl⟩ ⟨Nat.le_of_ble_eq_true rfl, Nat.le_of_ble_eq_true rfl⟩ rfl hl.1 rfl (Nat.le_of_ble_eq_true rfl) dX4_count_1 ⟨Nat.le_of_ble_eq_true rfl, Nat.le_of_ble_eq_true rfl⟩) (fun r_2 m_1 h H locs w => ?_)
  refine lv_if_eq (tgt := 17) hx hb dX4_count_4 (by decide) (fun c_3 => ?_) (fun c_3 => ?_)
  · have h := h.1 c_3
    refine lv_iload_n hx hb dX4_count_17 rfl (lv_at hl 1 rfl) ?_
    by_cases c_4 : a1.toInt < 3 ∨ 14 < a1.toInt
    · have h := h.1 c_4
      refine lv_tableOut (tgt := 184) hx hb dX4_count_18 c_4 (by decide) ?_
      refine lv_bipush (v := -2) hx hb dX4_count_184 (by decide) ?_
      exact x_iret C w h dX4_count_186
    · by_cases c_5 : a1.toInt = 3
      · have h := h.2.1 c_5
        refine lv_tableIn (off := 62) (tgt := 80) hx hb dX4_count_18 (by omega) (by omega) (by rw [c_5]; rfl) (by decide) ?_
        refine lv_aload_n hx hb dX4_count_80 rfl (lv_at hl 0 rfl) ?_
        refine x_getX C w (k := 0) (v := .ref (ad 1)) (by decide) rfl mf_StairBows_10 dX4_count_81 ?_
        refine x_getS C w (i := 1) (k := 5) (v := .int (m_1 1 5)) (rfl : kd 1 = 9) (by decide) rfl mf_StairBows_117 dX4_count_84 ?_
        exact x_iret C w h dX4_count_87
      · by_cases c_6 : a1.toInt = 4
        · have h := h.2.2.1 c_6
          refine lv_tableIn (off := 70) (tgt := 88) hx hb dX4_count_18 (by omega) (by omega) (by rw [c_6]; rfl) (by decide) ?_
          refine lv_aload_n hx hb dX4_count_88 rfl (lv_at hl 0 rfl) ?_
          refine x_getX C w (k := 0) (v := .ref (ad 1)) (by decide) rfl mf_StairBows_10 dX4_count_89 ?_
          refine x_getS C w (i := 1) (k := 4) (v := .int (m_1 1 4)) (rfl : kd 1 = 9) (by decide) rfl mf_StairBows_82 dX4_count_92 ?_
          exact x_iret C w h dX4_count_95
        · by_cases c_9 : a1.toInt = 5
          · have h := h.2.2.2.1 c_9
            refine lv_tableIn (off := 78) (tgt := 96) hx hb dX4_count_18 (by omega) (by omega) (by rw [c_9]; rfl) (by decide) ?_
            refine lv_aload_n hx hb dX4_count_96 rfl (lv_at hl 0 rfl) ?_
            refine x_getX C w (k := 0) (v := .ref (ad 1)) (by decide) rfl mf_StairBows_10 dX4_count_97 ?_
            refine lv_iconst (v := 0) hx hb dX4_count_100 (by decide) ?_
            refine x_calli C w (x_runV (i := 1) (As := [.int 0]) (rest := []) C w (rfl : kd 1 = 9) (by decide) (ci := 3) rfl rfl rfl me_X3_peopleWho ml_StairBows_120 (c_X3_peopleWho l g ad m_1 _ 1 (rfl : kd 1 = 9) 0 h) ⟨rfl, rfl⟩ ⟨Nat.le_of_ble_eq_true rfl, Nat.le_of_ble_eq_true rfl⟩ rfl hl.1 rfl (Nat.le_of_ble_eq_true rfl) dX4_count_101 ⟨Nat.le_of_ble_eq_true rfl, Nat.le_of_ble_eq_true rfl⟩) (fun r_8 m_7 h H locs w => ?_)
            exact x_iret C w h dX4_count_104
          · by_cases c_12 : a1.toInt = 6
            · have h := h.2.2.2.2.1 c_12
              refine lv_tableIn (off := 87) (tgt := 105) hx hb dX4_count_18 (by omega) (by omega) (by rw [c_12]; rfl) (by decide) ?_
              refine lv_aload_n hx hb dX4_count_105 rfl (lv_at hl 0 rfl) ?_
              refine x_getX C w (k := 0) (v := .ref (ad 1)) (by decide) rfl mf_StairBows_10 dX4_count_106 ?_
              refine lv_iconst (v := 1) hx hb dX4_count_109 (by decide) ?_
              refine x_calli C w (x_runV (i := 1) (As := [.int 1]) (rest := []) C w (rfl : kd 1 = 9) (by decide) (ci := 3) rfl rfl rfl me_X3_peopleWho ml_StairBows_120 (c_X3_peopleWho l g ad m_1 _ 1 (rfl : kd 1 = 9) 1 h) ⟨rfl, rfl⟩ ⟨Nat.le_of_ble_eq_true rfl, Nat.le_of_ble_eq_true rfl⟩ rfl hl.1 rfl (Nat.le_of_ble_eq_true rfl) dX4_count_110 ⟨Nat.le_of_ble_eq_true rfl, Nat.le_of_ble_eq_true rfl⟩) (fun r_11 m_10 h H locs w => ?_)
              exact x_iret C w h dX4_count_113
            · by_cases c_15 : a1.toInt = 7
              · have h := h.2.2.2.2.2.1 c_15
                refine lv_tableIn (off := 96) (tgt := 114) hx hb dX4_count_18 (by omega) (by omega) (by rw [c_15]; rfl) (by decide) ?_
                refine lv_aload_n hx hb dX4_count_114 rfl (lv_at hl 0 rfl) ?_
                refine x_getX C w (k := 0) (v := .ref (ad 1)) (by decide) rfl mf_StairBows_10 dX4_count_115 ?_
                refine lv_iconst (v := 2) hx hb dX4_count_118 (by decide) ?_
                refine x_calli C w (x_runV (i := 1) (As := [.int 2]) (rest := []) C w (rfl : kd 1 = 9) (by decide) (ci := 3) rfl rfl rfl me_X3_peopleWho ml_StairBows_120 (c_X3_peopleWho l g ad m_1 _ 1 (rfl : kd 1 = 9) 2 h) ⟨rfl, rfl⟩ ⟨Nat.le_of_ble_eq_true rfl, Nat.le_of_ble_eq_true rfl⟩ rfl hl.1 rfl (Nat.le_of_ble_eq_true rfl) dX4_count_119 ⟨Nat.le_of_ble_eq_true rfl, Nat.le_of_ble_eq_true rfl⟩) (fun r_14 m_13 h H locs w => ?_)
                exact x_iret C w h dX4_count_122
              · by_cases c_18 : a1.toInt = 8
                · have h := h.2.2.2.2.2.2.1 c_18
                  refine lv_tableIn (off := 105) (tgt := 123) hx hb dX4_count_18 (by omega) (by omega) (by rw [c_18]; rfl) (by decide) ?_
                  refine lv_aload_n hx hb dX4_count_123 rfl (lv_at hl 0 rfl) ?_
                  refine x_getX C w (k := 0) (v := .ref (ad 1)) (by decide) rfl mf_StairBows_10 dX4_count_124 ?_
                  refine lv_iconst (v := 3) hx hb dX4_count_127 (by decide) ?_
                  refine x_calli C w (x_runV (i := 1) (As := [.int 3]) (rest := []) C w (rfl : kd 1 = 9) (by decide) (ci := 3) rfl rfl rfl me_X3_peopleWho ml_StairBows_120 (c_X3_peopleWho l g ad m_1 _ 1 (rfl : kd 1 = 9) 3 h) ⟨rfl, rfl⟩ ⟨Nat.le_of_ble_eq_true rfl, Nat.le_of_ble_eq_true rfl⟩ rfl hl.1 rfl (Nat.le_of_ble_eq_true rfl) dX4_count_128 ⟨Nat.le_of_ble_eq_true rfl, Nat.le_of_ble_eq_true rfl⟩) (fun r_17 m_16 h H locs w => ?_)
                  exact x_iret C w h dX4_count_131
                · by_cases c_19 : a1.toInt = 9
                  · have h := h.2.2.2.2.2.2.2.1 c_19
                    refine lv_tableIn (off := 114) (tgt := 132) hx hb dX4_count_18 (by omega) (by omega) (by rw [c_19]; rfl) (by decide) ?_
                    refine lv_aload_n hx hb dX4_count_132 rfl (lv_at hl 0 rfl) ?_
                    refine x_getX C w (k := 0) (v := .ref (ad 1)) (by decide) rfl mf_StairBows_10 dX4_count_133 ?_
                    refine x_getS C w (i := 1) (k := 3) (v := .int (m_1 1 3)) (rfl : kd 1 = 9) (by decide) rfl mf_StairBows_73 dX4_count_136 ?_
                    exact x_iret C w h dX4_count_139
                  · by_cases c_22 : a1.toInt = 10
                    · have h := h.2.2.2.2.2.2.2.2.1 c_22
                      refine lv_tableIn (off := 122) (tgt := 140) hx hb dX4_count_18 (by omega) (by omega) (by rw [c_22]; rfl) (by decide) ?_
                      refine lv_aload_n hx hb dX4_count_140 rfl (lv_at hl 0 rfl) ?_
                      refine x_getX C w (k := 0) (v := .ref (ad 1)) (by decide) rfl mf_StairBows_10 dX4_count_141 ?_
                      refine lv_bipush (v := 6) hx hb dX4_count_144 (by decide) ?_
                      refine x_calli C w (x_runV (i := 1) (As := [.int 6]) (rest := []) C w (rfl : kd 1 = 9) (by decide) (ci := 3) rfl rfl rfl me_X3_sumOf ml_StairBows_141 (c_X3_sumOf l g ad m_1 _ 1 (rfl : kd 1 = 9) 6 h) ⟨rfl, rfl⟩ ⟨Nat.le_of_ble_eq_true rfl, Nat.le_of_ble_eq_true rfl⟩ rfl hl.1 rfl (Nat.le_of_ble_eq_true rfl) dX4_count_146 ⟨Nat.le_of_ble_eq_true rfl, Nat.le_of_ble_eq_true rfl⟩) (fun r_21 m_20 h H locs w => ?_)
                      exact x_iret C w h dX4_count_149
                    · by_cases c_25 : a1.toInt = 11
                      · have h := h.2.2.2.2.2.2.2.2.2.1 c_25
                        refine lv_tableIn (off := 132) (tgt := 150) hx hb dX4_count_18 (by omega) (by omega) (by rw [c_25]; rfl) (by decide) ?_
                        refine lv_aload_n hx hb dX4_count_150 rfl (lv_at hl 0 rfl) ?_
                        refine x_getX C w (k := 0) (v := .ref (ad 1)) (by decide) rfl mf_StairBows_10 dX4_count_151 ?_
                        refine lv_iconst (v := 5) hx hb dX4_count_154 (by decide) ?_
                        refine x_calli C w (x_runV (i := 1) (As := [.int 5]) (rest := []) C w (rfl : kd 1 = 9) (by decide) (ci := 3) rfl rfl rfl me_X3_sumOf ml_StairBows_141 (c_X3_sumOf l g ad m_1 _ 1 (rfl : kd 1 = 9) 5 h) ⟨rfl, rfl⟩ ⟨Nat.le_of_ble_eq_true rfl, Nat.le_of_ble_eq_true rfl⟩ rfl hl.1 rfl (Nat.le_of_ble_eq_true rfl) dX4_count_155 ⟨Nat.le_of_ble_eq_true rfl, Nat.le_of_ble_eq_true rfl⟩) (fun r_24 m_23 h H locs w => ?_)
                        exact x_iret C w h dX4_count_158
                      · by_cases c_28 : a1.toInt = 12
                        · have h := h.2.2.2.2.2.2.2.2.2.2.1 c_28
                          refine lv_tableIn (off := 141) (tgt := 159) hx hb dX4_count_18 (by omega) (by omega) (by rw [c_28]; rfl) (by decide) ?_
                          refine lv_aload_n hx hb dX4_count_159 rfl (lv_at hl 0 rfl) ?_
                          refine x_getX C w (k := 0) (v := .ref (ad 1)) (by decide) rfl mf_StairBows_10 dX4_count_160 ?_
                          refine lv_iconst (v := 4) hx hb dX4_count_163 (by decide) ?_
                          refine x_calli C w (x_runV (i := 1) (As := [.int 4]) (rest := []) C w (rfl : kd 1 = 9) (by decide) (ci := 3) rfl rfl rfl me_X3_sumOf ml_StairBows_141 (c_X3_sumOf l g ad m_1 _ 1 (rfl : kd 1 = 9) 4 h) ⟨rfl, rfl⟩ ⟨Nat.le_of_ble_eq_true rfl, Nat.le_of_ble_eq_true rfl⟩ rfl hl.1 rfl (Nat.le_of_ble_eq_true rfl) dX4_count_164 ⟨Nat.le_of_ble_eq_true rfl, Nat.le_of_ble_eq_true rfl⟩) (fun r_27 m_26 h H locs w => ?_)
                          exact x_iret C w h dX4_count_167
                        · by_cases c_29 : a1.toInt = 13
                          · have h := h.2.2.2.2.2.2.2.2.2.2.2.1 c_29
                            refine lv_tableIn (off := 150) (tgt := 168) hx hb dX4_count_18 (by omega) (by omega) (by rw [c_29]; rfl) (by decide) ?_
                            refine lv_aload_n hx hb dX4_count_168 rfl (lv_at hl 0 rfl) ?_
                            refine x_getX C w (k := 5) (v := .ref (ad 229)) (by decide) rfl mf_StairBows_37 dX4_count_169 ?_
                            refine x_getD C w (k := 1) (v := .int (m_1 229 1)) (by decide) rfl mf_StairBows_92 dX4_count_172 ?_
                            exact x_iret C w h dX4_count_175
                          · have c_30 : a1.toInt = 14 := by omega
                            have h := h.2.2.2.2.2.2.2.2.2.2.2.2 c_30
                            refine lv_tableIn (off := 158) (tgt := 176) hx hb dX4_count_18 (by omega) (by omega) (by rw [c_30]; rfl) (by decide) ?_
                            refine lv_aload_n hx hb dX4_count_176 rfl (lv_at hl 0 rfl) ?_
                            refine x_getX C w (k := 2) (v := .ref (ad 57)) (by decide) rfl mf_StairBows_22 dX4_count_177 ?_
                            refine x_getH C w (k := 1) (v := .int (m_1 57 1)) (by decide) rfl mf_StairBows_144 dX4_count_180 ?_
                            exact x_iret C w h dX4_count_183
  · have h := h.2 c_3
    refine lv_aload_n hx hb dX4_count_7 rfl (lv_at hl 0 rfl) ?_
    refine x_getX C w (k := 0) (v := .ref (ad 1)) (by decide) rfl mf_StairBows_10 dX4_count_8 ?_
    refine x_getS C w (i := 1) (k := 0) (v := .ref (ad 2)) (rfl : kd 1 = 9) (by decide) rfl mf_StairBows_60 dX4_count_11 ?_
    refine lv_iload_n hx hb dX4_count_14 rfl (lv_at hl 1 rfl) ?_
    refine x_iald C w (i := 2) (K := 10) (j := a1) (n := 3) (jn := a1.toNatClampNeg) rfl (kS1 (rfl : kd 1 = 9)) (by decide) rfl (show vp_in a1 3 from h.1) dX4_count_15 ?_
    have h := h.2
    exact x_iret C w h dX4_count_16
abbrev rm_X4_untilArrived : Room := { frames := 6, cells := 0, slots := 0, locals := 131 }
noncomputable def wp_X4_untilArrived_L33 (v2 : Nat) (K : Int32 → Mem → Prop) (n : Nat) : Int32 → Mem → Prop :=
  Nat.rec (motive := fun _ => Int32 → Mem → Prop) (fun _ _ => False) (fun _ ih v3 μ =>
    ((200 ≤ v3 → ((¬ (μ v2 2) = 2 → K (-6) μ) ∧ ((μ v2 2) = 2 → K v3 μ))) ∧ (¬ 200 ≤ v3 → (wp_X2_isOnWay v2 μ (fun r_9 m_8 => ((r_9 = 0 → ((¬ (m_8 v2 2) = 2 → K (-6) m_8) ∧ ((m_8 v2 2) = 2 → K v3 m_8))) ∧ (¬ r_9 = 0 → (wp_X3_tick 29 m_8 (fun m_12 => ih (v3 + 1) m_12))))))))) n
theorem wp_X4_untilArrived_L33_s (v2 : Nat) (K : Int32 → Mem → Prop) (n : Nat) (v3 : Int32) (μ : Mem) : wp_X4_untilArrived_L33 v2 K (n + 1) v3 μ = (
    let ih := wp_X4_untilArrived_L33 v2 K n
    ((200 ≤ v3 → ((¬ (μ v2 2) = 2 → K (-6) μ) ∧ ((μ v2 2) = 2 → K v3 μ))) ∧ (¬ 200 ≤ v3 → (wp_X2_isOnWay v2 μ (fun r_9 m_8 => ((r_9 = 0 → ((¬ (m_8 v2 2) = 2 → K (-6) m_8) ∧ ((m_8 v2 2) = 2 → K v3 m_8))) ∧ (¬ r_9 = 0 → (wp_X3_tick 29 m_8 (fun m_12 => ih (v3 + 1) m_12))))))))) := rfl
noncomputable def wp_X4_untilArrived (a1 : Int32) (μ : Mem) (K : Int32 → Mem → Prop) : Prop :=
    (wp_X4_isPerson a1 μ (fun r_2 m_1 => ((¬ r_2 = 0 → (wp_X3_takeFrom 29 1 m_1 (fun m_4 => (vp_in a1 24 ∧ (∃ n, wp_X4_untilArrived_L33 (31 + 2 + a1.toNatClampNeg) K n 0 m_4))))) ∧ (r_2 = 0 → K (-1) m_1))))
set_option maxHeartbeats 4000000 in
set_option maxRecDepth 100000 in
theorem t_X4_untilArrived_L33 {g : Gv} {ad : Nat → Nat} {l : Launch} {p : Program} {e : Env} {s : State} {m : MethodId} {args : Array Value} {below : List Frame} {meth : Method} {c : Code} (C : Cx g p s m args meth c "StairBows" cX4_untilArrived 4 (some .int)) {v2 : Nat}  {K : Int32 → Mem → Prop}  (kv2 : kd v2 = 13)  : ∀ (n : Nat) (v3 : Int32) (μ : Mem) (H : Heap) (locs : List Loc) (ls : Array Slot), wp_X4_untilArrived_L33 v2 K n v3 μ → Wd g ad μ (Aw ad s.heap.size) s H locs → lv_has ls 4 [(0, .ref (ad 0)), (2, .ref (ad v2)), (3, .int v3)] → W p l e rm_X4_untilArrived s m args below meth c H locs 0 0 (MQ below (PostI g ad s.heap.size K) args s 0 0 (Aw ad s.heap.size)) (F0 m 33 ls []) := by
  obtain ⟨hx, hb, hml, -, hts, hown, -, -, hN⟩ := id C
  intro n
  induction n with
  | zero =>
    intro v3 μ H locs ls h w hl
    exact (show False from h).elim
  | succ n ih =>
    intro v3 μ H locs ls h w hl
    rw [wp_X4_untilArrived_L33_s] at h
    dsimp only at h
    refine lv_iload_n hx hb dX4_untilArrived_33 rfl (lv_at hl 2 rfl) ?_
    refine lv_sipush (v := 200) hx hb dX4_untilArrived_34 (by decide) ?_
    refine lv_icmp_ge (tgt := 60) hx hb dX4_untilArrived_37 (by decide) (fun c_6 => ?_) (fun c_6 => ?_)
    · have h := h.1 c_6
      refine lv_aload_n hx hb dX4_untilArrived_60 rfl (lv_at hl 1 rfl) ?_
      refine x_getP C w (i := v2) (k := 2) kv2 (by decide) mf_StairBows_108 dX4_untilArrived_61 ?_
      refine lv_iconst (v := 2) hx hb dX4_untilArrived_64 (by decide) ?_
      refine lv_icmp_ne (tgt := 72) hx hb dX4_untilArrived_65 (by decide) (fun c_7 => ?_) (fun c_7 => ?_)
      · have h := h.1 c_7
        refine lv_bipush (v := -6) hx hb dX4_untilArrived_72 (by decide) ?_
        exact x_iret C w h dX4_untilArrived_74
      · have h := h.2 c_7
        refine lv_iload_n hx hb dX4_untilArrived_68 rfl (lv_at hl 2 rfl) ?_
        refine lv_goto (tgt := 74) hx hb dX4_untilArrived_69 (by decide) ?_
        exact x_iret C w h dX4_untilArrived_74
    · have h := h.2 c_6
      refine lv_aload_n hx hb dX4_untilArrived_40 rfl (lv_at hl 1 rfl) ?_
      refine x_calli C w (x_runV (i := v2) (As := []) (rest := []) C w kv2 (by decide) (ci := 2) rfl rfl rfl me_X2_isOnWay ml_StairBows_145 (c_X2_isOnWay l g ad μ _ v2 kv2 h) ⟨rfl, rfl⟩ ⟨Nat.le_of_ble_eq_true rfl, Nat.le_of_ble_eq_true rfl⟩ rfl hl.1 rfl (Nat.le_of_ble_eq_true rfl) dX4_untilArrived_41 ⟨Nat.le_of_ble_eq_true rfl, Nat.le_of_ble_eq_true rfl⟩) (fun r_9 m_8 h H locs w => ?_)
      refine lv_if_eq (tgt := 60) hx hb dX4_untilArrived_44 (by decide) (fun c_10 => ?_) (fun c_10 => ?_)
      · have h := h.1 c_10
        refine lv_aload_n hx hb dX4_untilArrived_60 rfl (lv_at hl 1 rfl) ?_
        refine x_getP C w (i := v2) (k := 2) kv2 (by decide) mf_StairBows_108 dX4_untilArrived_61 ?_
        refine lv_iconst (v := 2) hx hb dX4_untilArrived_64 (by decide) ?_
        refine lv_icmp_ne (tgt := 72) hx hb dX4_untilArrived_65 (by decide) (fun c_11 => ?_) (fun c_11 => ?_)
        · have h := h.1 c_11
          refine lv_bipush (v := -6) hx hb dX4_untilArrived_72 (by decide) ?_
          exact x_iret C w h dX4_untilArrived_74
        · have h := h.2 c_11
          refine lv_iload_n hx hb dX4_untilArrived_68 rfl (lv_at hl 2 rfl) ?_
          refine lv_goto (tgt := 74) hx hb dX4_untilArrived_69 (by decide) ?_
          exact x_iret C w h dX4_untilArrived_74
      · have h := h.2 c_10
        refine lv_aload_n hx hb dX4_untilArrived_47 rfl (lv_at hl 0 rfl) ?_
        refine x_getX C w (k := 1) (v := .ref (ad 29)) (by decide) rfl mf_StairBows_16 dX4_untilArrived_48 ?_
        refine x_callv C w (x_runV (i := 29) (As := []) (rest := []) C w (rfl : kd 29 = 9) (by decide) (ci := 3) rfl rfl rfl me_X3_tick ml_StairBows_123 (c_X3_tick l g ad m_8 _ 29 (rfl : kd 29 = 9) h) ⟨rfl, rfl⟩ ⟨Nat.le_of_ble_eq_true rfl, Nat.le_of_ble_eq_true rfl⟩ rfl hl.1 rfl (Nat.le_of_ble_eq_true rfl) dX4_untilArrived_51 ⟨Nat.le_of_ble_eq_true rfl, Nat.le_of_ble_eq_true rfl⟩) (fun m_12 h H locs w => ?_)
        refine lv_iinc (v := (v3 + 1)) (lv' := [(3, .int (v3 + 1)), (0, .ref (ad 0)), (2, .ref (ad v2))]) hx hb dX4_untilArrived_54 hl (k := 2) rfl rfl (by decide) rfl (fun ls hl => ?_)
        refine lv_goto (tgt := 33) hx hb dX4_untilArrived_57 (by decide) ?_
        exact ih (v3 + 1) m_12 _ _ _ h w (lv_sub hl [1, 2, 0] rfl)
set_option maxHeartbeats 4000000 in
set_option maxRecDepth 100000 in
theorem c_X4_untilArrived (l : Launch) (g : Gv) (ad : Nat → Nat) (μ : Mem) (sz : Nat) (a1 : Int32) {K : Int32 → Mem → Prop} (h : wp_X4_untilArrived a1 μ K) : Met l yX4_untilArrived (wX yX4_untilArrived cX4_untilArrived 4 (some .int)) rm_X4_untilArrived (Pre g ad μ sz [.ref (ad 0), .int a1]) (PostI g ad sz K) 0 0 (Aw ad sz) := by
  refine Met.ofW (cc := cX4_untilArrived) (maxL := 4) (ret := (some .int)) (by decide) rfl ?_
  intro p e s m args below meth c s₁ B hml hv
  obtain ⟨rfl, rfl, C, w⟩ := x_start B hml hv
  obtain ⟨hx, hb, hml, -, hts, hown, -, -, hN⟩ := id C
  have hl := lv_entry ([.ref (ad 0), .int a1]) (n := 4) (Nat.le_of_ble_eq_true rfl)
  rw [lg_entry_eq]
  generalize (lg_sl ([.ref (ad 0), .int a1]) ++ List.replicate (4 - (lg_sl ([.ref (ad 0), .int a1])).length) Slot.unset).toArray = ls at hl ⊢
  have hl : lv_has ls 4 [(0, .ref (ad 0)), (1, .int a1)] := hl
  show W p l e rm_X4_untilArrived s m _ below meth c s.heap [] 0 0 _ _
  unfold wp_X4_untilArrived at h
  refine lv_aload_n hx hb dX4_untilArrived_0 rfl (lv_at hl 0 rfl) ?_
  refine lv_iload_n hx hb dX4_untilArrived_1 rfl (lv_at hl 1 rfl) ?_
  refine x_calli C w (x_runV (i := 0) (As := [.int a1]) (rest := []) C w (rfl : kd 0 = 0) (by decide) (ci := 4) rfl rfl rfl me_X4_isPerson ml_StairBows_101 (c_X4_isPerson l g ad μ _ a1 h) ⟨rfl, rfl⟩ ⟨Nat.le_of_ble_eq_true rfl, Nat.le_of_ble_eq_true rfl⟩ rfl hl.1 rfl (Nat.le_of_ble_eq_true rfl) dX4_untilArrived_2 ⟨Nat.le_of_ble_eq_true rfl, Nat.le_of_ble_eq_true rfl⟩) (fun r_2 m_1 h H locs w => ?_)
  refine lv_if_ne (tgt := 10) hx hb dX4_untilArrived_5 (by decide) (fun c_3 => ?_) (fun c_3 => ?_)
  · have h := h.1 c_3
    refine lv_aload_n hx hb dX4_untilArrived_10 rfl (lv_at hl 0 rfl) ?_
    refine x_getX C w (k := 1) (v := .ref (ad 29)) (by decide) rfl mf_StairBows_16 dX4_untilArrived_11 ?_
    refine lv_aload_n hx hb dX4_untilArrived_14 rfl (lv_at hl 0 rfl) ?_
    refine x_getX C w (k := 0) (v := .ref (ad 1)) (by decide) rfl mf_StairBows_10 dX4_untilArrived_15 ?_
    refine x_callv C w (x_runV (i := 29) (As := [.ref (ad 1)]) (rest := []) C w (rfl : kd 29 = 9) (by decide) (ci := 3) rfl rfl rfl me_X3_takeFrom ml_StairBows_135 (c_X3_takeFrom l g ad m_1 _ 29 (rfl : kd 29 = 9) 1 (rfl : kd 1 = 9) h) ⟨rfl, rfl⟩ ⟨Nat.le_of_ble_eq_true rfl, Nat.le_of_ble_eq_true rfl⟩ rfl hl.1 rfl (Nat.le_of_ble_eq_true rfl) dX4_untilArrived_18 ⟨Nat.le_of_ble_eq_true rfl, Nat.le_of_ble_eq_true rfl⟩) (fun m_4 h H locs w => ?_)
    refine lv_aload_n hx hb dX4_untilArrived_21 rfl (lv_at hl 0 rfl) ?_
    refine x_getX C w (k := 1) (v := .ref (ad 29)) (by decide) rfl mf_StairBows_16 dX4_untilArrived_22 ?_
    refine x_getS C w (i := 29) (k := 1) (v := .ref (ad 31)) (rfl : kd 29 = 9) (by decide) rfl mf_StairBows_104 dX4_untilArrived_25 ?_
    refine lv_iload_n hx hb dX4_untilArrived_28 rfl (lv_at hl 1 rfl) ?_
    have hi := h.1
    have h := h.2
    refine x_aldP C w (kS2 (rfl : kd 29 = 9)) hi dX4_untilArrived_29 ?_
    have k_5 := kSP (kS2 (rfl : kd 29 = 9)) hi
    refine lv_astore_n (lv' := [(2, .ref (ad (31 + 2 + a1.toNatClampNeg))), (0, .ref (ad 0)), (1, .int a1)]) hx hb dX4_untilArrived_30 rfl hl (by decide) rfl (fun ls hl => ?_)
    refine lv_iconst (v := 0) hx hb dX4_untilArrived_31 (by decide) ?_
    refine lv_istore_n (lv' := [(3, .int 0), (2, .ref (ad (31 + 2 + a1.toNatClampNeg))), (0, .ref (ad 0)), (1, .int a1)]) hx hb dX4_untilArrived_32 rfl hl (by decide) rfl (fun ls hl => ?_)
    obtain ⟨n_13, h⟩ := h
    exact t_X4_untilArrived_L33 C k_5 n_13 0 m_4 _ _ _ h w (lv_sub hl [2, 1, 0] rfl)
  · have h := h.2 c_3
    refine lv_iconst (v := -1) hx hb dX4_untilArrived_8 (by decide) ?_
    exact x_iret C w h dX4_untilArrived_9
abbrev rm_X4_tryOut : Room := { frames := 6, cells := 0, slots := 0, locals := 131 }
noncomputable def wp_X4_tryOut_L2 (v1 : Int32) (K : Int32 → Mem → Prop) (n : Nat) : Int32 → Mem → Prop :=
  Nat.rec (motive := fun _ => Int32 → Mem → Prop) (fun _ _ => False) (fun _ ih v2 μ =>
    ((v1 ≤ v2 → K v2 μ) ∧ (¬ v1 ≤ v2 → (wp_X3_isAnybodyOnWay 29 μ (fun r_3 m_2 => ((r_3 = 0 → K v2 m_2) ∧ (¬ r_3 = 0 → (wp_X3_tick 29 m_2 (fun m_5 => ih (v2 + 1) m_5))))))))) n
theorem wp_X4_tryOut_L2_s (v1 : Int32) (K : Int32 → Mem → Prop) (n : Nat) (v2 : Int32) (μ : Mem) : wp_X4_tryOut_L2 v1 K (n + 1) v2 μ = (
    let ih := wp_X4_tryOut_L2 v1 K n
    ((v1 ≤ v2 → K v2 μ) ∧ (¬ v1 ≤ v2 → (wp_X3_isAnybodyOnWay 29 μ (fun r_3 m_2 => ((r_3 = 0 → K v2 m_2) ∧ (¬ r_3 = 0 → (wp_X3_tick 29 m_2 (fun m_5 => ih (v2 + 1) m_5))))))))) := rfl
noncomputable def wp_X4_tryOut (a1 : Int32) (μ : Mem) (K : Int32 → Mem → Prop) : Prop :=
    (∃ n, wp_X4_tryOut_L2 a1 K n 0 μ)
set_option maxHeartbeats 4000000 in
set_option maxRecDepth 100000 in
theorem t_X4_tryOut_L2 {g : Gv} {ad : Nat → Nat} {l : Launch} {p : Program} {e : Env} {s : State} {m : MethodId} {args : Array Value} {below : List Frame} {meth : Method} {c : Code} (C : Cx g p s m args meth c "StairBows" cX4_tryOut 3 (some .int)) {v1 : Int32}  {K : Int32 → Mem → Prop}    : ∀ (n : Nat) (v2 : Int32) (μ : Mem) (H : Heap) (locs : List Loc) (ls : Array Slot), wp_X4_tryOut_L2 v1 K n v2 μ → Wd g ad μ (Aw ad s.heap.size) s H locs → lv_has ls 3 [(0, .ref (ad 0)), (1, .int v1), (2, .int v2)] → W p l e rm_X4_tryOut s m args below meth c H locs 0 0 (MQ below (PostI g ad s.heap.size K) args s 0 0 (Aw ad s.heap.size)) (F0 m 2 ls []) := by
  obtain ⟨hx, hb, hml, -, hts, hown, -, -, hN⟩ := id C
  intro n
  induction n with
  | zero =>
    intro v2 μ H locs ls h w hl
    exact (show False from h).elim
  | succ n ih =>
    intro v2 μ H locs ls h w hl
    rw [wp_X4_tryOut_L2_s] at h
    dsimp only at h
    refine lv_iload_n hx hb dX4_tryOut_2 rfl (lv_at hl 2 rfl) ?_
    refine lv_iload_n hx hb dX4_tryOut_3 rfl (lv_at hl 1 rfl) ?_
    refine lv_icmp_ge (tgt := 30) hx hb dX4_tryOut_4 (by decide) (fun c_1 => ?_) (fun c_1 => ?_)
    · have h := h.1 c_1
      refine lv_iload_n hx hb dX4_tryOut_30 rfl (lv_at hl 2 rfl) ?_
      exact x_iret C w h dX4_tryOut_31
    · have h := h.2 c_1
      refine lv_aload_n hx hb dX4_tryOut_7 rfl (lv_at hl 0 rfl) ?_
      refine x_getX C w (k := 1) (v := .ref (ad 29)) (by decide) rfl mf_StairBows_16 dX4_tryOut_8 ?_
      refine x_calli C w (x_runV (i := 29) (As := []) (rest := []) C w (rfl : kd 29 = 9) (by decide) (ci := 3) rfl rfl rfl me_X3_isAnybodyOnWay ml_StairBows_152 (c_X3_isAnybodyOnWay l g ad μ _ 29 (rfl : kd 29 = 9) h) ⟨rfl, rfl⟩ ⟨Nat.le_of_ble_eq_true rfl, Nat.le_of_ble_eq_true rfl⟩ rfl hl.1 rfl (Nat.le_of_ble_eq_true rfl) dX4_tryOut_11 ⟨Nat.le_of_ble_eq_true rfl, Nat.le_of_ble_eq_true rfl⟩) (fun r_3 m_2 h H locs w => ?_)
      refine lv_if_eq (tgt := 30) hx hb dX4_tryOut_14 (by decide) (fun c_4 => ?_) (fun c_4 => ?_)
      · have h := h.1 c_4
        refine lv_iload_n hx hb dX4_tryOut_30 rfl (lv_at hl 2 rfl) ?_
        exact x_iret C w h dX4_tryOut_31
      · have h := h.2 c_4
        refine lv_aload_n hx hb dX4_tryOut_17 rfl (lv_at hl 0 rfl) ?_
        refine x_getX C w (k := 1) (v := .ref (ad 29)) (by decide) rfl mf_StairBows_16 dX4_tryOut_18 ?_
        refine x_callv C w (x_runV (i := 29) (As := []) (rest := []) C w (rfl : kd 29 = 9) (by decide) (ci := 3) rfl rfl rfl me_X3_tick ml_StairBows_123 (c_X3_tick l g ad m_2 _ 29 (rfl : kd 29 = 9) h) ⟨rfl, rfl⟩ ⟨Nat.le_of_ble_eq_true rfl, Nat.le_of_ble_eq_true rfl⟩ rfl hl.1 rfl (Nat.le_of_ble_eq_true rfl) dX4_tryOut_21 ⟨Nat.le_of_ble_eq_true rfl, Nat.le_of_ble_eq_true rfl⟩) (fun m_5 h H locs w => ?_)
        refine lv_iinc (v := (v2 + 1)) (lv' := [(2, .int (v2 + 1)), (0, .ref (ad 0)), (1, .int v1)]) hx hb dX4_tryOut_24 hl (k := 2) rfl rfl (by decide) rfl (fun ls hl => ?_)
        refine lv_goto (tgt := 2) hx hb dX4_tryOut_27 (by decide) ?_
        exact ih (v2 + 1) m_5 _ _ _ h w (lv_sub hl [1, 2, 0] rfl)
set_option maxHeartbeats 4000000 in
set_option maxRecDepth 100000 in
theorem c_X4_tryOut (l : Launch) (g : Gv) (ad : Nat → Nat) (μ : Mem) (sz : Nat) (a1 : Int32) {K : Int32 → Mem → Prop} (h : wp_X4_tryOut a1 μ K) : Met l yX4_tryOut (wX yX4_tryOut cX4_tryOut 3 (some .int)) rm_X4_tryOut (Pre g ad μ sz [.ref (ad 0), .int a1]) (PostI g ad sz K) 0 0 (Aw ad sz) := by
  refine Met.ofW (cc := cX4_tryOut) (maxL := 3) (ret := (some .int)) (by decide) rfl ?_
  intro p e s m args below meth c s₁ B hml hv
  obtain ⟨rfl, rfl, C, w⟩ := x_start B hml hv
  obtain ⟨hx, hb, hml, -, hts, hown, -, -, hN⟩ := id C
  have hl := lv_entry ([.ref (ad 0), .int a1]) (n := 3) (Nat.le_of_ble_eq_true rfl)
  rw [lg_entry_eq]
  generalize (lg_sl ([.ref (ad 0), .int a1]) ++ List.replicate (3 - (lg_sl ([.ref (ad 0), .int a1])).length) Slot.unset).toArray = ls at hl ⊢
  have hl : lv_has ls 3 [(0, .ref (ad 0)), (1, .int a1)] := hl
  show W p l e rm_X4_tryOut s m _ below meth c s.heap [] 0 0 _ _
  unfold wp_X4_tryOut at h
  refine lv_iconst (v := 0) hx hb dX4_tryOut_0 (by decide) ?_
  refine lv_istore_n (lv' := [(2, .int 0), (0, .ref (ad 0)), (1, .int a1)]) hx hb dX4_tryOut_1 rfl hl (by decide) rfl (fun ls hl => ?_)
  obtain ⟨n_6, h⟩ := h
  exact t_X4_tryOut_L2 C n_6 0 μ _ _ _ h w (lv_sub hl [1, 2, 0] rfl)
abbrev rm_X4_untilEmpty : Room := { frames := 7, cells := 0, slots := 0, locals := 153 }
noncomputable def wp_X4_untilEmpty  (μ : Mem) (K : Int32 → Mem → Prop) : Prop :=
    (wp_X3_takeFrom 29 1 μ (fun m_1 => (wp_X4_tryOut 200 m_1 (fun r_3 m_2 => (wp_X3_isAnybodyOnWay 29 m_2 (fun r_5 m_4 => ((r_5 = 0 → K r_3 m_4) ∧ (¬ r_5 = 0 → K (-6) m_4))))))))
set_option maxHeartbeats 4000000 in
set_option maxRecDepth 100000 in
theorem c_X4_untilEmpty (l : Launch) (g : Gv) (ad : Nat → Nat) (μ : Mem) (sz : Nat)  {K : Int32 → Mem → Prop} (h : wp_X4_untilEmpty μ K) : Met l yX4_untilEmpty (wX yX4_untilEmpty cX4_untilEmpty 2 (some .int)) rm_X4_untilEmpty (Pre g ad μ sz [.ref (ad 0)]) (PostI g ad sz K) 0 0 (Aw ad sz) := by
  refine Met.ofW (cc := cX4_untilEmpty) (maxL := 2) (ret := (some .int)) (by decide) rfl ?_
  intro p e s m args below meth c s₁ B hml hv
  obtain ⟨rfl, rfl, C, w⟩ := x_start B hml hv
  obtain ⟨hx, hb, hml, -, hts, hown, -, -, hN⟩ := id C
  have hl := lv_entry ([.ref (ad 0)]) (n := 2) (Nat.le_of_ble_eq_true rfl)
  rw [lg_entry_eq]
  generalize (lg_sl ([.ref (ad 0)]) ++ List.replicate (2 - (lg_sl ([.ref (ad 0)])).length) Slot.unset).toArray = ls at hl ⊢
  have hl : lv_has ls 2 [(0, .ref (ad 0))] := hl
  show W p l e rm_X4_untilEmpty s m _ below meth c s.heap [] 0 0 _ _
  unfold wp_X4_untilEmpty at h
  refine lv_aload_n hx hb dX4_untilEmpty_0 rfl (lv_at hl 0 rfl) ?_
  refine x_getX C w (k := 1) (v := .ref (ad 29)) (by decide) rfl mf_StairBows_16 dX4_untilEmpty_1 ?_
  refine lv_aload_n hx hb dX4_untilEmpty_4 rfl (lv_at hl 0 rfl) ?_
  refine x_getX C w (k := 0) (v := .ref (ad 1)) (by decide) rfl mf_StairBows_10 dX4_untilEmpty_5 ?_
  refine x_callv C w (x_runV (i := 29) (As := [.ref (ad 1)]) (rest := []) C w (rfl : kd 29 = 9) (by decide) (ci := 3) rfl rfl rfl me_X3_takeFrom ml_StairBows_135 (c_X3_takeFrom l g ad μ _ 29 (rfl : kd 29 = 9) 1 (rfl : kd 1 = 9) h) ⟨rfl, rfl⟩ ⟨Nat.le_of_ble_eq_true rfl, Nat.le_of_ble_eq_true rfl⟩ rfl hl.1 rfl (Nat.le_of_ble_eq_true rfl) dX4_untilEmpty_8 ⟨Nat.le_of_ble_eq_true rfl, Nat.le_of_ble_eq_true rfl⟩) (fun m_1 h H locs w => ?_)
  refine lv_aload_n hx hb dX4_untilEmpty_11 rfl (lv_at hl 0 rfl) ?_
  refine lv_sipush (v := 200) hx hb dX4_untilEmpty_12 (by decide) ?_
  refine x_calli C w (x_runV (i := 0) (As := [.int 200]) (rest := []) C w (rfl : kd 0 = 0) (by decide) (ci := 4) rfl rfl rfl me_X4_tryOut ml_StairBows_149 (c_X4_tryOut l g ad m_1 _ 200 h) ⟨rfl, rfl⟩ ⟨Nat.le_of_ble_eq_true rfl, Nat.le_of_ble_eq_true rfl⟩ rfl hl.1 rfl (Nat.le_of_ble_eq_true rfl) dX4_untilEmpty_15 ⟨Nat.le_of_ble_eq_true rfl, Nat.le_of_ble_eq_true rfl⟩) (fun r_3 m_2 h H locs w => ?_)
  refine lv_istore_n (lv' := [(1, .int r_3), (0, .ref (ad 0))]) hx hb dX4_untilEmpty_18 rfl hl (by decide) rfl (fun ls hl => ?_)
  refine lv_aload_n hx hb dX4_untilEmpty_19 rfl (lv_at hl 1 rfl) ?_
  refine x_getX C w (k := 1) (v := .ref (ad 29)) (by decide) rfl mf_StairBows_16 dX4_untilEmpty_20 ?_
  refine x_calli C w (x_runV (i := 29) (As := []) (rest := []) C w (rfl : kd 29 = 9) (by decide) (ci := 3) rfl rfl rfl me_X3_isAnybodyOnWay ml_StairBows_152 (c_X3_isAnybodyOnWay l g ad m_2 _ 29 (rfl : kd 29 = 9) h) ⟨rfl, rfl⟩ ⟨Nat.le_of_ble_eq_true rfl, Nat.le_of_ble_eq_true rfl⟩ rfl hl.1 rfl (Nat.le_of_ble_eq_true rfl) dX4_untilEmpty_23 ⟨Nat.le_of_ble_eq_true rfl, Nat.le_of_ble_eq_true rfl⟩) (fun r_5 m_4 h H locs w => ?_)
  refine lv_if_eq (tgt := 34) hx hb dX4_untilEmpty_26 (by decide) (fun c_6 => ?_) (fun c_6 => ?_)
  · have h := h.1 c_6
    refine lv_iload_n hx hb dX4_untilEmpty_34 rfl (lv_at hl 0 rfl) ?_
    exact x_iret C w h dX4_untilEmpty_35
  · have h := h.2 c_6
    refine lv_bipush (v := -6) hx hb dX4_untilEmpty_29 (by decide) ?_
    refine lv_goto (tgt := 35) hx hb dX4_untilEmpty_31 (by decide) ?_
    exact x_iret C w h dX4_untilEmpty_35
abbrev rm_X4_ifPassed : Room := { frames := 7, cells := 0, slots := 0, locals := 153 }
noncomputable def wp_X4_ifPassed (a1 : Int32) (a2 : Int32) (μ : Mem) (K : Int32 → Mem → Prop) : Prop :=
    ((a1 < 1 → K (-2) μ) ∧ (¬ a1 < 1 → ((200 < a1 → K (-2) μ) ∧ (¬ 200 < a1 → ((a2 < 0 → K (-2) μ) ∧ (¬ a2 < 0 → ((a2 ≤ 3 → (wp_X3_takeFrom 29 1 μ (fun m_5 => (wp_X4_tryOut a1 m_5 (fun r_7 m_6 => (((a2.toInt < 0 ∨ 2 < a2.toInt) → (wp_X3_sumOf 29 4 m_6 (fun r_10 m_9 => (wp_X3_sumOf 1 4 m_9 (fun r_12 m_11 => K (r_10 - r_12) m_11))))) ∧ (a2.toInt = 0 → (wp_X3_peopleWho 29 2 m_6 (fun r_14 m_13 => (wp_X3_peopleWho 1 2 m_13 (fun r_16 m_15 => K (r_14 - r_16) m_15))))) ∧ (a2.toInt = 1 → (wp_X3_peopleWho 29 3 m_6 (fun r_19 m_18 => (wp_X3_peopleWho 1 3 m_18 (fun r_21 m_20 => K (r_19 - r_21) m_20))))) ∧ (a2.toInt = 2 → (wp_X3_sumOf 29 6 m_6 (fun r_24 m_23 => (wp_X3_sumOf 1 6 m_23 (fun r_26 m_25 => K (r_24 - r_26) m_25))))))))))) ∧ (¬ a2 ≤ 3 → K (-2) μ))))))))
set_option maxHeartbeats 4000000 in
set_option maxRecDepth 100000 in
theorem c_X4_ifPassed (l : Launch) (g : Gv) (ad : Nat → Nat) (μ : Mem) (sz : Nat) (a1 : Int32) (a2 : Int32) {K : Int32 → Mem → Prop} (h : wp_X4_ifPassed a1 a2 μ K) : Met l yX4_ifPassed (wX yX4_ifPassed cX4_ifPassed 3 (some .int)) rm_X4_ifPassed (Pre g ad μ sz [.ref (ad 0), .int a1, .int a2]) (PostI g ad sz K) 0 0 (Aw ad sz) := by
  refine Met.ofW (cc := cX4_ifPassed) (maxL := 3) (ret := (some .int)) (by decide) rfl ?_
  intro p e s m args below meth c s₁ B hml hv
  obtain ⟨rfl, rfl, C, w⟩ := x_start B hml hv
  obtain ⟨hx, hb, hml, -, hts, hown, -, -, hN⟩ := id C
  have hl := lv_entry ([.ref (ad 0), .int a1, .int a2]) (n := 3) (Nat.le_of_ble_eq_true rfl)
  rw [lg_entry_eq]
  generalize (lg_sl ([.ref (ad 0), .int a1, .int a2]) ++ List.replicate (3 - (lg_sl ([.ref (ad 0), .int a1, .int a2])).length) Slot.unset).toArray = ls at hl ⊢
  have hl : lv_has ls 3 [(0, .ref (ad 0)), (1, .int a1), (2, .int a2)] := hl
  show W p l e rm_X4_ifPassed s m _ below meth c s.heap [] 0 0 _ _
  unfold wp_X4_ifPassed at h
  refine lv_iload_n hx hb dX4_ifPassed_0 rfl (lv_at hl 1 rfl) ?_
  refine lv_iconst (v := 1) hx hb dX4_ifPassed_1 (by decide) ?_
  refine lv_icmp_lt (tgt := 21) hx hb dX4_ifPassed_2 (by decide) (fun c_1 => ?_) (fun c_1 => ?_)
  · have h := h.1 c_1
    refine lv_bipush (v := -2) hx hb dX4_ifPassed_21 (by decide) ?_
    exact x_iret C w h dX4_ifPassed_23
  · have h := h.2 c_1
    refine lv_iload_n hx hb dX4_ifPassed_5 rfl (lv_at hl 1 rfl) ?_
    refine lv_sipush (v := 200) hx hb dX4_ifPassed_6 (by decide) ?_
    refine lv_icmp_gt (tgt := 21) hx hb dX4_ifPassed_9 (by decide) (fun c_2 => ?_) (fun c_2 => ?_)
    · have h := h.1 c_2
      refine lv_bipush (v := -2) hx hb dX4_ifPassed_21 (by decide) ?_
      exact x_iret C w h dX4_ifPassed_23
    · have h := h.2 c_2
      refine lv_iload_n hx hb dX4_ifPassed_12 rfl (lv_at hl 2 rfl) ?_
      refine lv_if_lt (tgt := 21) hx hb dX4_ifPassed_13 (by decide) (fun c_3 => ?_) (fun c_3 => ?_)
      · have h := h.1 c_3
        refine lv_bipush (v := -2) hx hb dX4_ifPassed_21 (by decide) ?_
        exact x_iret C w h dX4_ifPassed_23
      · have h := h.2 c_3
        refine lv_iload_n hx hb dX4_ifPassed_16 rfl (lv_at hl 2 rfl) ?_
        refine lv_iconst (v := 3) hx hb dX4_ifPassed_17 (by decide) ?_
        refine lv_icmp_le (tgt := 24) hx hb dX4_ifPassed_18 (by decide) (fun c_4 => ?_) (fun c_4 => ?_)
        · have h := h.1 c_4
          refine lv_aload_n hx hb dX4_ifPassed_24 rfl (lv_at hl 0 rfl) ?_
          refine x_getX C w (k := 1) (v := .ref (ad 29)) (by decide) rfl mf_StairBows_16 dX4_ifPassed_25 ?_
          refine lv_aload_n hx hb dX4_ifPassed_28 rfl (lv_at hl 0 rfl) ?_
          refine x_getX C w (k := 0) (v := .ref (ad 1)) (by decide) rfl mf_StairBows_10 dX4_ifPassed_29 ?_
          refine x_callv C w (x_runV (i := 29) (As := [.ref (ad 1)]) (rest := []) C w (rfl : kd 29 = 9) (by decide) (ci := 3) rfl rfl rfl me_X3_takeFrom ml_StairBows_135 (c_X3_takeFrom l g ad μ _ 29 (rfl : kd 29 = 9) 1 (rfl : kd 1 = 9) h) ⟨rfl, rfl⟩ ⟨Nat.le_of_ble_eq_true rfl, Nat.le_of_ble_eq_true rfl⟩ rfl hl.1 rfl (Nat.le_of_ble_eq_true rfl) dX4_ifPassed_32 ⟨Nat.le_of_ble_eq_true rfl, Nat.le_of_ble_eq_true rfl⟩) (fun m_5 h H locs w => ?_)
          refine lv_aload_n hx hb dX4_ifPassed_35 rfl (lv_at hl 0 rfl) ?_
          refine lv_iload_n hx hb dX4_ifPassed_36 rfl (lv_at hl 1 rfl) ?_
          refine x_calli C w (x_runV (i := 0) (As := [.int a1]) (rest := []) C w (rfl : kd 0 = 0) (by decide) (ci := 4) rfl rfl rfl me_X4_tryOut ml_StairBows_149 (c_X4_tryOut l g ad m_5 _ a1 h) ⟨rfl, rfl⟩ ⟨Nat.le_of_ble_eq_true rfl, Nat.le_of_ble_eq_true rfl⟩ rfl hl.1 rfl (Nat.le_of_ble_eq_true rfl) dX4_ifPassed_37 ⟨Nat.le_of_ble_eq_true rfl, Nat.le_of_ble_eq_true rfl⟩) (fun r_7 m_6 h H locs w => ?_)
          refine lv_pop hx hb dX4_ifPassed_40 rfl ?_
          refine lv_iload_n hx hb dX4_ifPassed_41 rfl (lv_at hl 2 rfl) ?_
          by_cases c_8 : a2.toInt < 0 ∨ 2 < a2.toInt
          · have h := h.1 c_8
            refine lv_tableOut (tgt := 124) hx hb dX4_ifPassed_42 c_8 (by decide) ?_
            refine lv_aload_n hx hb dX4_ifPassed_124 rfl (lv_at hl 0 rfl) ?_
            refine x_getX C w (k := 1) (v := .ref (ad 29)) (by decide) rfl mf_StairBows_16 dX4_ifPassed_125 ?_
            refine lv_iconst (v := 4) hx hb dX4_ifPassed_128 (by decide) ?_
            refine x_calli C w (x_runV (i := 29) (As := [.int 4]) (rest := []) C w (rfl : kd 29 = 9) (by decide) (ci := 3) rfl rfl rfl me_X3_sumOf ml_StairBows_141 (c_X3_sumOf l g ad m_6 _ 29 (rfl : kd 29 = 9) 4 h) ⟨rfl, rfl⟩ ⟨Nat.le_of_ble_eq_true rfl, Nat.le_of_ble_eq_true rfl⟩ rfl hl.1 rfl (Nat.le_of_ble_eq_true rfl) dX4_ifPassed_129 ⟨Nat.le_of_ble_eq_true rfl, Nat.le_of_ble_eq_true rfl⟩) (fun r_10 m_9 h H locs w => ?_)
            refine lv_aload_n hx hb dX4_ifPassed_132 rfl (lv_at hl 0 rfl) ?_
            refine x_getX C w (k := 0) (v := .ref (ad 1)) (by decide) rfl mf_StairBows_10 dX4_ifPassed_133 ?_
            refine lv_iconst (v := 4) hx hb dX4_ifPassed_136 (by decide) ?_
            refine x_calli C w (x_runV (i := 1) (As := [.int 4]) (rest := [.int r_10]) C w (rfl : kd 1 = 9) (by decide) (ci := 3) rfl rfl rfl me_X3_sumOf ml_StairBows_141 (c_X3_sumOf l g ad m_9 _ 1 (rfl : kd 1 = 9) 4 h) ⟨rfl, rfl⟩ ⟨Nat.le_of_ble_eq_true rfl, Nat.le_of_ble_eq_true rfl⟩ rfl hl.1 rfl (Nat.le_of_ble_eq_true rfl) dX4_ifPassed_137 ⟨Nat.le_of_ble_eq_true rfl, Nat.le_of_ble_eq_true rfl⟩) (fun r_12 m_11 h H locs w => ?_)
            refine lv_isub hx hb dX4_ifPassed_140 ?_
            exact x_iret C w h dX4_ifPassed_141
          · by_cases c_17 : a2.toInt = 0
            · have h := h.2.1 c_17
              refine lv_tableIn (off := 26) (tgt := 68) hx hb dX4_ifPassed_42 (by omega) (by omega) (by rw [c_17]; rfl) (by decide) ?_
              refine lv_aload_n hx hb dX4_ifPassed_68 rfl (lv_at hl 0 rfl) ?_
              refine x_getX C w (k := 1) (v := .ref (ad 29)) (by decide) rfl mf_StairBows_16 dX4_ifPassed_69 ?_
              refine lv_iconst (v := 2) hx hb dX4_ifPassed_72 (by decide) ?_
              refine x_calli C w (x_runV (i := 29) (As := [.int 2]) (rest := []) C w (rfl : kd 29 = 9) (by decide) (ci := 3) rfl rfl rfl me_X3_peopleWho ml_StairBows_120 (c_X3_peopleWho l g ad m_6 _ 29 (rfl : kd 29 = 9) 2 h) ⟨rfl, rfl⟩ ⟨Nat.le_of_ble_eq_true rfl, Nat.le_of_ble_eq_true rfl⟩ rfl hl.1 rfl (Nat.le_of_ble_eq_true rfl) dX4_ifPassed_73 ⟨Nat.le_of_ble_eq_true rfl, Nat.le_of_ble_eq_true rfl⟩) (fun r_14 m_13 h H locs w => ?_)
              refine lv_aload_n hx hb dX4_ifPassed_76 rfl (lv_at hl 0 rfl) ?_
              refine x_getX C w (k := 0) (v := .ref (ad 1)) (by decide) rfl mf_StairBows_10 dX4_ifPassed_77 ?_
              refine lv_iconst (v := 2) hx hb dX4_ifPassed_80 (by decide) ?_
              refine x_calli C w (x_runV (i := 1) (As := [.int 2]) (rest := [.int r_14]) C w (rfl : kd 1 = 9) (by decide) (ci := 3) rfl rfl rfl me_X3_peopleWho ml_StairBows_120 (c_X3_peopleWho l g ad m_13 _ 1 (rfl : kd 1 = 9) 2 h) ⟨rfl, rfl⟩ ⟨Nat.le_of_ble_eq_true rfl, Nat.le_of_ble_eq_true rfl⟩ rfl hl.1 rfl (Nat.le_of_ble_eq_true rfl) dX4_ifPassed_81 ⟨Nat.le_of_ble_eq_true rfl, Nat.le_of_ble_eq_true rfl⟩) (fun r_16 m_15 h H locs w => ?_)
              refine lv_isub hx hb dX4_ifPassed_84 ?_
              exact x_iret C w h dX4_ifPassed_85
            · by_cases c_22 : a2.toInt = 1
              · have h := h.2.2.1 c_22
                refine lv_tableIn (off := 44) (tgt := 86) hx hb dX4_ifPassed_42 (by omega) (by omega) (by rw [c_22]; rfl) (by decide) ?_
                refine lv_aload_n hx hb dX4_ifPassed_86 rfl (lv_at hl 0 rfl) ?_
                refine x_getX C w (k := 1) (v := .ref (ad 29)) (by decide) rfl mf_StairBows_16 dX4_ifPassed_87 ?_
                refine lv_iconst (v := 3) hx hb dX4_ifPassed_90 (by decide) ?_
                refine x_calli C w (x_runV (i := 29) (As := [.int 3]) (rest := []) C w (rfl : kd 29 = 9) (by decide) (ci := 3) rfl rfl rfl me_X3_peopleWho ml_StairBows_120 (c_X3_peopleWho l g ad m_6 _ 29 (rfl : kd 29 = 9) 3 h) ⟨rfl, rfl⟩ ⟨Nat.le_of_ble_eq_true rfl, Nat.le_of_ble_eq_true rfl⟩ rfl hl.1 rfl (Nat.le_of_ble_eq_true rfl) dX4_ifPassed_91 ⟨Nat.le_of_ble_eq_true rfl, Nat.le_of_ble_eq_true rfl⟩) (fun r_19 m_18 h H locs w => ?_)
                refine lv_aload_n hx hb dX4_ifPassed_94 rfl (lv_at hl 0 rfl) ?_
                refine x_getX C w (k := 0) (v := .ref (ad 1)) (by decide) rfl mf_StairBows_10 dX4_ifPassed_95 ?_
                refine lv_iconst (v := 3) hx hb dX4_ifPassed_98 (by decide) ?_
                refine x_calli C w (x_runV (i := 1) (As := [.int 3]) (rest := [.int r_19]) C w (rfl : kd 1 = 9) (by decide) (ci := 3) rfl rfl rfl me_X3_peopleWho ml_StairBows_120 (c_X3_peopleWho l g ad m_18 _ 1 (rfl : kd 1 = 9) 3 h) ⟨rfl, rfl⟩ ⟨Nat.le_of_ble_eq_true rfl, Nat.le_of_ble_eq_true rfl⟩ rfl hl.1 rfl (Nat.le_of_ble_eq_true rfl) dX4_ifPassed_99 ⟨Nat.le_of_ble_eq_true rfl, Nat.le_of_ble_eq_true rfl⟩) (fun r_21 m_20 h H locs w => ?_)
                refine lv_isub hx hb dX4_ifPassed_102 ?_
                exact x_iret C w h dX4_ifPassed_103
              · have c_27 : a2.toInt = 2 := by omega
                have h := h.2.2.2 c_27
                refine lv_tableIn (off := 62) (tgt := 104) hx hb dX4_ifPassed_42 (by omega) (by omega) (by rw [c_27]; rfl) (by decide) ?_
                refine lv_aload_n hx hb dX4_ifPassed_104 rfl (lv_at hl 0 rfl) ?_
                refine x_getX C w (k := 1) (v := .ref (ad 29)) (by decide) rfl mf_StairBows_16 dX4_ifPassed_105 ?_
                refine lv_bipush (v := 6) hx hb dX4_ifPassed_108 (by decide) ?_
                refine x_calli C w (x_runV (i := 29) (As := [.int 6]) (rest := []) C w (rfl : kd 29 = 9) (by decide) (ci := 3) rfl rfl rfl me_X3_sumOf ml_StairBows_141 (c_X3_sumOf l g ad m_6 _ 29 (rfl : kd 29 = 9) 6 h) ⟨rfl, rfl⟩ ⟨Nat.le_of_ble_eq_true rfl, Nat.le_of_ble_eq_true rfl⟩ rfl hl.1 rfl (Nat.le_of_ble_eq_true rfl) dX4_ifPassed_110 ⟨Nat.le_of_ble_eq_true rfl, Nat.le_of_ble_eq_true rfl⟩) (fun r_24 m_23 h H locs w => ?_)
                refine lv_aload_n hx hb dX4_ifPassed_113 rfl (lv_at hl 0 rfl) ?_
                refine x_getX C w (k := 0) (v := .ref (ad 1)) (by decide) rfl mf_StairBows_10 dX4_ifPassed_114 ?_
                refine lv_bipush (v := 6) hx hb dX4_ifPassed_117 (by decide) ?_
                refine x_calli C w (x_runV (i := 1) (As := [.int 6]) (rest := [.int r_24]) C w (rfl : kd 1 = 9) (by decide) (ci := 3) rfl rfl rfl me_X3_sumOf ml_StairBows_141 (c_X3_sumOf l g ad m_23 _ 1 (rfl : kd 1 = 9) 6 h) ⟨rfl, rfl⟩ ⟨Nat.le_of_ble_eq_true rfl, Nat.le_of_ble_eq_true rfl⟩ rfl hl.1 rfl (Nat.le_of_ble_eq_true rfl) dX4_ifPassed_119 ⟨Nat.le_of_ble_eq_true rfl, Nat.le_of_ble_eq_true rfl⟩) (fun r_26 m_25 h H locs w => ?_)
                refine lv_isub hx hb dX4_ifPassed_122 ?_
                exact x_iret C w h dX4_ifPassed_123
        · have h := h.2 c_4
          refine lv_bipush (v := -2) hx hb dX4_ifPassed_21 (by decide) ?_
          exact x_iret C w h dX4_ifPassed_23
abbrev rm_X4_bestLanding : Room := { frames := 7, cells := 0, slots := 0, locals := 153 }
noncomputable def wp_X4_bestLanding_L7 (K : Int32 → Mem → Prop) (n : Nat) : Int32 → Int32 → Int32 → Mem → Prop :=
  Nat.rec (motive := fun _ => Int32 → Int32 → Int32 → Mem → Prop) (fun _ _ _ _ => False) (fun _ ih v1 v2 v3 μ =>
    ((12 ≤ v3 → K v1 μ) ∧ (¬ 12 ≤ v3 → (wp_X3_isLanding 1 v3 μ (fun r_3 m_2 => ((r_3 = 0 → (wp_X3_takeFrom 29 1 m_2 (fun m_5 => (∀ m_6, m_6 = up2 m_5 29 3 ((m_5 29 3) ||| (1 <<< (v3 &&& 31))) → (wp_X4_tryOut 50 m_6 (fun r_9 m_8 => (wp_X3_sumOf 29 6 m_8 (fun r_11 m_10 => ((v1 = (-6) → ih v3 r_11 (v3 + 1) m_10) ∧ (¬ v1 = (-6) → ((v2 ≤ r_11 → ih v1 v2 (v3 + 1) m_10) ∧ (¬ v2 ≤ r_11 → ih v3 r_11 (v3 + 1) m_10)))))))))))) ∧ (¬ r_3 = 0 → ih v1 v2 (v3 + 1) m_2))))))) n
theorem wp_X4_bestLanding_L7_s (K : Int32 → Mem → Prop) (n : Nat) (v1 : Int32) (v2 : Int32) (v3 : Int32) (μ : Mem) : wp_X4_bestLanding_L7 K (n + 1) v1 v2 v3 μ = (
    let ih := wp_X4_bestLanding_L7 K n
    ((12 ≤ v3 → K v1 μ) ∧ (¬ 12 ≤ v3 → (wp_X3_isLanding 1 v3 μ (fun r_3 m_2 => ((r_3 = 0 → (wp_X3_takeFrom 29 1 m_2 (fun m_5 => (∀ m_6, m_6 = up2 m_5 29 3 ((m_5 29 3) ||| (1 <<< (v3 &&& 31))) → (wp_X4_tryOut 50 m_6 (fun r_9 m_8 => (wp_X3_sumOf 29 6 m_8 (fun r_11 m_10 => ((v1 = (-6) → ih v3 r_11 (v3 + 1) m_10) ∧ (¬ v1 = (-6) → ((v2 ≤ r_11 → ih v1 v2 (v3 + 1) m_10) ∧ (¬ v2 ≤ r_11 → ih v3 r_11 (v3 + 1) m_10)))))))))))) ∧ (¬ r_3 = 0 → ih v1 v2 (v3 + 1) m_2))))))) := rfl
noncomputable def wp_X4_bestLanding  (μ : Mem) (K : Int32 → Mem → Prop) : Prop :=
    (∃ n, wp_X4_bestLanding_L7 K n (-6) 0 0 μ)
set_option maxHeartbeats 4000000 in
set_option maxRecDepth 100000 in
theorem t_X4_bestLanding_L7 {g : Gv} {ad : Nat → Nat} {l : Launch} {p : Program} {e : Env} {s : State} {m : MethodId} {args : Array Value} {below : List Frame} {meth : Method} {c : Code} (C : Cx g p s m args meth c "StairBows" cX4_bestLanding 5 (some .int))   {K : Int32 → Mem → Prop}    : ∀ (n : Nat) (v1 : Int32) (v2 : Int32) (v3 : Int32) (μ : Mem) (H : Heap) (locs : List Loc) (ls : Array Slot), wp_X4_bestLanding_L7 K n v1 v2 v3 μ → Wd g ad μ (Aw ad s.heap.size) s H locs → lv_has ls 5 [(0, .ref (ad 0)), (1, .int v1), (2, .int v2), (3, .int v3)] → W p l e rm_X4_bestLanding s m args below meth c H locs 0 0 (MQ below (PostI g ad s.heap.size K) args s 0 0 (Aw ad s.heap.size)) (F0 m 7 ls []) := by
  obtain ⟨hx, hb, hml, -, hts, hown, -, -, hN⟩ := id C
  intro n
  induction n with
  | zero =>
    intro v1 v2 v3 μ H locs ls h w hl
    exact (show False from h).elim
  | succ n ih =>
    intro v1 v2 v3 μ H locs ls h w hl
    rw [wp_X4_bestLanding_L7_s] at h
    dsimp only at h
    refine lv_iload_n hx hb dX4_bestLanding_7 rfl (lv_at hl 3 rfl) ?_
    refine lv_bipush (v := 12) hx hb dX4_bestLanding_8 (by decide) ?_
    refine lv_icmp_ge (tgt := 94) hx hb dX4_bestLanding_10 (by decide) (fun c_1 => ?_) (fun c_1 => ?_)
    · have h := h.1 c_1
      refine lv_iload_n hx hb dX4_bestLanding_94 rfl (lv_at hl 1 rfl) ?_
      exact x_iret C w h dX4_bestLanding_95
    · have h := h.2 c_1
      refine lv_aload_n hx hb dX4_bestLanding_13 rfl (lv_at hl 0 rfl) ?_
      refine x_getX C w (k := 0) (v := .ref (ad 1)) (by decide) rfl mf_StairBows_10 dX4_bestLanding_14 ?_
      refine lv_iload_n hx hb dX4_bestLanding_17 rfl (lv_at hl 3 rfl) ?_
      refine x_calli C w (x_runV (i := 1) (As := [.int v3]) (rest := []) C w (rfl : kd 1 = 9) (by decide) (ci := 3) rfl rfl rfl me_X3_isLanding ml_StairBows_66 (c_X3_isLanding l g ad μ _ 1 (rfl : kd 1 = 9) v3 h) ⟨rfl, rfl⟩ ⟨Nat.le_of_ble_eq_true rfl, Nat.le_of_ble_eq_true rfl⟩ rfl hl.1 rfl (Nat.le_of_ble_eq_true rfl) dX4_bestLanding_18 ⟨Nat.le_of_ble_eq_true rfl, Nat.le_of_ble_eq_true rfl⟩) (fun r_3 m_2 h H locs w => ?_)
      refine lv_if_eq (tgt := 27) hx hb dX4_bestLanding_21 (by decide) (fun c_4 => ?_) (fun c_4 => ?_)
      · have h := h.1 c_4
        refine lv_aload_n hx hb dX4_bestLanding_27 rfl (lv_at hl 0 rfl) ?_
        refine x_getX C w (k := 1) (v := .ref (ad 29)) (by decide) rfl mf_StairBows_16 dX4_bestLanding_28 ?_
        refine lv_aload_n hx hb dX4_bestLanding_31 rfl (lv_at hl 0 rfl) ?_
        refine x_getX C w (k := 0) (v := .ref (ad 1)) (by decide) rfl mf_StairBows_10 dX4_bestLanding_32 ?_
        refine x_callv C w (x_runV (i := 29) (As := [.ref (ad 1)]) (rest := []) C w (rfl : kd 29 = 9) (by decide) (ci := 3) rfl rfl rfl me_X3_takeFrom ml_StairBows_135 (c_X3_takeFrom l g ad m_2 _ 29 (rfl : kd 29 = 9) 1 (rfl : kd 1 = 9) h) ⟨rfl, rfl⟩ ⟨Nat.le_of_ble_eq_true rfl, Nat.le_of_ble_eq_true rfl⟩ rfl hl.1 rfl (Nat.le_of_ble_eq_true rfl) dX4_bestLanding_35 ⟨Nat.le_of_ble_eq_true rfl, Nat.le_of_ble_eq_true rfl⟩) (fun m_5 h H locs w => ?_)
        refine lv_aload_n hx hb dX4_bestLanding_38 rfl (lv_at hl 0 rfl) ?_
        refine x_getX C w (k := 1) (v := .ref (ad 29)) (by decide) rfl mf_StairBows_16 dX4_bestLanding_39 ?_
        refine lv_dup hx hb dX4_bestLanding_42 rfl ?_
        refine x_getS C w (i := 29) (k := 3) (v := .int (m_5 29 3)) (rfl : kd 29 = 9) (by decide) rfl mf_StairBows_73 dX4_bestLanding_43 ?_
        refine lv_iconst (v := 1) hx hb dX4_bestLanding_46 (by decide) ?_
        refine lv_iload_n hx hb dX4_bestLanding_47 rfl (lv_at hl 3 rfl) ?_
        refine lv_ishl hx hb dX4_bestLanding_48 ?_
        refine lv_ior hx hb dX4_bestLanding_49 ?_
        refine x_putS C w (i := 29) (k := 3) (rfl : kd 29 = 9) (by decide) rfl mf_StairBows_73 rfl rfl dX4_bestLanding_50 (fun m_6 e_7 H locs w => ?_)
        have h := h m_6 e_7
        refine lv_aload_n hx hb dX4_bestLanding_53 rfl (lv_at hl 0 rfl) ?_
        refine lv_bipush (v := 50) hx hb dX4_bestLanding_54 (by decide) ?_
        refine x_calli C w (x_runV (i := 0) (As := [.int 50]) (rest := []) C w (rfl : kd 0 = 0) (by decide) (ci := 4) rfl rfl rfl me_X4_tryOut ml_StairBows_149 (c_X4_tryOut l g ad m_6 _ 50 h) ⟨rfl, rfl⟩ ⟨Nat.le_of_ble_eq_true rfl, Nat.le_of_ble_eq_true rfl⟩ rfl hl.1 rfl (Nat.le_of_ble_eq_true rfl) dX4_bestLanding_56 ⟨Nat.le_of_ble_eq_true rfl, Nat.le_of_ble_eq_true rfl⟩) (fun r_9 m_8 h H locs w => ?_)
        refine lv_pop hx hb dX4_bestLanding_59 rfl ?_
        refine lv_aload_n hx hb dX4_bestLanding_60 rfl (lv_at hl 0 rfl) ?_
        refine x_getX C w (k := 1) (v := .ref (ad 29)) (by decide) rfl mf_StairBows_16 dX4_bestLanding_61 ?_
        refine lv_bipush (v := 6) hx hb dX4_bestLanding_64 (by decide) ?_
        refine x_calli C w (x_runV (i := 29) (As := [.int 6]) (rest := []) C w (rfl : kd 29 = 9) (by decide) (ci := 3) rfl rfl rfl me_X3_sumOf ml_StairBows_141 (c_X3_sumOf l g ad m_8 _ 29 (rfl : kd 29 = 9) 6 h) ⟨rfl, rfl⟩ ⟨Nat.le_of_ble_eq_true rfl, Nat.le_of_ble_eq_true rfl⟩ rfl hl.1 rfl (Nat.le_of_ble_eq_true rfl) dX4_bestLanding_66 ⟨Nat.le_of_ble_eq_true rfl, Nat.le_of_ble_eq_true rfl⟩) (fun r_11 m_10 h H locs w => ?_)
        refine lv_istore (lv' := [(4, .int r_11), (0, .ref (ad 0)), (1, .int v1), (2, .int v2), (3, .int v3)]) hx hb dX4_bestLanding_69 hl (by decide) rfl (fun ls hl => ?_)
        refine lv_iload_n hx hb dX4_bestLanding_71 rfl (lv_at hl 2 rfl) ?_
        refine lv_bipush (v := -6) hx hb dX4_bestLanding_72 (by decide) ?_
        refine lv_icmp_eq (tgt := 83) hx hb dX4_bestLanding_74 (by decide) (fun c_12 => ?_) (fun c_12 => ?_)
        · have h := h.1 c_12
          refine lv_iload_n hx hb dX4_bestLanding_83 rfl (lv_at hl 4 rfl) ?_
          refine lv_istore_n (lv' := [(1, .int v3), (4, .int r_11), (0, .ref (ad 0)), (2, .int v2), (3, .int v3)]) hx hb dX4_bestLanding_84 rfl hl (by decide) rfl (fun ls hl => ?_)
          refine lv_iload hx hb dX4_bestLanding_85 (lv_at hl 1 rfl) ?_
          refine lv_istore_n (lv' := [(2, .int r_11), (1, .int v3), (4, .int r_11), (0, .ref (ad 0)), (3, .int v3)]) hx hb dX4_bestLanding_87 rfl hl (by decide) rfl (fun ls hl => ?_)
          refine lv_iinc (v := (v3 + 1)) (lv' := [(3, .int (v3 + 1)), (2, .int r_11), (1, .int v3), (4, .int r_11), (0, .ref (ad 0))]) hx hb dX4_bestLanding_88 hl (k := 4) rfl rfl (by decide) rfl (fun ls hl => ?_)
          refine lv_goto (tgt := 7) hx hb dX4_bestLanding_91 (by decide) ?_
          exact ih v3 r_11 (v3 + 1) m_10 _ _ _ h w (lv_sub hl [4, 2, 1, 0] rfl)
        · have h := h.2 c_12
          refine lv_iload hx hb dX4_bestLanding_77 (lv_at hl 0 rfl) ?_
          refine lv_iload_n hx hb dX4_bestLanding_79 rfl (lv_at hl 3 rfl) ?_
          refine lv_icmp_ge (tgt := 88) hx hb dX4_bestLanding_80 (by decide) (fun c_13 => ?_) (fun c_13 => ?_)
          · have h := h.1 c_13
            refine lv_iinc (v := (v3 + 1)) (lv' := [(3, .int (v3 + 1)), (4, .int r_11), (0, .ref (ad 0)), (1, .int v1), (2, .int v2)]) hx hb dX4_bestLanding_88 hl (k := 4) rfl rfl (by decide) rfl (fun ls hl => ?_)
            refine lv_goto (tgt := 7) hx hb dX4_bestLanding_91 (by decide) ?_
            exact ih v1 v2 (v3 + 1) m_10 _ _ _ h w (lv_sub hl [2, 3, 4, 0] rfl)
          · have h := h.2 c_13
            refine lv_iload_n hx hb dX4_bestLanding_83 rfl (lv_at hl 4 rfl) ?_
            refine lv_istore_n (lv' := [(1, .int v3), (4, .int r_11), (0, .ref (ad 0)), (2, .int v2), (3, .int v3)]) hx hb dX4_bestLanding_84 rfl hl (by decide) rfl (fun ls hl => ?_)
            refine lv_iload hx hb dX4_bestLanding_85 (lv_at hl 1 rfl) ?_
            refine lv_istore_n (lv' := [(2, .int r_11), (1, .int v3), (4, .int r_11), (0, .ref (ad 0)), (3, .int v3)]) hx hb dX4_bestLanding_87 rfl hl (by decide) rfl (fun ls hl => ?_)
            refine lv_iinc (v := (v3 + 1)) (lv' := [(3, .int (v3 + 1)), (2, .int r_11), (1, .int v3), (4, .int r_11), (0, .ref (ad 0))]) hx hb dX4_bestLanding_88 hl (k := 4) rfl rfl (by decide) rfl (fun ls hl => ?_)
            refine lv_goto (tgt := 7) hx hb dX4_bestLanding_91 (by decide) ?_
            exact ih v3 r_11 (v3 + 1) m_10 _ _ _ h w (lv_sub hl [4, 2, 1, 0] rfl)
      · have h := h.2 c_4
        refine lv_goto (tgt := 88) hx hb dX4_bestLanding_24 (by decide) ?_
        refine lv_iinc (v := (v3 + 1)) (lv' := [(3, .int (v3 + 1)), (0, .ref (ad 0)), (1, .int v1), (2, .int v2)]) hx hb dX4_bestLanding_88 hl (k := 3) rfl rfl (by decide) rfl (fun ls hl => ?_)
        refine lv_goto (tgt := 7) hx hb dX4_bestLanding_91 (by decide) ?_
        exact ih v1 v2 (v3 + 1) m_2 _ _ _ h w (lv_sub hl [1, 2, 3, 0] rfl)
set_option maxHeartbeats 4000000 in
set_option maxRecDepth 100000 in
theorem c_X4_bestLanding (l : Launch) (g : Gv) (ad : Nat → Nat) (μ : Mem) (sz : Nat)  {K : Int32 → Mem → Prop} (h : wp_X4_bestLanding μ K) : Met l yX4_bestLanding (wX yX4_bestLanding cX4_bestLanding 5 (some .int)) rm_X4_bestLanding (Pre g ad μ sz [.ref (ad 0)]) (PostI g ad sz K) 0 0 (Aw ad sz) := by
  refine Met.ofW (cc := cX4_bestLanding) (maxL := 5) (ret := (some .int)) (by decide) rfl ?_
  intro p e s m args below meth c s₁ B hml hv
  obtain ⟨rfl, rfl, C, w⟩ := x_start B hml hv
  obtain ⟨hx, hb, hml, -, hts, hown, -, -, hN⟩ := id C
  have hl := lv_entry ([.ref (ad 0)]) (n := 5) (Nat.le_of_ble_eq_true rfl)
  rw [lg_entry_eq]
  generalize (lg_sl ([.ref (ad 0)]) ++ List.replicate (5 - (lg_sl ([.ref (ad 0)])).length) Slot.unset).toArray = ls at hl ⊢
  have hl : lv_has ls 5 [(0, .ref (ad 0))] := hl
  show W p l e rm_X4_bestLanding s m _ below meth c s.heap [] 0 0 _ _
  unfold wp_X4_bestLanding at h
  refine lv_bipush (v := -6) hx hb dX4_bestLanding_0 (by decide) ?_
  refine lv_istore_n (lv' := [(1, .int (-6)), (0, .ref (ad 0))]) hx hb dX4_bestLanding_2 rfl hl (by decide) rfl (fun ls hl => ?_)
  refine lv_iconst (v := 0) hx hb dX4_bestLanding_3 (by decide) ?_
  refine lv_istore_n (lv' := [(2, .int 0), (1, .int (-6)), (0, .ref (ad 0))]) hx hb dX4_bestLanding_4 rfl hl (by decide) rfl (fun ls hl => ?_)
  refine lv_iconst (v := 0) hx hb dX4_bestLanding_5 (by decide) ?_
  refine lv_istore_n (lv' := [(3, .int 0), (2, .int 0), (1, .int (-6)), (0, .ref (ad 0))]) hx hb dX4_bestLanding_6 rfl hl (by decide) rfl (fun ls hl => ?_)
  obtain ⟨n_14, h⟩ := h
  exact t_X4_bestLanding_L7 C n_14 (-6) 0 0 μ _ _ _ h w (lv_sub hl [3, 2, 1, 0] rfl)
abbrev rm_X4_put : Room := { frames := 2, cells := 0, slots := 0, locals := 50 }
noncomputable def wp_X4_put (a1 : Int64) (μ : Mem) (K : Int32 → Mem → Prop) : Prop :=
    (wp_X1_append a1 μ (fun r_2 m_1 => K r_2 m_1))
set_option maxHeartbeats 4000000 in
set_option maxRecDepth 100000 in
theorem c_X4_put (l : Launch) (g : Gv) (ad : Nat → Nat) (μ : Mem) (sz : Nat) (a1 : Int64) {K : Int32 → Mem → Prop} (h : wp_X4_put a1 μ K) : Met l yX4_put (wX yX4_put cX4_put 3 (some .int)) rm_X4_put (Pre g ad μ sz [.ref (ad 0), .long a1]) (PostI g ad sz K) 0 0 (Aw ad sz) := by
  refine Met.ofW (cc := cX4_put) (maxL := 3) (ret := (some .int)) (by decide) rfl ?_
  intro p e s m args below meth c s₁ B hml hv
  obtain ⟨rfl, rfl, C, w⟩ := x_start B hml hv
  obtain ⟨hx, hb, hml, -, hts, hown, -, -, hN⟩ := id C
  have hl := lv_entry ([.ref (ad 0), .long a1]) (n := 3) (Nat.le_of_ble_eq_true rfl)
  rw [lg_entry_eq]
  generalize (lg_sl ([.ref (ad 0), .long a1]) ++ List.replicate (3 - (lg_sl ([.ref (ad 0), .long a1])).length) Slot.unset).toArray = ls at hl ⊢
  have hl : lv_has ls 3 [(0, .ref (ad 0)), (1, .long a1)] := hl
  show W p l e rm_X4_put s m _ below meth c s.heap [] 0 0 _ _
  unfold wp_X4_put at h
  refine lv_aload_n hx hb dX4_put_0 rfl (lv_at hl 0 rfl) ?_
  refine x_getX C w (k := 5) (v := .ref (ad 229)) (by decide) rfl mf_StairBows_37 dX4_put_1 ?_
  refine lv_lload_n hx hb dX4_put_4 rfl (lv_at hl 1 rfl) ?_
  refine x_calli C w (x_runV (i := 229) (As := [.long a1]) (rest := []) C w (rfl : kd 229 = 5) (by decide) (ci := 1) rfl rfl rfl me_X1_append ml_StairBows_155 (c_X1_append l g ad μ _ a1 h) ⟨rfl, rfl⟩ ⟨Nat.le_of_ble_eq_true rfl, Nat.le_of_ble_eq_true rfl⟩ rfl hl.1 rfl (Nat.le_of_ble_eq_true rfl) dX4_put_5 ⟨Nat.le_of_ble_eq_true rfl, Nat.le_of_ble_eq_true rfl⟩) (fun r_2 m_1 h H locs w => ?_)
  exact x_iret C w h dX4_put_8
abbrev rm_X4_wipe : Room := { frames := 0, cells := 0, slots := 0, locals := 0 }
noncomputable def wp_X4_wipe  (μ : Mem) (K : Int32 → Mem → Prop) : Prop :=
    (∀ m_1, m_1 = up2 μ 229 1 0 → K (μ 229 1) m_1)
set_option maxHeartbeats 4000000 in
set_option maxRecDepth 100000 in
theorem c_X4_wipe (l : Launch) (g : Gv) (ad : Nat → Nat) (μ : Mem) (sz : Nat)  {K : Int32 → Mem → Prop} (h : wp_X4_wipe μ K) : Met l yX4_wipe (wX yX4_wipe cX4_wipe 2 (some .int)) rm_X4_wipe (Pre g ad μ sz [.ref (ad 0)]) (PostI g ad sz K) 0 0 (Aw ad sz) := by
  refine Met.ofW (cc := cX4_wipe) (maxL := 2) (ret := (some .int)) (by decide) rfl ?_
  intro p e s m args below meth c s₁ B hml hv
  obtain ⟨rfl, rfl, C, w⟩ := x_start B hml hv
  obtain ⟨hx, hb, hml, -, hts, hown, -, -, hN⟩ := id C
  have hl := lv_entry ([.ref (ad 0)]) (n := 2) (Nat.le_of_ble_eq_true rfl)
  rw [lg_entry_eq]
  generalize (lg_sl ([.ref (ad 0)]) ++ List.replicate (2 - (lg_sl ([.ref (ad 0)])).length) Slot.unset).toArray = ls at hl ⊢
  have hl : lv_has ls 2 [(0, .ref (ad 0))] := hl
  show W p l e rm_X4_wipe s m _ below meth c s.heap [] 0 0 _ _
  unfold wp_X4_wipe at h
  refine lv_aload_n hx hb dX4_wipe_0 rfl (lv_at hl 0 rfl) ?_
  refine x_getX C w (k := 5) (v := .ref (ad 229)) (by decide) rfl mf_StairBows_37 dX4_wipe_1 ?_
  refine x_getD C w (k := 1) (v := .int (μ 229 1)) (by decide) rfl mf_StairBows_92 dX4_wipe_4 ?_
  refine lv_istore_n (lv' := [(1, .int (μ 229 1)), (0, .ref (ad 0))]) hx hb dX4_wipe_7 rfl hl (by decide) rfl (fun ls hl => ?_)
  refine lv_aload_n hx hb dX4_wipe_8 rfl (lv_at hl 1 rfl) ?_
  refine x_getX C w (k := 5) (v := .ref (ad 229)) (by decide) rfl mf_StairBows_37 dX4_wipe_9 ?_
  refine lv_iconst (v := 0) hx hb dX4_wipe_12 (by decide) ?_
  refine x_putD C w mf_StairBows_92 dX4_wipe_13 (fun m_1 e_2 H locs w => ?_)
  have h := h m_1 e_2
  refine lv_iload_n hx hb dX4_wipe_16 rfl (lv_at hl 0 rfl) ?_
  exact x_iret C w h dX4_wipe_17
abbrev rm_X4_isSlot : Room := { frames := 0, cells := 0, slots := 0, locals := 0 }
noncomputable def wp_X4_isSlot (a0 : Int32) (μ : Mem) (K : Int32 → Mem → Prop) : Prop :=
    ((a0 < 0 → K 0 μ) ∧ (¬ a0 < 0 → ((2 ≤ a0 → K 0 μ) ∧ (¬ 2 ≤ a0 → K 1 μ))))
set_option maxHeartbeats 4000000 in
set_option maxRecDepth 100000 in
theorem c_X4_isSlot (l : Launch) (g : Gv) (ad : Nat → Nat) (μ : Mem) (sz : Nat) (a0 : Int32) {K : Int32 → Mem → Prop} (h : wp_X4_isSlot a0 μ K) : Met l yX4_isSlot (wX yX4_isSlot cX4_isSlot 1 (some .boolean)) rm_X4_isSlot (Pre g ad μ sz [.int a0]) (PostI g ad sz K) 0 0 (Aw ad sz) := by
  refine Met.ofW (cc := cX4_isSlot) (maxL := 1) (ret := (some .boolean)) (by decide) rfl ?_
  intro p e s m args below meth c s₁ B hml hv
  obtain ⟨rfl, rfl, C, w⟩ := x_start B hml hv
  obtain ⟨hx, hb, hml, -, hts, hown, -, -, hN⟩ := id C
  have hl := lv_entry ([.int a0]) (n := 1) (Nat.le_of_ble_eq_true rfl)
  rw [lg_entry_eq]
  generalize (lg_sl ([.int a0]) ++ List.replicate (1 - (lg_sl ([.int a0])).length) Slot.unset).toArray = ls at hl ⊢
  have hl : lv_has ls 1 [(0, .int a0)] := hl
  show W p l e rm_X4_isSlot s m _ below meth c s.heap [] 0 0 _ _
  unfold wp_X4_isSlot at h
  refine lv_iload_n hx hb dX4_isSlot_0 rfl (lv_at hl 0 rfl) ?_
  refine lv_if_lt (tgt := 13) hx hb dX4_isSlot_1 (by decide) (fun c_1 => ?_) (fun c_1 => ?_)
  · have h := h.1 c_1
    refine lv_iconst (v := 0) hx hb dX4_isSlot_13 (by decide) ?_
    exact x_zret C w (show bz 0 from Or.inl rfl) h dX4_isSlot_14
  · have h := h.2 c_1
    refine lv_iload_n hx hb dX4_isSlot_4 rfl (lv_at hl 0 rfl) ?_
    refine lv_iconst (v := 2) hx hb dX4_isSlot_5 (by decide) ?_
    refine lv_icmp_ge (tgt := 13) hx hb dX4_isSlot_6 (by decide) (fun c_2 => ?_) (fun c_2 => ?_)
    · have h := h.1 c_2
      refine lv_iconst (v := 0) hx hb dX4_isSlot_13 (by decide) ?_
      exact x_zret C w (show bz 0 from Or.inl rfl) h dX4_isSlot_14
    · have h := h.2 c_2
      refine lv_iconst (v := 1) hx hb dX4_isSlot_9 (by decide) ?_
      refine lv_goto (tgt := 14) hx hb dX4_isSlot_10 (by decide) ?_
      exact x_zret C w (show bz 1 from Or.inr rfl) h dX4_isSlot_14
abbrev rm_X4_save : Room := { frames := 2, cells := 0, slots := 0, locals := 52 }
noncomputable def wp_X4_save (a1 : Int32) (μ : Mem) (K : Int32 → Mem → Prop) : Prop :=
    (wp_X4_isSlot a1 μ (fun r_2 m_1 => ((¬ r_2 = 0 → (vp_in a1 2 ∧ (wp_X3_takeFrom (231 + 28 * a1.toNatClampNeg) 1 m_1 (fun m_5 => (vp_in a1 2 ∧ (∀ m_6, m_6 = up2 m_5 228 a1.toNatClampNeg 1 → K (m_6 1 5) m_6)))))) ∧ (r_2 = 0 → K (-2) m_1))))
set_option maxHeartbeats 4000000 in
set_option maxRecDepth 100000 in
theorem c_X4_save (l : Launch) (g : Gv) (ad : Nat → Nat) (μ : Mem) (sz : Nat) (a1 : Int32) {K : Int32 → Mem → Prop} (h : wp_X4_save a1 μ K) : Met l yX4_save (wX yX4_save cX4_save 2 (some .int)) rm_X4_save (Pre g ad μ sz [.ref (ad 0), .int a1]) (PostI g ad sz K) 0 0 (Aw ad sz) := by
  refine Met.ofW (cc := cX4_save) (maxL := 2) (ret := (some .int)) (by decide) rfl ?_
  intro p e s m args below meth c s₁ B hml hv
  obtain ⟨rfl, rfl, C, w⟩ := x_start B hml hv
  obtain ⟨hx, hb, hml, -, hts, hown, -, -, hN⟩ := id C
  have hl := lv_entry ([.ref (ad 0), .int a1]) (n := 2) (Nat.le_of_ble_eq_true rfl)
  rw [lg_entry_eq]
  generalize (lg_sl ([.ref (ad 0), .int a1]) ++ List.replicate (2 - (lg_sl ([.ref (ad 0), .int a1])).length) Slot.unset).toArray = ls at hl ⊢
  have hl : lv_has ls 2 [(0, .ref (ad 0)), (1, .int a1)] := hl
  show W p l e rm_X4_save s m _ below meth c s.heap [] 0 0 _ _
  unfold wp_X4_save at h
  refine lv_iload_n hx hb dX4_save_0 rfl (lv_at hl 1 rfl) ?_
  refine x_calli C w (x_runS (As := [.int a1]) (rest := []) C w me_X4_isSlot ml_StairBows_162 (c_X4_isSlot l g ad μ _ a1 h) ⟨rfl, rfl⟩ ⟨Nat.le_of_ble_eq_true rfl, Nat.le_of_ble_eq_true rfl⟩ rfl hl.1 rfl (Nat.le_of_ble_eq_true rfl) dX4_save_1 ⟨Nat.le_of_ble_eq_true rfl, Nat.le_of_ble_eq_true rfl⟩) (fun r_2 m_1 h H locs w => ?_)
  refine lv_if_ne (tgt := 10) hx hb dX4_save_4 (by decide) (fun c_3 => ?_) (fun c_3 => ?_)
  · have h := h.1 c_3
    refine lv_aload_n hx hb dX4_save_10 rfl (lv_at hl 0 rfl) ?_
    refine x_getX C w (k := 3) (v := .ref (ad 227)) (by decide) rfl mf_StairBows_26 dX4_save_11 ?_
    refine lv_iload_n hx hb dX4_save_14 rfl (lv_at hl 1 rfl) ?_
    have hi := h.1
    have h := h.2
    have k_4 := kd_L _ (vp_lt hi)
    refine x_aldL C w hi dX4_save_15 ?_
    refine lv_aload_n hx hb dX4_save_16 rfl (lv_at hl 0 rfl) ?_
    refine x_getX C w (k := 0) (v := .ref (ad 1)) (by decide) rfl mf_StairBows_10 dX4_save_17 ?_
    refine x_callv C w (x_runV (i := (231 + 28 * a1.toNatClampNeg)) (As := [.ref (ad 1)]) (rest := []) C w k_4 (by decide) (ci := 3) rfl rfl rfl me_X3_takeFrom ml_StairBows_135 (c_X3_takeFrom l g ad m_1 _ (231 + 28 * a1.toNatClampNeg) k_4 1 (rfl : kd 1 = 9) h) ⟨rfl, rfl⟩ ⟨Nat.le_of_ble_eq_true rfl, Nat.le_of_ble_eq_true rfl⟩ rfl hl.1 rfl (Nat.le_of_ble_eq_true rfl) dX4_save_20 ⟨Nat.le_of_ble_eq_true rfl, Nat.le_of_ble_eq_true rfl⟩) (fun m_5 h H locs w => ?_)
    refine lv_aload_n hx hb dX4_save_23 rfl (lv_at hl 0 rfl) ?_
    refine x_getX C w (k := 4) (v := .ref (ad 228)) (by decide) rfl mf_StairBows_30 dX4_save_24 ?_
    refine lv_iload_n hx hb dX4_save_27 rfl (lv_at hl 1 rfl) ?_
    refine lv_iconst (v := 1) hx hb dX4_save_28 (by decide) ?_
    refine x_zast C w (show bz 1 from Or.inr rfl) (show vp_in a1 2 from h.1) dX4_save_29 (fun m_6 e_7 H locs w => ?_)
    have h := h.2 m_6 e_7
    refine lv_aload_n hx hb dX4_save_30 rfl (lv_at hl 0 rfl) ?_
    refine x_getX C w (k := 0) (v := .ref (ad 1)) (by decide) rfl mf_StairBows_10 dX4_save_31 ?_
    refine x_getS C w (i := 1) (k := 5) (v := .int (m_6 1 5)) (rfl : kd 1 = 9) (by decide) rfl mf_StairBows_117 dX4_save_34 ?_
    exact x_iret C w h dX4_save_37
  · have h := h.2 c_3
    refine lv_bipush (v := -2) hx hb dX4_save_7 (by decide) ?_
    exact x_iret C w h dX4_save_9
abbrev rm_X4_restore : Room := { frames := 3, cells := 0, slots := 0, locals := 73 }
noncomputable def wp_X4_restore (a1 : Int32) (μ : Mem) (K : Int32 → Mem → Prop) : Prop :=
    (wp_X4_isSlot a1 μ (fun r_2 m_1 => ((¬ r_2 = 0 → (vp_in a1 2 ∧ ((¬ (m_1 228 a1.toNatClampNeg) = 0 → (wp_X0_keep 1 m_1 (fun m_5 => (vp_in a1 2 ∧ (wp_X3_takeFrom 1 (231 + 28 * a1.toNatClampNeg) m_5 (fun m_7 => K (m_7 1 5) m_7)))))) ∧ ((m_1 228 a1.toNatClampNeg) = 0 → K (-5) m_1)))) ∧ (r_2 = 0 → K (-2) m_1))))
set_option maxHeartbeats 4000000 in
set_option maxRecDepth 100000 in
theorem c_X4_restore (l : Launch) (g : Gv) (ad : Nat → Nat) (μ : Mem) (sz : Nat) (a1 : Int32) {K : Int32 → Mem → Prop} (h : wp_X4_restore a1 μ K) : Met l yX4_restore (wX yX4_restore cX4_restore 2 (some .int)) rm_X4_restore (Pre g ad μ sz [.ref (ad 0), .int a1]) (PostI g ad sz K) 0 0 (Aw ad sz) := by
  refine Met.ofW (cc := cX4_restore) (maxL := 2) (ret := (some .int)) (by decide) rfl ?_
  intro p e s m args below meth c s₁ B hml hv
  obtain ⟨rfl, rfl, C, w⟩ := x_start B hml hv
  obtain ⟨hx, hb, hml, -, hts, hown, -, -, hN⟩ := id C
  have hl := lv_entry ([.ref (ad 0), .int a1]) (n := 2) (Nat.le_of_ble_eq_true rfl)
  rw [lg_entry_eq]
  generalize (lg_sl ([.ref (ad 0), .int a1]) ++ List.replicate (2 - (lg_sl ([.ref (ad 0), .int a1])).length) Slot.unset).toArray = ls at hl ⊢
  have hl : lv_has ls 2 [(0, .ref (ad 0)), (1, .int a1)] := hl
  show W p l e rm_X4_restore s m _ below meth c s.heap [] 0 0 _ _
  unfold wp_X4_restore at h
  refine lv_iload_n hx hb dX4_restore_0 rfl (lv_at hl 1 rfl) ?_
  refine x_calli C w (x_runS (As := [.int a1]) (rest := []) C w me_X4_isSlot ml_StairBows_162 (c_X4_isSlot l g ad μ _ a1 h) ⟨rfl, rfl⟩ ⟨Nat.le_of_ble_eq_true rfl, Nat.le_of_ble_eq_true rfl⟩ rfl hl.1 rfl (Nat.le_of_ble_eq_true rfl) dX4_restore_1 ⟨Nat.le_of_ble_eq_true rfl, Nat.le_of_ble_eq_true rfl⟩) (fun r_2 m_1 h H locs w => ?_)
  refine lv_if_ne (tgt := 10) hx hb dX4_restore_4 (by decide) (fun c_3 => ?_) (fun c_3 => ?_)
  · have h := h.1 c_3
    refine lv_aload_n hx hb dX4_restore_10 rfl (lv_at hl 0 rfl) ?_
    refine x_getX C w (k := 4) (v := .ref (ad 228)) (by decide) rfl mf_StairBows_30 dX4_restore_11 ?_
    refine lv_iload_n hx hb dX4_restore_14 rfl (lv_at hl 1 rfl) ?_
    refine x_zald C w (show vp_in a1 2 from h.1) dX4_restore_15 ?_
    have h := h.2
    refine lv_if_ne (tgt := 22) hx hb dX4_restore_16 (by decide) (fun c_4 => ?_) (fun c_4 => ?_)
    · have h := h.1 c_4
      refine lv_aload_n hx hb dX4_restore_22 rfl (lv_at hl 0 rfl) ?_
      refine x_getX C w (k := 2) (v := .ref (ad 57)) (by decide) rfl mf_StairBows_22 dX4_restore_23 ?_
      refine lv_aload_n hx hb dX4_restore_26 rfl (lv_at hl 0 rfl) ?_
      refine x_getX C w (k := 0) (v := .ref (ad 1)) (by decide) rfl mf_StairBows_10 dX4_restore_27 ?_
      refine x_callv C w (x_runV (i := 57) (As := [.ref (ad 1)]) (rest := []) C w (rfl : kd 57 = 1) (by decide) (ci := 0) rfl rfl rfl me_X0_keep ml_StairBows_56 (c_X0_keep l g ad m_1 _ 1 (rfl : kd 1 = 9) h) ⟨rfl, rfl⟩ ⟨Nat.le_of_ble_eq_true rfl, Nat.le_of_ble_eq_true rfl⟩ rfl hl.1 rfl (Nat.le_of_ble_eq_true rfl) dX4_restore_30 ⟨Nat.le_of_ble_eq_true rfl, Nat.le_of_ble_eq_true rfl⟩) (fun m_5 h H locs w => ?_)
      refine lv_aload_n hx hb dX4_restore_33 rfl (lv_at hl 0 rfl) ?_
      refine x_getX C w (k := 0) (v := .ref (ad 1)) (by decide) rfl mf_StairBows_10 dX4_restore_34 ?_
      refine lv_aload_n hx hb dX4_restore_37 rfl (lv_at hl 0 rfl) ?_
      refine x_getX C w (k := 3) (v := .ref (ad 227)) (by decide) rfl mf_StairBows_26 dX4_restore_38 ?_
      refine lv_iload_n hx hb dX4_restore_41 rfl (lv_at hl 1 rfl) ?_
      have hi := h.1
      have h := h.2
      have k_6 := kd_L _ (vp_lt hi)
      refine x_aldL C w hi dX4_restore_42 ?_
      refine x_callv C w (x_runV (i := 1) (As := [.ref (ad (231 + 28 * a1.toNatClampNeg))]) (rest := []) C w (rfl : kd 1 = 9) (by decide) (ci := 3) rfl rfl rfl me_X3_takeFrom ml_StairBows_135 (c_X3_takeFrom l g ad m_5 _ 1 (rfl : kd 1 = 9) (231 + 28 * a1.toNatClampNeg) k_6 h) ⟨rfl, rfl⟩ ⟨Nat.le_of_ble_eq_true rfl, Nat.le_of_ble_eq_true rfl⟩ rfl hl.1 rfl (Nat.le_of_ble_eq_true rfl) dX4_restore_43 ⟨Nat.le_of_ble_eq_true rfl, Nat.le_of_ble_eq_true rfl⟩) (fun m_7 h H locs w => ?_)
      refine lv_aload_n hx hb dX4_restore_46 rfl (lv_at hl 0 rfl) ?_
      refine x_getX C w (k := 0) (v := .ref (ad 1)) (by decide) rfl mf_StairBows_10 dX4_restore_47 ?_
      refine x_getS C w (i := 1) (k := 5) (v := .int (m_7 1 5)) (rfl : kd 1 = 9) (by decide) rfl mf_StairBows_117 dX4_restore_50 ?_
      exact x_iret C w h dX4_restore_53
    · have h := h.2 c_4
      refine lv_bipush (v := -5) hx hb dX4_restore_19 (by decide) ?_
      exact x_iret C w h dX4_restore_21
  · have h := h.2 c_3
    refine lv_bipush (v := -2) hx hb dX4_restore_7 (by decide) ?_
    exact x_iret C w h dX4_restore_9

/-! METHODS, by program: conditions and contracts -/
abbrev rm_X4_isStep : Room := { frames := 0, cells := 0, slots := 0, locals := 0 }
noncomputable def wp_X4_isStep (a0 : Int32) (μ : Mem) (K : Int32 → Mem → Prop) : Prop :=
    ((a0 < 0 → K 0 μ) ∧ (¬ a0 < 0 → ((12 ≤ a0 → K 0 μ) ∧ (¬ 12 ≤ a0 → K 1 μ))))
set_option maxHeartbeats 4000000 in
set_option maxRecDepth 100000 in
theorem c_X4_isStep (l : Launch) (g : Gv) (ad : Nat → Nat) (μ : Mem) (sz : Nat) (a0 : Int32) {K : Int32 → Mem → Prop} (h : wp_X4_isStep a0 μ K) : Met l yX4_isStep (wX yX4_isStep cX4_isStep 1 (some .boolean)) rm_X4_isStep (Pre g ad μ sz [.int a0]) (PostI g ad sz K) 0 0 (Aw ad sz) := by
  refine Met.ofW (cc := cX4_isStep) (maxL := 1) (ret := (some .boolean)) (by decide) rfl ?_
  intro p e s m args below meth c s₁ B hml hv
  obtain ⟨rfl, rfl, C, w⟩ := x_start B hml hv
  obtain ⟨hx, hb, hml, -, hts, hown, -, -, hN⟩ := id C
  have hl := lv_entry ([.int a0]) (n := 1) (Nat.le_of_ble_eq_true rfl)
  rw [lg_entry_eq]
  generalize (lg_sl ([.int a0]) ++ List.replicate (1 - (lg_sl ([.int a0])).length) Slot.unset).toArray = ls at hl ⊢
  have hl : lv_has ls 1 [(0, .int a0)] := hl
  show W p l e rm_X4_isStep s m _ below meth c s.heap [] 0 0 _ _
  unfold wp_X4_isStep at h
  refine lv_iload_n hx hb dX4_isStep_0 rfl (lv_at hl 0 rfl) ?_
  refine lv_if_lt (tgt := 14) hx hb dX4_isStep_1 (by decide) (fun c_1 => ?_) (fun c_1 => ?_)
  · have h := h.1 c_1
    refine lv_iconst (v := 0) hx hb dX4_isStep_14 (by decide) ?_
    exact x_zret C w (show bz 0 from Or.inl rfl) h dX4_isStep_15
  · have h := h.2 c_1
    refine lv_iload_n hx hb dX4_isStep_4 rfl (lv_at hl 0 rfl) ?_
    refine lv_bipush (v := 12) hx hb dX4_isStep_5 (by decide) ?_
    refine lv_icmp_ge (tgt := 14) hx hb dX4_isStep_7 (by decide) (fun c_2 => ?_) (fun c_2 => ?_)
    · have h := h.1 c_2
      refine lv_iconst (v := 0) hx hb dX4_isStep_14 (by decide) ?_
      exact x_zret C w (show bz 0 from Or.inl rfl) h dX4_isStep_15
    · have h := h.2 c_2
      refine lv_iconst (v := 1) hx hb dX4_isStep_10 (by decide) ?_
      refine lv_goto (tgt := 15) hx hb dX4_isStep_11 (by decide) ?_
      exact x_zret C w (show bz 1 from Or.inr rfl) h dX4_isStep_15
abbrev rm_X2_takeFrom : Room := { frames := 0, cells := 0, slots := 0, locals := 0 }
noncomputable def wp_X2_takeFrom (b0 : Nat) (a1 : Nat) (μ : Mem) (K : Mem → Prop) : Prop :=
    (∀ m_1, m_1 = up2 μ b0 0 (μ a1 0) → (bz (m_1 a1 1) ∧ (∀ m_3, m_3 = up2 m_1 b0 1 (m_1 a1 1) → (∀ m_5, m_5 = up2 m_3 b0 2 (m_3 a1 2) → (∀ m_7, m_7 = up2 m_5 b0 3 (m_5 a1 3) → (∀ m_9, m_9 = up2 m_7 b0 4 (m_7 a1 4) → (∀ m_11, m_11 = up2 m_9 b0 5 (m_9 a1 5) → (∀ m_13, m_13 = up2 m_11 b0 6 (m_11 a1 6) → (∀ m_15, m_15 = up2 m_13 b0 7 (m_13 a1 7) → (∀ m_17, m_17 = up2 m_15 b0 8 (m_15 a1 8) → K m_17))))))))))
set_option maxHeartbeats 4000000 in
set_option maxRecDepth 100000 in
theorem c_X2_takeFrom (l : Launch) (g : Gv) (ad : Nat → Nat) (μ : Mem) (sz : Nat) (b0 : Nat) (k0 : kd b0 = 13) (a1 : Nat) (k1 : kd a1 = 13) {K : Mem → Prop} (h : wp_X2_takeFrom b0 a1 μ K) : Met l yX2_takeFrom (wX yX2_takeFrom cX2_takeFrom 2 none) rm_X2_takeFrom (Pre g ad μ sz [.ref (ad b0), .ref (ad a1)]) (PostV g ad sz K) 0 0 (Aw ad sz) := by
  refine Met.ofW (cc := cX2_takeFrom) (maxL := 2) (ret := none) (by decide) rfl ?_
  intro p e s m args below meth c s₁ B hml hv
  obtain ⟨rfl, rfl, C, w⟩ := x_start B hml hv
  obtain ⟨hx, hb, hml, -, hts, hown, -, -, hN⟩ := id C
  have hl := lv_entry ([.ref (ad b0), .ref (ad a1)]) (n := 2) (Nat.le_of_ble_eq_true rfl)
  rw [lg_entry_eq]
  generalize (lg_sl ([.ref (ad b0), .ref (ad a1)]) ++ List.replicate (2 - (lg_sl ([.ref (ad b0), .ref (ad a1)])).length) Slot.unset).toArray = ls at hl ⊢
  have hl : lv_has ls 2 [(0, .ref (ad b0)), (1, .ref (ad a1))] := hl
  show W p l e rm_X2_takeFrom s m _ below meth c s.heap [] 0 0 _ _
  unfold wp_X2_takeFrom at h
  refine lv_aload_n hx hb dX2_takeFrom_0 rfl (lv_at hl 0 rfl) ?_
  refine lv_aload_n hx hb dX2_takeFrom_1 rfl (lv_at hl 1 rfl) ?_
  refine x_getP C w (i := a1) (k := 0) k1 (by decide) mf_Person_9 dX2_takeFrom_2 ?_
  refine x_putP C w (i := b0) (k := 0) k0 (by decide) mf_Person_9 rfl rfl rfl rfl dX2_takeFrom_5 (fun m_1 e_2 H locs w => ?_)
  have h := h m_1 e_2
  refine lv_aload_n hx hb dX2_takeFrom_8 rfl (lv_at hl 0 rfl) ?_
  refine lv_aload_n hx hb dX2_takeFrom_9 rfl (lv_at hl 1 rfl) ?_
  refine x_getP C w (i := a1) (k := 1) k1 (by decide) mf_Person_15 dX2_takeFrom_10 ?_
  have hz := h.1
  have h := h.2
  refine x_putP C w (i := b0) (k := 1) k0 (by decide) mf_Person_15 rfl rfl (bz_narrow hz) (bz_fits hz) dX2_takeFrom_13 (fun m_3 e_4 H locs w => ?_)
  have h := h m_3 e_4
  refine lv_aload_n hx hb dX2_takeFrom_16 rfl (lv_at hl 0 rfl) ?_
  refine lv_aload_n hx hb dX2_takeFrom_17 rfl (lv_at hl 1 rfl) ?_
  refine x_getP C w (i := a1) (k := 2) k1 (by decide) mf_Person_19 dX2_takeFrom_18 ?_
  refine x_putP C w (i := b0) (k := 2) k0 (by decide) mf_Person_19 rfl rfl rfl rfl dX2_takeFrom_21 (fun m_5 e_6 H locs w => ?_)
  have h := h m_5 e_6
  refine lv_aload_n hx hb dX2_takeFrom_24 rfl (lv_at hl 0 rfl) ?_
  refine lv_aload_n hx hb dX2_takeFrom_25 rfl (lv_at hl 1 rfl) ?_
  refine x_getP C w (i := a1) (k := 3) k1 (by decide) mf_Person_22 dX2_takeFrom_26 ?_
  refine x_putP C w (i := b0) (k := 3) k0 (by decide) mf_Person_22 rfl rfl rfl rfl dX2_takeFrom_29 (fun m_7 e_8 H locs w => ?_)
  have h := h m_7 e_8
  refine lv_aload_n hx hb dX2_takeFrom_32 rfl (lv_at hl 0 rfl) ?_
  refine lv_aload_n hx hb dX2_takeFrom_33 rfl (lv_at hl 1 rfl) ?_
  refine x_getP C w (i := a1) (k := 4) k1 (by decide) mf_Person_25 dX2_takeFrom_34 ?_
  refine x_putP C w (i := b0) (k := 4) k0 (by decide) mf_Person_25 rfl rfl rfl rfl dX2_takeFrom_37 (fun m_9 e_10 H locs w => ?_)
  have h := h m_9 e_10
  refine lv_aload_n hx hb dX2_takeFrom_40 rfl (lv_at hl 0 rfl) ?_
  refine lv_aload_n hx hb dX2_takeFrom_41 rfl (lv_at hl 1 rfl) ?_
  refine x_getP C w (i := a1) (k := 5) k1 (by decide) mf_Person_28 dX2_takeFrom_42 ?_
  refine x_putP C w (i := b0) (k := 5) k0 (by decide) mf_Person_28 rfl rfl rfl rfl dX2_takeFrom_45 (fun m_11 e_12 H locs w => ?_)
  have h := h m_11 e_12
  refine lv_aload_n hx hb dX2_takeFrom_48 rfl (lv_at hl 0 rfl) ?_
  refine lv_aload_n hx hb dX2_takeFrom_49 rfl (lv_at hl 1 rfl) ?_
  refine x_getP C w (i := a1) (k := 6) k1 (by decide) mf_Person_31 dX2_takeFrom_50 ?_
  refine x_putP C w (i := b0) (k := 6) k0 (by decide) mf_Person_31 rfl rfl rfl rfl dX2_takeFrom_53 (fun m_13 e_14 H locs w => ?_)
  have h := h m_13 e_14
  refine lv_aload_n hx hb dX2_takeFrom_56 rfl (lv_at hl 0 rfl) ?_
  refine lv_aload_n hx hb dX2_takeFrom_57 rfl (lv_at hl 1 rfl) ?_
  refine x_getP C w (i := a1) (k := 7) k1 (by decide) mf_Person_34 dX2_takeFrom_58 ?_
  refine x_putP C w (i := b0) (k := 7) k0 (by decide) mf_Person_34 rfl rfl rfl rfl dX2_takeFrom_61 (fun m_15 e_16 H locs w => ?_)
  have h := h m_15 e_16
  refine lv_aload_n hx hb dX2_takeFrom_64 rfl (lv_at hl 0 rfl) ?_
  refine lv_aload_n hx hb dX2_takeFrom_65 rfl (lv_at hl 1 rfl) ?_
  refine x_getP C w (i := a1) (k := 8) k1 (by decide) mf_Person_37 dX2_takeFrom_66 ?_
  refine x_putP C w (i := b0) (k := 8) k0 (by decide) mf_Person_37 rfl rfl rfl rfl dX2_takeFrom_69 (fun m_17 e_18 H locs w => ?_)
  have h := h m_17 e_18
  exact x_vret C w h dX2_takeFrom_72
abbrev rm_X2_enterHall : Room := { frames := 0, cells := 0, slots := 0, locals := 0 }
noncomputable def wp_X2_enterHall_B26 (v0 : Nat) (s0 : Int32) (s1 : Nat) (K : Mem → Prop) (μ : Mem) : Prop :=
    (∀ m_8, m_8 = up2 μ s1 3 s0 → (∀ m_10, m_10 = up2 m_8 v0 4 0 → (∀ m_12, m_12 = up2 m_10 v0 5 0 → (∀ m_14, m_14 = up2 m_12 v0 6 0 → (∀ m_16, m_16 = up2 m_14 v0 7 0 → (∀ m_18, m_18 = up2 m_16 v0 8 0 → K m_18))))))
noncomputable def wp_X2_enterHall (b0 : Nat) (a1 : Int32) (a2 : Int32) (μ : Mem) (K : Mem → Prop) : Prop :=
    (∀ m_1, m_1 = up2 μ b0 0 a1 → (bz a2 ∧ (∀ m_3, m_3 = up2 m_1 b0 1 a2 → (∀ m_5, m_5 = up2 m_3 b0 2 0 → ((a2 = 0 → wp_X2_enterHall_B26 b0 12 b0 K m_5) ∧ (¬ a2 = 0 → wp_X2_enterHall_B26 b0 (-1) b0 K m_5))))))
set_option maxHeartbeats 4000000 in
set_option maxRecDepth 100000 in
theorem t_X2_enterHall_B26 {g : Gv} {ad : Nat → Nat} {l : Launch} {p : Program} {e : Env} {s : State} {m : MethodId} {args : Array Value} {below : List Frame} {meth : Method} {c : Code} (C : Cx g p s m args meth c "StairBows$Person" cX2_enterHall 3 none) {v0 : Nat} {s0 : Int32} {s1 : Nat}  {K : Mem → Prop}  (kv0 : kd v0 = 13) (ks1 : kd s1 = 13)  (μ : Mem) (H : Heap) (locs : List Loc) (ls : Array Slot) (h : wp_X2_enterHall_B26 v0 s0 s1 K μ) (w : Wd g ad μ (Aw ad s.heap.size) s H locs) (hl : lv_has ls 3 [(0, .ref (ad v0))]) : W p l e rm_X2_enterHall s m args below meth c H locs 0 0 (MQ below (PostV g ad s.heap.size K) args s 0 0 (Aw ad s.heap.size)) (F0 m 26 ls [.int s0, .ref (ad s1)]) := by
  obtain ⟨hx, hb, hml, -, hts, hown, -, -, hN⟩ := id C
  unfold wp_X2_enterHall_B26 at h
  refine x_putP C w (i := s1) (k := 3) ks1 (by decide) mf_Person_22 rfl rfl rfl rfl dX2_enterHall_26 (fun m_8 e_9 H locs w => ?_)
  have h := h m_8 e_9
  refine lv_aload_n hx hb dX2_enterHall_29 rfl (lv_at hl 0 rfl) ?_
  refine lv_iconst (v := 0) hx hb dX2_enterHall_30 (by decide) ?_
  refine x_putP C w (i := v0) (k := 4) kv0 (by decide) mf_Person_25 rfl rfl rfl rfl dX2_enterHall_31 (fun m_10 e_11 H locs w => ?_)
  have h := h m_10 e_11
  refine lv_aload_n hx hb dX2_enterHall_34 rfl (lv_at hl 0 rfl) ?_
  refine lv_iconst (v := 0) hx hb dX2_enterHall_35 (by decide) ?_
  refine x_putP C w (i := v0) (k := 5) kv0 (by decide) mf_Person_28 rfl rfl rfl rfl dX2_enterHall_36 (fun m_12 e_13 H locs w => ?_)
  have h := h m_12 e_13
  refine lv_aload_n hx hb dX2_enterHall_39 rfl (lv_at hl 0 rfl) ?_
  refine lv_iconst (v := 0) hx hb dX2_enterHall_40 (by decide) ?_
  refine x_putP C w (i := v0) (k := 6) kv0 (by decide) mf_Person_31 rfl rfl rfl rfl dX2_enterHall_41 (fun m_14 e_15 H locs w => ?_)
  have h := h m_14 e_15
  refine lv_aload_n hx hb dX2_enterHall_44 rfl (lv_at hl 0 rfl) ?_
  refine lv_iconst (v := 0) hx hb dX2_enterHall_45 (by decide) ?_
  refine x_putP C w (i := v0) (k := 7) kv0 (by decide) mf_Person_34 rfl rfl rfl rfl dX2_enterHall_46 (fun m_16 e_17 H locs w => ?_)
  have h := h m_16 e_17
  refine lv_aload_n hx hb dX2_enterHall_49 rfl (lv_at hl 0 rfl) ?_
  refine lv_iconst (v := 0) hx hb dX2_enterHall_50 (by decide) ?_
  refine x_putP C w (i := v0) (k := 8) kv0 (by decide) mf_Person_37 rfl rfl rfl rfl dX2_enterHall_51 (fun m_18 e_19 H locs w => ?_)
  have h := h m_18 e_19
  exact x_vret C w h dX2_enterHall_54
set_option maxHeartbeats 4000000 in
set_option maxRecDepth 100000 in
theorem c_X2_enterHall (l : Launch) (g : Gv) (ad : Nat → Nat) (μ : Mem) (sz : Nat) (b0 : Nat) (k0 : kd b0 = 13) (a1 : Int32) (a2 : Int32) {K : Mem → Prop} (h : wp_X2_enterHall b0 a1 a2 μ K) : Met l yX2_enterHall (wX yX2_enterHall cX2_enterHall 3 none) rm_X2_enterHall (Pre g ad μ sz [.ref (ad b0), .int a1, .int a2]) (PostV g ad sz K) 0 0 (Aw ad sz) := by
  refine Met.ofW (cc := cX2_enterHall) (maxL := 3) (ret := none) (by decide) rfl ?_
  intro p e s m args below meth c s₁ B hml hv
  obtain ⟨rfl, rfl, C, w⟩ := x_start B hml hv
  obtain ⟨hx, hb, hml, -, hts, hown, -, -, hN⟩ := id C
  have hl := lv_entry ([.ref (ad b0), .int a1, .int a2]) (n := 3) (Nat.le_of_ble_eq_true rfl)
  rw [lg_entry_eq]
  generalize (lg_sl ([.ref (ad b0), .int a1, .int a2]) ++ List.replicate (3 - (lg_sl ([.ref (ad b0), .int a1, .int a2])).length) Slot.unset).toArray = ls at hl ⊢
  have hl : lv_has ls 3 [(0, .ref (ad b0)), (1, .int a1), (2, .int a2)] := hl
  show W p l e rm_X2_enterHall s m _ below meth c s.heap [] 0 0 _ _
  unfold wp_X2_enterHall at h
  refine lv_aload_n hx hb dX2_enterHall_0 rfl (lv_at hl 0 rfl) ?_
  refine lv_iload_n hx hb dX2_enterHall_1 rfl (lv_at hl 1 rfl) ?_
  refine x_putP C w (i := b0) (k := 0) k0 (by decide) mf_Person_9 rfl rfl rfl rfl dX2_enterHall_2 (fun m_1 e_2 H locs w => ?_)
  have h := h m_1 e_2
  refine lv_aload_n hx hb dX2_enterHall_5 rfl (lv_at hl 0 rfl) ?_
  refine lv_iload_n hx hb dX2_enterHall_6 rfl (lv_at hl 2 rfl) ?_
  have hz := h.1
  have h := h.2
  refine x_putP C w (i := b0) (k := 1) k0 (by decide) mf_Person_15 rfl rfl (bz_narrow hz) (bz_fits hz) dX2_enterHall_7 (fun m_3 e_4 H locs w => ?_)
  have h := h m_3 e_4
  refine lv_aload_n hx hb dX2_enterHall_10 rfl (lv_at hl 0 rfl) ?_
  refine lv_iconst (v := 0) hx hb dX2_enterHall_11 (by decide) ?_
  refine x_putP C w (i := b0) (k := 2) k0 (by decide) mf_Person_19 rfl rfl rfl rfl dX2_enterHall_12 (fun m_5 e_6 H locs w => ?_)
  have h := h m_5 e_6
  refine lv_aload_n hx hb dX2_enterHall_15 rfl (lv_at hl 0 rfl) ?_
  refine lv_iload_n hx hb dX2_enterHall_16 rfl (lv_at hl 2 rfl) ?_
  refine lv_if_eq (tgt := 24) hx hb dX2_enterHall_17 (by decide) (fun c_7 => ?_) (fun c_7 => ?_)
  · have h := h.1 c_7
    refine lv_bipush (v := 12) hx hb dX2_enterHall_24 (by decide) ?_
    exact t_X2_enterHall_B26 C k0 k0 m_5 _ _ _ h w (lv_sub hl [0] rfl)
  · have h := h.2 c_7
    refine lv_iconst (v := -1) hx hb dX2_enterHall_20 (by decide) ?_
    refine lv_goto (tgt := 26) hx hb dX2_enterHall_21 (by decide) ?_
    exact t_X2_enterHall_B26 C k0 k0 m_5 _ _ _ h w (lv_sub hl [0] rfl)
abbrev rm_X2_isOnWay : Room := { frames := 0, cells := 0, slots := 0, locals := 0 }
noncomputable def wp_X2_isOnWay (b0 : Nat) (μ : Mem) (K : Int32 → Mem → Prop) : Prop :=
    (((μ b0 2) = 0 → K 1 μ) ∧ (¬ (μ b0 2) = 0 → ((¬ (μ b0 2) = 1 → K 0 μ) ∧ ((μ b0 2) = 1 → K 1 μ))))
set_option maxHeartbeats 4000000 in
set_option maxRecDepth 100000 in
theorem c_X2_isOnWay (l : Launch) (g : Gv) (ad : Nat → Nat) (μ : Mem) (sz : Nat) (b0 : Nat) (k0 : kd b0 = 13) {K : Int32 → Mem → Prop} (h : wp_X2_isOnWay b0 μ K) : Met l yX2_isOnWay (wX yX2_isOnWay cX2_isOnWay 1 (some .boolean)) rm_X2_isOnWay (Pre g ad μ sz [.ref (ad b0)]) (PostI g ad sz K) 0 0 (Aw ad sz) := by
  refine Met.ofW (cc := cX2_isOnWay) (maxL := 1) (ret := (some .boolean)) (by decide) rfl ?_
  intro p e s m args below meth c s₁ B hml hv
  obtain ⟨rfl, rfl, C, w⟩ := x_start B hml hv
  obtain ⟨hx, hb, hml, -, hts, hown, -, -, hN⟩ := id C
  have hl := lv_entry ([.ref (ad b0)]) (n := 1) (Nat.le_of_ble_eq_true rfl)
  rw [lg_entry_eq]
  generalize (lg_sl ([.ref (ad b0)]) ++ List.replicate (1 - (lg_sl ([.ref (ad b0)])).length) Slot.unset).toArray = ls at hl ⊢
  have hl : lv_has ls 1 [(0, .ref (ad b0))] := hl
  show W p l e rm_X2_isOnWay s m _ below meth c s.heap [] 0 0 _ _
  unfold wp_X2_isOnWay at h
  refine lv_aload_n hx hb dX2_isOnWay_0 rfl (lv_at hl 0 rfl) ?_
  refine x_getP C w (i := b0) (k := 2) k0 (by decide) mf_Person_19 dX2_isOnWay_1 ?_
  refine lv_if_eq (tgt := 15) hx hb dX2_isOnWay_4 (by decide) (fun c_1 => ?_) (fun c_1 => ?_)
  · have h := h.1 c_1
    refine lv_iconst (v := 1) hx hb dX2_isOnWay_15 (by decide) ?_
    refine lv_goto (tgt := 20) hx hb dX2_isOnWay_16 (by decide) ?_
    exact x_zret C w (show bz 1 from Or.inr rfl) h dX2_isOnWay_20
  · have h := h.2 c_1
    refine lv_aload_n hx hb dX2_isOnWay_7 rfl (lv_at hl 0 rfl) ?_
    refine x_getP C w (i := b0) (k := 2) k0 (by decide) mf_Person_19 dX2_isOnWay_8 ?_
    refine lv_iconst (v := 1) hx hb dX2_isOnWay_11 (by decide) ?_
    refine lv_icmp_ne (tgt := 19) hx hb dX2_isOnWay_12 (by decide) (fun c_2 => ?_) (fun c_2 => ?_)
    · have h := h.1 c_2
      refine lv_iconst (v := 0) hx hb dX2_isOnWay_19 (by decide) ?_
      exact x_zret C w (show bz 0 from Or.inl rfl) h dX2_isOnWay_20
    · have h := h.2 c_2
      refine lv_iconst (v := 1) hx hb dX2_isOnWay_15 (by decide) ?_
      refine lv_goto (tgt := 20) hx hb dX2_isOnWay_16 (by decide) ?_
      exact x_zret C w (show bz 1 from Or.inr rfl) h dX2_isOnWay_20
abbrev rm_X2_standsOn : Room := { frames := 0, cells := 0, slots := 0, locals := 0 }
noncomputable def wp_X2_standsOn (b0 : Nat) (a1 : Int32) (μ : Mem) (K : Int32 → Mem → Prop) : Prop :=
    ((¬ (μ b0 2) = 1 → K 0 μ) ∧ ((μ b0 2) = 1 → ((¬ (μ b0 3) = a1 → K 0 μ) ∧ ((μ b0 3) = a1 → K 1 μ))))
set_option maxHeartbeats 4000000 in
set_option maxRecDepth 100000 in
theorem c_X2_standsOn (l : Launch) (g : Gv) (ad : Nat → Nat) (μ : Mem) (sz : Nat) (b0 : Nat) (k0 : kd b0 = 13) (a1 : Int32) {K : Int32 → Mem → Prop} (h : wp_X2_standsOn b0 a1 μ K) : Met l yX2_standsOn (wX yX2_standsOn cX2_standsOn 2 (some .boolean)) rm_X2_standsOn (Pre g ad μ sz [.ref (ad b0), .int a1]) (PostI g ad sz K) 0 0 (Aw ad sz) := by
  refine Met.ofW (cc := cX2_standsOn) (maxL := 2) (ret := (some .boolean)) (by decide) rfl ?_
  intro p e s m args below meth c s₁ B hml hv
  obtain ⟨rfl, rfl, C, w⟩ := x_start B hml hv
  obtain ⟨hx, hb, hml, -, hts, hown, -, -, hN⟩ := id C
  have hl := lv_entry ([.ref (ad b0), .int a1]) (n := 2) (Nat.le_of_ble_eq_true rfl)
  rw [lg_entry_eq]
  generalize (lg_sl ([.ref (ad b0), .int a1]) ++ List.replicate (2 - (lg_sl ([.ref (ad b0), .int a1])).length) Slot.unset).toArray = ls at hl ⊢
  have hl : lv_has ls 2 [(0, .ref (ad b0)), (1, .int a1)] := hl
  show W p l e rm_X2_standsOn s m _ below meth c s.heap [] 0 0 _ _
  unfold wp_X2_standsOn at h
  refine lv_aload_n hx hb dX2_standsOn_0 rfl (lv_at hl 0 rfl) ?_
  refine x_getP C w (i := b0) (k := 2) k0 (by decide) mf_Person_19 dX2_standsOn_1 ?_
  refine lv_iconst (v := 1) hx hb dX2_standsOn_4 (by decide) ?_
  refine lv_icmp_ne (tgt := 20) hx hb dX2_standsOn_5 (by decide) (fun c_1 => ?_) (fun c_1 => ?_)
  · have h := h.1 c_1
    refine lv_iconst (v := 0) hx hb dX2_standsOn_20 (by decide) ?_
    exact x_zret C w (show bz 0 from Or.inl rfl) h dX2_standsOn_21
  · have h := h.2 c_1
    refine lv_aload_n hx hb dX2_standsOn_8 rfl (lv_at hl 0 rfl) ?_
    refine x_getP C w (i := b0) (k := 3) k0 (by decide) mf_Person_22 dX2_standsOn_9 ?_
    refine lv_iload_n hx hb dX2_standsOn_12 rfl (lv_at hl 1 rfl) ?_
    refine lv_icmp_ne (tgt := 20) hx hb dX2_standsOn_13 (by decide) (fun c_2 => ?_) (fun c_2 => ?_)
    · have h := h.1 c_2
      refine lv_iconst (v := 0) hx hb dX2_standsOn_20 (by decide) ?_
      exact x_zret C w (show bz 0 from Or.inl rfl) h dX2_standsOn_21
    · have h := h.2 c_2
      refine lv_iconst (v := 1) hx hb dX2_standsOn_16 (by decide) ?_
      refine lv_goto (tgt := 21) hx hb dX2_standsOn_17 (by decide) ?_
      exact x_zret C w (show bz 1 from Or.inr rfl) h dX2_standsOn_21
abbrev rm_X2_nextStep : Room := { frames := 0, cells := 0, slots := 0, locals := 0 }
noncomputable def wp_X2_nextStep (b0 : Nat) (μ : Mem) (K : Int32 → Mem → Prop) : Prop :=
    (((μ b0 1) = 0 → K ((μ b0 3) - 1) μ) ∧ (¬ (μ b0 1) = 0 → K ((μ b0 3) + 1) μ))
set_option maxHeartbeats 4000000 in
set_option maxRecDepth 100000 in
theorem c_X2_nextStep (l : Launch) (g : Gv) (ad : Nat → Nat) (μ : Mem) (sz : Nat) (b0 : Nat) (k0 : kd b0 = 13) {K : Int32 → Mem → Prop} (h : wp_X2_nextStep b0 μ K) : Met l yX2_nextStep (wX yX2_nextStep cX2_nextStep 1 (some .int)) rm_X2_nextStep (Pre g ad μ sz [.ref (ad b0)]) (PostI g ad sz K) 0 0 (Aw ad sz) := by
  refine Met.ofW (cc := cX2_nextStep) (maxL := 1) (ret := (some .int)) (by decide) rfl ?_
  intro p e s m args below meth c s₁ B hml hv
  obtain ⟨rfl, rfl, C, w⟩ := x_start B hml hv
  obtain ⟨hx, hb, hml, -, hts, hown, -, -, hN⟩ := id C
  have hl := lv_entry ([.ref (ad b0)]) (n := 1) (Nat.le_of_ble_eq_true rfl)
  rw [lg_entry_eq]
  generalize (lg_sl ([.ref (ad b0)]) ++ List.replicate (1 - (lg_sl ([.ref (ad b0)])).length) Slot.unset).toArray = ls at hl ⊢
  have hl : lv_has ls 1 [(0, .ref (ad b0))] := hl
  show W p l e rm_X2_nextStep s m _ below meth c s.heap [] 0 0 _ _
  unfold wp_X2_nextStep at h
  refine lv_aload_n hx hb dX2_nextStep_0 rfl (lv_at hl 0 rfl) ?_
  refine x_getP C w (i := b0) (k := 1) k0 (by decide) mf_Person_15 dX2_nextStep_1 ?_
  refine lv_if_eq (tgt := 16) hx hb dX2_nextStep_4 (by decide) (fun c_1 => ?_) (fun c_1 => ?_)
  · have h := h.1 c_1
    refine lv_aload_n hx hb dX2_nextStep_16 rfl (lv_at hl 0 rfl) ?_
    refine x_getP C w (i := b0) (k := 3) k0 (by decide) mf_Person_22 dX2_nextStep_17 ?_
    refine lv_iconst (v := 1) hx hb dX2_nextStep_20 (by decide) ?_
    refine lv_isub hx hb dX2_nextStep_21 ?_
    exact x_iret C w h dX2_nextStep_22
  · have h := h.2 c_1
    refine lv_aload_n hx hb dX2_nextStep_7 rfl (lv_at hl 0 rfl) ?_
    refine x_getP C w (i := b0) (k := 3) k0 (by decide) mf_Person_22 dX2_nextStep_8 ?_
    refine lv_iconst (v := 1) hx hb dX2_nextStep_11 (by decide) ?_
    refine lv_iadd hx hb dX2_nextStep_12 ?_
    refine lv_goto (tgt := 22) hx hb dX2_nextStep_13 (by decide) ?_
    exact x_iret C w h dX2_nextStep_22
abbrev rm_X2_stepBehind : Room := { frames := 0, cells := 0, slots := 0, locals := 0 }
noncomputable def wp_X2_stepBehind (b0 : Nat) (μ : Mem) (K : Int32 → Mem → Prop) : Prop :=
    (((μ b0 1) = 0 → K ((μ b0 3) + 1) μ) ∧ (¬ (μ b0 1) = 0 → K ((μ b0 3) - 1) μ))
set_option maxHeartbeats 4000000 in
set_option maxRecDepth 100000 in
theorem c_X2_stepBehind (l : Launch) (g : Gv) (ad : Nat → Nat) (μ : Mem) (sz : Nat) (b0 : Nat) (k0 : kd b0 = 13) {K : Int32 → Mem → Prop} (h : wp_X2_stepBehind b0 μ K) : Met l yX2_stepBehind (wX yX2_stepBehind cX2_stepBehind 1 (some .int)) rm_X2_stepBehind (Pre g ad μ sz [.ref (ad b0)]) (PostI g ad sz K) 0 0 (Aw ad sz) := by
  refine Met.ofW (cc := cX2_stepBehind) (maxL := 1) (ret := (some .int)) (by decide) rfl ?_
  intro p e s m args below meth c s₁ B hml hv
  obtain ⟨rfl, rfl, C, w⟩ := x_start B hml hv
  obtain ⟨hx, hb, hml, -, hts, hown, -, -, hN⟩ := id C
  have hl := lv_entry ([.ref (ad b0)]) (n := 1) (Nat.le_of_ble_eq_true rfl)
  rw [lg_entry_eq]
  generalize (lg_sl ([.ref (ad b0)]) ++ List.replicate (1 - (lg_sl ([.ref (ad b0)])).length) Slot.unset).toArray = ls at hl ⊢
  have hl : lv_has ls 1 [(0, .ref (ad b0))] := hl
  show W p l e rm_X2_stepBehind s m _ below meth c s.heap [] 0 0 _ _
  unfold wp_X2_stepBehind at h
  refine lv_aload_n hx hb dX2_stepBehind_0 rfl (lv_at hl 0 rfl) ?_
  refine x_getP C w (i := b0) (k := 1) k0 (by decide) mf_Person_15 dX2_stepBehind_1 ?_
  refine lv_if_eq (tgt := 16) hx hb dX2_stepBehind_4 (by decide) (fun c_1 => ?_) (fun c_1 => ?_)
  · have h := h.1 c_1
    refine lv_aload_n hx hb dX2_stepBehind_16 rfl (lv_at hl 0 rfl) ?_
    refine x_getP C w (i := b0) (k := 3) k0 (by decide) mf_Person_22 dX2_stepBehind_17 ?_
    refine lv_iconst (v := 1) hx hb dX2_stepBehind_20 (by decide) ?_
    refine lv_iadd hx hb dX2_stepBehind_21 ?_
    exact x_iret C w h dX2_stepBehind_22
  · have h := h.2 c_1
    refine lv_aload_n hx hb dX2_stepBehind_7 rfl (lv_at hl 0 rfl) ?_
    refine x_getP C w (i := b0) (k := 3) k0 (by decide) mf_Person_22 dX2_stepBehind_8 ?_
    refine lv_iconst (v := 1) hx hb dX2_stepBehind_11 (by decide) ?_
    refine lv_isub hx hb dX2_stepBehind_12 ?_
    refine lv_goto (tgt := 22) hx hb dX2_stepBehind_13 (by decide) ?_
    exact x_iret C w h dX2_stepBehind_22
abbrev rm_X2_yieldsTo : Room := { frames := 0, cells := 0, slots := 0, locals := 0 }
noncomputable def wp_X2_yieldsTo (b0 : Nat) (a1 : Nat) (μ : Mem) (K : Int32 → Mem → Prop) : Prop :=
    (((μ b0 1) = (μ a1 1) → K 0 μ) ∧ (¬ (μ b0 1) = (μ a1 1) → (((μ b0 0) < (μ a1 0) → K 1 μ) ∧ (¬ (μ b0 0) < (μ a1 0) → ((¬ (μ a1 0) = (μ b0 0) → K 0 μ) ∧ ((μ a1 0) = (μ b0 0) → ((¬ (μ a1 1) = 0 → K 0 μ) ∧ ((μ a1 1) = 0 → K 1 μ))))))))
set_option maxHeartbeats 4000000 in
set_option maxRecDepth 100000 in
theorem c_X2_yieldsTo (l : Launch) (g : Gv) (ad : Nat → Nat) (μ : Mem) (sz : Nat) (b0 : Nat) (k0 : kd b0 = 13) (a1 : Nat) (k1 : kd a1 = 13) {K : Int32 → Mem → Prop} (h : wp_X2_yieldsTo b0 a1 μ K) : Met l yX2_yieldsTo (wX yX2_yieldsTo cX2_yieldsTo 2 (some .boolean)) rm_X2_yieldsTo (Pre g ad μ sz [.ref (ad b0), .ref (ad a1)]) (PostI g ad sz K) 0 0 (Aw ad sz) := by
  refine Met.ofW (cc := cX2_yieldsTo) (maxL := 2) (ret := (some .boolean)) (by decide) rfl ?_
  intro p e s m args below meth c s₁ B hml hv
  obtain ⟨rfl, rfl, C, w⟩ := x_start B hml hv
  obtain ⟨hx, hb, hml, -, hts, hown, -, -, hN⟩ := id C
  have hl := lv_entry ([.ref (ad b0), .ref (ad a1)]) (n := 2) (Nat.le_of_ble_eq_true rfl)
  rw [lg_entry_eq]
  generalize (lg_sl ([.ref (ad b0), .ref (ad a1)]) ++ List.replicate (2 - (lg_sl ([.ref (ad b0), .ref (ad a1)])).length) Slot.unset).toArray = ls at hl ⊢
  have hl : lv_has ls 2 [(0, .ref (ad b0)), (1, .ref (ad a1))] := hl
  show W p l e rm_X2_yieldsTo s m _ below meth c s.heap [] 0 0 _ _
  unfold wp_X2_yieldsTo at h
  refine lv_aload_n hx hb dX2_yieldsTo_0 rfl (lv_at hl 0 rfl) ?_
  refine x_getP C w (i := b0) (k := 1) k0 (by decide) mf_Person_15 dX2_yieldsTo_1 ?_
  refine lv_aload_n hx hb dX2_yieldsTo_4 rfl (lv_at hl 1 rfl) ?_
  refine x_getP C w (i := a1) (k := 1) k1 (by decide) mf_Person_15 dX2_yieldsTo_5 ?_
  refine lv_icmp_eq (tgt := 44) hx hb dX2_yieldsTo_8 (by decide) (fun c_1 => ?_) (fun c_1 => ?_)
  · have h := h.1 c_1
    refine lv_iconst (v := 0) hx hb dX2_yieldsTo_44 (by decide) ?_
    exact x_zret C w (show bz 0 from Or.inl rfl) h dX2_yieldsTo_45
  · have h := h.2 c_1
    refine lv_aload_n hx hb dX2_yieldsTo_11 rfl (lv_at hl 1 rfl) ?_
    refine x_getP C w (i := a1) (k := 0) k1 (by decide) mf_Person_9 dX2_yieldsTo_12 ?_
    refine lv_aload_n hx hb dX2_yieldsTo_15 rfl (lv_at hl 0 rfl) ?_
    refine x_getP C w (i := b0) (k := 0) k0 (by decide) mf_Person_9 dX2_yieldsTo_16 ?_
    refine lv_icmp_gt (tgt := 40) hx hb dX2_yieldsTo_19 (by decide) (fun c_2 => ?_) (fun c_2 => ?_)
    · have h := h.1 c_2
      refine lv_iconst (v := 1) hx hb dX2_yieldsTo_40 (by decide) ?_
      refine lv_goto (tgt := 45) hx hb dX2_yieldsTo_41 (by decide) ?_
      exact x_zret C w (show bz 1 from Or.inr rfl) h dX2_yieldsTo_45
    · have h := h.2 c_2
      refine lv_aload_n hx hb dX2_yieldsTo_22 rfl (lv_at hl 1 rfl) ?_
      refine x_getP C w (i := a1) (k := 0) k1 (by decide) mf_Person_9 dX2_yieldsTo_23 ?_
      refine lv_aload_n hx hb dX2_yieldsTo_26 rfl (lv_at hl 0 rfl) ?_
      refine x_getP C w (i := b0) (k := 0) k0 (by decide) mf_Person_9 dX2_yieldsTo_27 ?_
      refine lv_icmp_ne (tgt := 44) hx hb dX2_yieldsTo_30 (by decide) (fun c_3 => ?_) (fun c_3 => ?_)
      · have h := h.1 c_3
        refine lv_iconst (v := 0) hx hb dX2_yieldsTo_44 (by decide) ?_
        exact x_zret C w (show bz 0 from Or.inl rfl) h dX2_yieldsTo_45
      · have h := h.2 c_3
        refine lv_aload_n hx hb dX2_yieldsTo_33 rfl (lv_at hl 1 rfl) ?_
        refine x_getP C w (i := a1) (k := 1) k1 (by decide) mf_Person_15 dX2_yieldsTo_34 ?_
        refine lv_if_ne (tgt := 44) hx hb dX2_yieldsTo_37 (by decide) (fun c_4 => ?_) (fun c_4 => ?_)
        · have h := h.1 c_4
          refine lv_iconst (v := 0) hx hb dX2_yieldsTo_44 (by decide) ?_
          exact x_zret C w (show bz 0 from Or.inl rfl) h dX2_yieldsTo_45
        · have h := h.2 c_4
          refine lv_iconst (v := 1) hx hb dX2_yieldsTo_40 (by decide) ?_
          refine lv_goto (tgt := 45) hx hb dX2_yieldsTo_41 (by decide) ?_
          exact x_zret C w (show bz 1 from Or.inr rfl) h dX2_yieldsTo_45
abbrev rm_X2_stay : Room := { frames := 0, cells := 0, slots := 0, locals := 0 }
noncomputable def wp_X2_stay (b0 : Nat) (μ : Mem) (K : Mem → Prop) : Prop :=
    (∀ m_1, m_1 = up2 μ b0 9 3 → (∀ m_3, m_3 = up2 m_1 b0 4 ((m_1 b0 4) + 1) → (∀ m_5, m_5 = up2 m_3 b0 8 ((m_3 b0 8) + 1) → K m_5)))
set_option maxHeartbeats 4000000 in
set_option maxRecDepth 100000 in
theorem c_X2_stay (l : Launch) (g : Gv) (ad : Nat → Nat) (μ : Mem) (sz : Nat) (b0 : Nat) (k0 : kd b0 = 13) {K : Mem → Prop} (h : wp_X2_stay b0 μ K) : Met l yX2_stay (wX yX2_stay cX2_stay 1 none) rm_X2_stay (Pre g ad μ sz [.ref (ad b0)]) (PostV g ad sz K) 0 0 (Aw ad sz) := by
  refine Met.ofW (cc := cX2_stay) (maxL := 1) (ret := none) (by decide) rfl ?_
  intro p e s m args below meth c s₁ B hml hv
  obtain ⟨rfl, rfl, C, w⟩ := x_start B hml hv
  obtain ⟨hx, hb, hml, -, hts, hown, -, -, hN⟩ := id C
  have hl := lv_entry ([.ref (ad b0)]) (n := 1) (Nat.le_of_ble_eq_true rfl)
  rw [lg_entry_eq]
  generalize (lg_sl ([.ref (ad b0)]) ++ List.replicate (1 - (lg_sl ([.ref (ad b0)])).length) Slot.unset).toArray = ls at hl ⊢
  have hl : lv_has ls 1 [(0, .ref (ad b0))] := hl
  show W p l e rm_X2_stay s m _ below meth c s.heap [] 0 0 _ _
  unfold wp_X2_stay at h
  refine lv_aload_n hx hb dX2_stay_0 rfl (lv_at hl 0 rfl) ?_
  refine lv_iconst (v := 3) hx hb dX2_stay_1 (by decide) ?_
  refine x_putP C w (i := b0) (k := 9) k0 (by decide) mf_Person_40 rfl rfl rfl rfl dX2_stay_2 (fun m_1 e_2 H locs w => ?_)
  have h := h m_1 e_2
  refine lv_aload_n hx hb dX2_stay_5 rfl (lv_at hl 0 rfl) ?_
  refine lv_dup hx hb dX2_stay_6 rfl ?_
  refine x_getP C w (i := b0) (k := 4) k0 (by decide) mf_Person_25 dX2_stay_7 ?_
  refine lv_iconst (v := 1) hx hb dX2_stay_10 (by decide) ?_
  refine lv_iadd hx hb dX2_stay_11 ?_
  refine x_putP C w (i := b0) (k := 4) k0 (by decide) mf_Person_25 rfl rfl rfl rfl dX2_stay_12 (fun m_3 e_4 H locs w => ?_)
  have h := h m_3 e_4
  refine lv_aload_n hx hb dX2_stay_15 rfl (lv_at hl 0 rfl) ?_
  refine lv_dup hx hb dX2_stay_16 rfl ?_
  refine x_getP C w (i := b0) (k := 8) k0 (by decide) mf_Person_37 dX2_stay_17 ?_
  refine lv_iconst (v := 1) hx hb dX2_stay_20 (by decide) ?_
  refine lv_iadd hx hb dX2_stay_21 ?_
  refine x_putP C w (i := b0) (k := 8) k0 (by decide) mf_Person_37 rfl rfl rfl rfl dX2_stay_22 (fun m_5 e_6 H locs w => ?_)
  have h := h m_5 e_6
  exact x_vret C w h dX2_stay_25
abbrev rm_X2_bow : Room := { frames := 0, cells := 0, slots := 0, locals := 0 }
noncomputable def wp_X2_bow (b0 : Nat) (a1 : Int32) (μ : Mem) (K : Mem → Prop) : Prop :=
    (∀ m_1, m_1 = up2 μ b0 5 ((μ b0 5) + 1) → (∀ m_3, m_3 = up2 m_1 b0 6 ((m_1 b0 6) + a1) → K m_3))
set_option maxHeartbeats 4000000 in
set_option maxRecDepth 100000 in
theorem c_X2_bow (l : Launch) (g : Gv) (ad : Nat → Nat) (μ : Mem) (sz : Nat) (b0 : Nat) (k0 : kd b0 = 13) (a1 : Int32) {K : Mem → Prop} (h : wp_X2_bow b0 a1 μ K) : Met l yX2_bow (wX yX2_bow cX2_bow 2 none) rm_X2_bow (Pre g ad μ sz [.ref (ad b0), .int a1]) (PostV g ad sz K) 0 0 (Aw ad sz) := by
  refine Met.ofW (cc := cX2_bow) (maxL := 2) (ret := none) (by decide) rfl ?_
  intro p e s m args below meth c s₁ B hml hv
  obtain ⟨rfl, rfl, C, w⟩ := x_start B hml hv
  obtain ⟨hx, hb, hml, -, hts, hown, -, -, hN⟩ := id C
  have hl := lv_entry ([.ref (ad b0), .int a1]) (n := 2) (Nat.le_of_ble_eq_true rfl)
  rw [lg_entry_eq]
  generalize (lg_sl ([.ref (ad b0), .int a1]) ++ List.replicate (2 - (lg_sl ([.ref (ad b0), .int a1])).length) Slot.unset).toArray = ls at hl ⊢
  have hl : lv_has ls 2 [(0, .ref (ad b0)), (1, .int a1)] := hl
  show W p l e rm_X2_bow s m _ below meth c s.heap [] 0 0 _ _
  unfold wp_X2_bow at h
  refine lv_aload_n hx hb dX2_bow_0 rfl (lv_at hl 0 rfl) ?_
  refine lv_dup hx hb dX2_bow_1 rfl ?_
  refine x_getP C w (i := b0) (k := 5) k0 (by decide) mf_Person_28 dX2_bow_2 ?_
  refine lv_iconst (v := 1) hx hb dX2_bow_5 (by decide) ?_
  refine lv_iadd hx hb dX2_bow_6 ?_
  refine x_putP C w (i := b0) (k := 5) k0 (by decide) mf_Person_28 rfl rfl rfl rfl dX2_bow_7 (fun m_1 e_2 H locs w => ?_)
  have h := h m_1 e_2
  refine lv_aload_n hx hb dX2_bow_10 rfl (lv_at hl 0 rfl) ?_
  refine lv_dup hx hb dX2_bow_11 rfl ?_
  refine x_getP C w (i := b0) (k := 6) k0 (by decide) mf_Person_31 dX2_bow_12 ?_
  refine lv_iload_n hx hb dX2_bow_15 rfl (lv_at hl 1 rfl) ?_
  refine lv_iadd hx hb dX2_bow_16 ?_
  refine x_putP C w (i := b0) (k := 6) k0 (by decide) mf_Person_31 rfl rfl rfl rfl dX2_bow_17 (fun m_3 e_4 H locs w => ?_)
  have h := h m_3 e_4
  exact x_vret C w h dX2_bow_20
abbrev rm_X2_tell : Room := { frames := 1, cells := 0, slots := 0, locals := 20 }
noncomputable def wp_X2_tell (b0 : Nat) (a1 : Int32) (μ : Mem) (K : Int32 → Mem → Prop) : Prop :=
    (((a1.toInt < 0 ∨ 8 < a1.toInt) → K (-2) μ) ∧ (a1.toInt = 0 → K (μ b0 0) μ) ∧ (a1.toInt = 1 → (((μ b0 1) = 0 → K 0 μ) ∧ (¬ (μ b0 1) = 0 → K 1 μ))) ∧ (a1.toInt = 2 → K (μ b0 2) μ) ∧ (a1.toInt = 3 → ((¬ (μ b0 2) = 1 → K (-6) μ) ∧ ((μ b0 2) = 1 → K (μ b0 3) μ))) ∧ (a1.toInt = 4 → K (μ b0 4) μ) ∧ (a1.toInt = 5 → K (μ b0 5) μ) ∧ (a1.toInt = 6 → K (μ b0 6) μ) ∧ (a1.toInt = 7 → (wp_X2_isOnWay b0 μ (fun r_12 m_11 => ((r_12 = 0 → K (m_11 b0 7) m_11) ∧ (¬ r_12 = 0 → K (-6) m_11))))) ∧ (a1.toInt = 8 → K (μ b0 8) μ))
set_option maxHeartbeats 4000000 in
set_option maxRecDepth 100000 in
theorem c_X2_tell (l : Launch) (g : Gv) (ad : Nat → Nat) (μ : Mem) (sz : Nat) (b0 : Nat) (k0 : kd b0 = 13) (a1 : Int32) {K : Int32 → Mem → Prop} (h : wp_X2_tell b0 a1 μ K) : Met l yX2_tell (wX yX2_tell cX2_tell 2 (some .int)) rm_X2_tell (Pre g ad μ sz [.ref (ad b0), .int a1]) (PostI g ad sz K) 0 0 (Aw ad sz) := by
  refine Met.ofW (cc := cX2_tell) (maxL := 2) (ret := (some .int)) (by decide) rfl ?_
  intro p e s m args below meth c s₁ B hml hv
  obtain ⟨rfl, rfl, C, w⟩ := x_start B hml hv
  obtain ⟨hx, hb, hml, -, hts, hown, -, -, hN⟩ := id C
  have hl := lv_entry ([.ref (ad b0), .int a1]) (n := 2) (Nat.le_of_ble_eq_true rfl)
  rw [lg_entry_eq]
  generalize (lg_sl ([.ref (ad b0), .int a1]) ++ List.replicate (2 - (lg_sl ([.ref (ad b0), .int a1])).length) Slot.unset).toArray = ls at hl ⊢
  have hl : lv_has ls 2 [(0, .ref (ad b0)), (1, .int a1)] := hl
  show W p l e rm_X2_tell s m _ below meth c s.heap [] 0 0 _ _
  unfold wp_X2_tell at h
  refine lv_iload_n hx hb dX2_tell_0 rfl (lv_at hl 1 rfl) ?_
  by_cases c_1 : a1.toInt < 0 ∨ 8 < a1.toInt
  · have h := h.1 c_1
    refine lv_tableOut (tgt := 130) hx hb dX2_tell_1 c_1 (by decide) ?_
    refine lv_bipush (v := -2) hx hb dX2_tell_130 (by decide) ?_
    exact x_iret C w h dX2_tell_132
  · by_cases c_2 : a1.toInt = 0
    · have h := h.2.1 c_2
      refine lv_tableIn (off := 51) (tgt := 52) hx hb dX2_tell_1 (by omega) (by omega) (by rw [c_2]; rfl) (by decide) ?_
      refine lv_aload_n hx hb dX2_tell_52 rfl (lv_at hl 0 rfl) ?_
      refine x_getP C w (i := b0) (k := 0) k0 (by decide) mf_Person_9 dX2_tell_53 ?_
      exact x_iret C w h dX2_tell_56
    · by_cases c_4 : a1.toInt = 1
      · have h := h.2.2.1 c_4
        refine lv_tableIn (off := 56) (tgt := 57) hx hb dX2_tell_1 (by omega) (by omega) (by rw [c_4]; rfl) (by decide) ?_
        refine lv_aload_n hx hb dX2_tell_57 rfl (lv_at hl 0 rfl) ?_
        refine x_getP C w (i := b0) (k := 1) k0 (by decide) mf_Person_15 dX2_tell_58 ?_
        refine lv_if_eq (tgt := 68) hx hb dX2_tell_61 (by decide) (fun c_3 => ?_) (fun c_3 => ?_)
        · have h := h.1 c_3
          refine lv_iconst (v := 0) hx hb dX2_tell_68 (by decide) ?_
          exact x_iret C w h dX2_tell_69
        · have h := h.2 c_3
          refine lv_iconst (v := 1) hx hb dX2_tell_64 (by decide) ?_
          refine lv_goto (tgt := 69) hx hb dX2_tell_65 (by decide) ?_
          exact x_iret C w h dX2_tell_69
      · by_cases c_5 : a1.toInt = 2
        · have h := h.2.2.2.1 c_5
          refine lv_tableIn (off := 69) (tgt := 70) hx hb dX2_tell_1 (by omega) (by omega) (by rw [c_5]; rfl) (by decide) ?_
          refine lv_aload_n hx hb dX2_tell_70 rfl (lv_at hl 0 rfl) ?_
          refine x_getP C w (i := b0) (k := 2) k0 (by decide) mf_Person_19 dX2_tell_71 ?_
          exact x_iret C w h dX2_tell_74
        · by_cases c_7 : a1.toInt = 3
          · have h := h.2.2.2.2.1 c_7
            refine lv_tableIn (off := 74) (tgt := 75) hx hb dX2_tell_1 (by omega) (by omega) (by rw [c_7]; rfl) (by decide) ?_
            refine lv_aload_n hx hb dX2_tell_75 rfl (lv_at hl 0 rfl) ?_
            refine x_getP C w (i := b0) (k := 2) k0 (by decide) mf_Person_19 dX2_tell_76 ?_
            refine lv_iconst (v := 1) hx hb dX2_tell_79 (by decide) ?_
            refine lv_icmp_ne (tgt := 90) hx hb dX2_tell_80 (by decide) (fun c_6 => ?_) (fun c_6 => ?_)
            · have h := h.1 c_6
              refine lv_bipush (v := -6) hx hb dX2_tell_90 (by decide) ?_
              exact x_iret C w h dX2_tell_92
            · have h := h.2 c_6
              refine lv_aload_n hx hb dX2_tell_83 rfl (lv_at hl 0 rfl) ?_
              refine x_getP C w (i := b0) (k := 3) k0 (by decide) mf_Person_22 dX2_tell_84 ?_
              refine lv_goto (tgt := 92) hx hb dX2_tell_87 (by decide) ?_
              exact x_iret C w h dX2_tell_92
          · by_cases c_8 : a1.toInt = 4
            · have h := h.2.2.2.2.2.1 c_8
              refine lv_tableIn (off := 92) (tgt := 93) hx hb dX2_tell_1 (by omega) (by omega) (by rw [c_8]; rfl) (by decide) ?_
              refine lv_aload_n hx hb dX2_tell_93 rfl (lv_at hl 0 rfl) ?_
              refine x_getP C w (i := b0) (k := 4) k0 (by decide) mf_Person_25 dX2_tell_94 ?_
              exact x_iret C w h dX2_tell_97
            · by_cases c_9 : a1.toInt = 5
              · have h := h.2.2.2.2.2.2.1 c_9
                refine lv_tableIn (off := 97) (tgt := 98) hx hb dX2_tell_1 (by omega) (by omega) (by rw [c_9]; rfl) (by decide) ?_
                refine lv_aload_n hx hb dX2_tell_98 rfl (lv_at hl 0 rfl) ?_
                refine x_getP C w (i := b0) (k := 5) k0 (by decide) mf_Person_28 dX2_tell_99 ?_
                exact x_iret C w h dX2_tell_102
              · by_cases c_10 : a1.toInt = 6
                · have h := h.2.2.2.2.2.2.2.1 c_10
                  refine lv_tableIn (off := 102) (tgt := 103) hx hb dX2_tell_1 (by omega) (by omega) (by rw [c_10]; rfl) (by decide) ?_
                  refine lv_aload_n hx hb dX2_tell_103 rfl (lv_at hl 0 rfl) ?_
                  refine x_getP C w (i := b0) (k := 6) k0 (by decide) mf_Person_31 dX2_tell_104 ?_
                  exact x_iret C w h dX2_tell_107
                · by_cases c_14 : a1.toInt = 7
                  · have h := h.2.2.2.2.2.2.2.2.1 c_14
                    refine lv_tableIn (off := 107) (tgt := 108) hx hb dX2_tell_1 (by omega) (by omega) (by rw [c_14]; rfl) (by decide) ?_
                    refine lv_aload_n hx hb dX2_tell_108 rfl (lv_at hl 0 rfl) ?_
                    refine x_calli C w (x_runV (i := b0) (As := []) (rest := []) C w k0 (by decide) (ci := 2) rfl rfl rfl me_X2_isOnWay ml_Person_43 (c_X2_isOnWay l g ad μ _ b0 k0 h) ⟨rfl, rfl⟩ ⟨Nat.le_of_ble_eq_true rfl, Nat.le_of_ble_eq_true rfl⟩ rfl hl.1 rfl (Nat.le_of_ble_eq_true rfl) dX2_tell_109 ⟨Nat.le_of_ble_eq_true rfl, Nat.le_of_ble_eq_true rfl⟩) (fun r_12 m_11 h H locs w => ?_)
                    refine lv_if_eq (tgt := 120) hx hb dX2_tell_112 (by decide) (fun c_13 => ?_) (fun c_13 => ?_)
                    · have h := h.1 c_13
                      refine lv_aload_n hx hb dX2_tell_120 rfl (lv_at hl 0 rfl) ?_
                      refine x_getP C w (i := b0) (k := 7) k0 (by decide) mf_Person_34 dX2_tell_121 ?_
                      exact x_iret C w h dX2_tell_124
                    · have h := h.2 c_13
                      refine lv_bipush (v := -6) hx hb dX2_tell_115 (by decide) ?_
                      refine lv_goto (tgt := 124) hx hb dX2_tell_117 (by decide) ?_
                      exact x_iret C w h dX2_tell_124
                  · have c_15 : a1.toInt = 8 := by omega
                    have h := h.2.2.2.2.2.2.2.2.2 c_15
                    refine lv_tableIn (off := 124) (tgt := 125) hx hb dX2_tell_1 (by omega) (by omega) (by rw [c_15]; rfl) (by decide) ?_
                    refine lv_aload_n hx hb dX2_tell_125 rfl (lv_at hl 0 rfl) ?_
                    refine x_getP C w (i := b0) (k := 8) k0 (by decide) mf_Person_37 dX2_tell_126 ?_
                    exact x_iret C w h dX2_tell_129
abbrev rm_J6_bitCount_0f7a4 : Room := { frames := 0, cells := 0, slots := 0, locals := 0 }
noncomputable def wp_J6_bitCount_0f7a4 (a0 : Int32) (μ : Mem) (K : Int32 → Mem → Prop) : Prop :=
    K ((((((((a0 - ((isr a0 1) &&& 1431655765)) &&& 858993459) + ((isr (a0 - ((isr a0 1) &&& 1431655765)) 2) &&& 858993459)) + (isr (((a0 - ((isr a0 1) &&& 1431655765)) &&& 858993459) + ((isr (a0 - ((isr a0 1) &&& 1431655765)) 2) &&& 858993459)) 4)) &&& 252645135) + (isr (((((a0 - ((isr a0 1) &&& 1431655765)) &&& 858993459) + ((isr (a0 - ((isr a0 1) &&& 1431655765)) 2) &&& 858993459)) + (isr (((a0 - ((isr a0 1) &&& 1431655765)) &&& 858993459) + ((isr (a0 - ((isr a0 1) &&& 1431655765)) 2) &&& 858993459)) 4)) &&& 252645135) 8)) + (isr ((((((a0 - ((isr a0 1) &&& 1431655765)) &&& 858993459) + ((isr (a0 - ((isr a0 1) &&& 1431655765)) 2) &&& 858993459)) + (isr (((a0 - ((isr a0 1) &&& 1431655765)) &&& 858993459) + ((isr (a0 - ((isr a0 1) &&& 1431655765)) 2) &&& 858993459)) 4)) &&& 252645135) + (isr (((((a0 - ((isr a0 1) &&& 1431655765)) &&& 858993459) + ((isr (a0 - ((isr a0 1) &&& 1431655765)) 2) &&& 858993459)) + (isr (((a0 - ((isr a0 1) &&& 1431655765)) &&& 858993459) + ((isr (a0 - ((isr a0 1) &&& 1431655765)) 2) &&& 858993459)) 4)) &&& 252645135) 8)) 16)) &&& 63) μ
set_option maxHeartbeats 4000000 in
set_option maxRecDepth 100000 in
theorem c_J6_bitCount_0f7a4 (l : Launch) (g : Gv) (ad : Nat → Nat) (μ : Mem) (sz : Nat) (a0 : Int32) {K : Int32 → Mem → Prop} (h : wp_J6_bitCount_0f7a4 a0 μ K) : Met l yJ6_bitCount_0f7a4 (wX yJ6_bitCount_0f7a4 cJ6_bitCount_0f7a4 1 (some .int)) rm_J6_bitCount_0f7a4 (Pre g ad μ sz [.int a0]) (PostI g ad sz K) 0 0 (Aw ad sz) := by
  refine va_MetF (cc := cJ6_bitCount_0f7a4) (maxL := 1) (ret := (some .int)) (by decide +kernel) rfl ?_
  intro p e s m args below meth c s₁ B hml hv
  obtain ⟨rfl, rfl, C, w⟩ := x_start B hml hv
  obtain ⟨hx, hb, hml, -, hts, hown, -, -, hN⟩ := id C
  have hl := lv_entry ([.int a0]) (n := 1) (Nat.le_of_ble_eq_true rfl)
  rw [lg_entry_eq]
  generalize (lg_sl ([.int a0]) ++ List.replicate (1 - (lg_sl ([.int a0])).length) Slot.unset).toArray = ls at hl ⊢
  have hl : lv_has ls 1 [(0, .int a0)] := hl
  show W p l e rm_J6_bitCount_0f7a4 s m _ below meth c s.heap [] 0 0 _ _
  unfold wp_J6_bitCount_0f7a4 at h
  refine lv_iload_n hx hb dJ6_bitCount_0f7a4_0 rfl (lv_at hl 0 rfl) ?_
  refine lv_iload_n hx hb dJ6_bitCount_0f7a4_1 rfl (lv_at hl 0 rfl) ?_
  refine lv_iconst (v := 1) hx hb dJ6_bitCount_0f7a4_2 (by decide) ?_
  refine lv_iushr (v := (isr a0 1)) hx hb dJ6_bitCount_0f7a4_3 rfl ?_
  refine lv_ldcw (v := 1431655765) hx hb hown (hts _ mk_Integer_265) dJ6_bitCount_0f7a4_4 ?_
  refine lv_iand hx hb dJ6_bitCount_0f7a4_7 ?_
  refine lv_isub hx hb dJ6_bitCount_0f7a4_8 ?_
  refine lv_istore_n (lv' := [(0, .int (a0 - ((isr a0 1) &&& 1431655765)))]) hx hb dJ6_bitCount_0f7a4_9 rfl hl (by decide) rfl (fun ls hl => ?_)
  refine lv_iload_n hx hb dJ6_bitCount_0f7a4_10 rfl (lv_at hl 0 rfl) ?_
  refine lv_ldcw (v := 858993459) hx hb hown (hts _ mk_Integer_266) dJ6_bitCount_0f7a4_11 ?_
  refine lv_iand hx hb dJ6_bitCount_0f7a4_14 ?_
  refine lv_iload_n hx hb dJ6_bitCount_0f7a4_15 rfl (lv_at hl 0 rfl) ?_
  refine lv_iconst (v := 2) hx hb dJ6_bitCount_0f7a4_16 (by decide) ?_
  refine lv_iushr (v := (isr (a0 - ((isr a0 1) &&& 1431655765)) 2)) hx hb dJ6_bitCount_0f7a4_17 rfl ?_
  refine lv_ldcw (v := 858993459) hx hb hown (hts _ mk_Integer_266) dJ6_bitCount_0f7a4_18 ?_
  refine lv_iand hx hb dJ6_bitCount_0f7a4_21 ?_
  refine lv_iadd hx hb dJ6_bitCount_0f7a4_22 ?_
  refine lv_istore_n (lv' := [(0, .int (((a0 - ((isr a0 1) &&& 1431655765)) &&& 858993459) + ((isr (a0 - ((isr a0 1) &&& 1431655765)) 2) &&& 858993459)))]) hx hb dJ6_bitCount_0f7a4_23 rfl hl (by decide) rfl (fun ls hl => ?_)
  refine lv_iload_n hx hb dJ6_bitCount_0f7a4_24 rfl (lv_at hl 0 rfl) ?_
  refine lv_iload_n hx hb dJ6_bitCount_0f7a4_25 rfl (lv_at hl 0 rfl) ?_
  refine lv_iconst (v := 4) hx hb dJ6_bitCount_0f7a4_26 (by decide) ?_
  refine lv_iushr (v := (isr (((a0 - ((isr a0 1) &&& 1431655765)) &&& 858993459) + ((isr (a0 - ((isr a0 1) &&& 1431655765)) 2) &&& 858993459)) 4)) hx hb dJ6_bitCount_0f7a4_27 rfl ?_
  refine lv_iadd hx hb dJ6_bitCount_0f7a4_28 ?_
  refine lv_ldcw (v := 252645135) hx hb hown (hts _ mk_Integer_267) dJ6_bitCount_0f7a4_29 ?_
  refine lv_iand hx hb dJ6_bitCount_0f7a4_32 ?_
  refine lv_istore_n (lv' := [(0, .int (((((a0 - ((isr a0 1) &&& 1431655765)) &&& 858993459) + ((isr (a0 - ((isr a0 1) &&& 1431655765)) 2) &&& 858993459)) + (isr (((a0 - ((isr a0 1) &&& 1431655765)) &&& 858993459) + ((isr (a0 - ((isr a0 1) &&& 1431655765)) 2) &&& 858993459)) 4)) &&& 252645135))]) hx hb dJ6_bitCount_0f7a4_33 rfl hl (by decide) rfl (fun ls hl => ?_)
  refine lv_iload_n hx hb dJ6_bitCount_0f7a4_34 rfl (lv_at hl 0 rfl) ?_
  refine lv_iload_n hx hb dJ6_bitCount_0f7a4_35 rfl (lv_at hl 0 rfl) ?_
  refine lv_bipush (v := 8) hx hb dJ6_bitCount_0f7a4_36 (by decide) ?_
  refine lv_iushr (v := (isr (((((a0 - ((isr a0 1) &&& 1431655765)) &&& 858993459) + ((isr (a0 - ((isr a0 1) &&& 1431655765)) 2) &&& 858993459)) + (isr (((a0 - ((isr a0 1) &&& 1431655765)) &&& 858993459) + ((isr (a0 - ((isr a0 1) &&& 1431655765)) 2) &&& 858993459)) 4)) &&& 252645135) 8)) hx hb dJ6_bitCount_0f7a4_38 rfl ?_
  refine lv_iadd hx hb dJ6_bitCount_0f7a4_39 ?_
  refine lv_istore_n (lv' := [(0, .int ((((((a0 - ((isr a0 1) &&& 1431655765)) &&& 858993459) + ((isr (a0 - ((isr a0 1) &&& 1431655765)) 2) &&& 858993459)) + (isr (((a0 - ((isr a0 1) &&& 1431655765)) &&& 858993459) + ((isr (a0 - ((isr a0 1) &&& 1431655765)) 2) &&& 858993459)) 4)) &&& 252645135) + (isr (((((a0 - ((isr a0 1) &&& 1431655765)) &&& 858993459) + ((isr (a0 - ((isr a0 1) &&& 1431655765)) 2) &&& 858993459)) + (isr (((a0 - ((isr a0 1) &&& 1431655765)) &&& 858993459) + ((isr (a0 - ((isr a0 1) &&& 1431655765)) 2) &&& 858993459)) 4)) &&& 252645135) 8)))]) hx hb dJ6_bitCount_0f7a4_40 rfl hl (by decide) rfl (fun ls hl => ?_)
  refine lv_iload_n hx hb dJ6_bitCount_0f7a4_41 rfl (lv_at hl 0 rfl) ?_
  refine lv_iload_n hx hb dJ6_bitCount_0f7a4_42 rfl (lv_at hl 0 rfl) ?_
  refine lv_bipush (v := 16) hx hb dJ6_bitCount_0f7a4_43 (by decide) ?_
  refine lv_iushr (v := (isr ((((((a0 - ((isr a0 1) &&& 1431655765)) &&& 858993459) + ((isr (a0 - ((isr a0 1) &&& 1431655765)) 2) &&& 858993459)) + (isr (((a0 - ((isr a0 1) &&& 1431655765)) &&& 858993459) + ((isr (a0 - ((isr a0 1) &&& 1431655765)) 2) &&& 858993459)) 4)) &&& 252645135) + (isr (((((a0 - ((isr a0 1) &&& 1431655765)) &&& 858993459) + ((isr (a0 - ((isr a0 1) &&& 1431655765)) 2) &&& 858993459)) + (isr (((a0 - ((isr a0 1) &&& 1431655765)) &&& 858993459) + ((isr (a0 - ((isr a0 1) &&& 1431655765)) 2) &&& 858993459)) 4)) &&& 252645135) 8)) 16)) hx hb dJ6_bitCount_0f7a4_45 rfl ?_
  refine lv_iadd hx hb dJ6_bitCount_0f7a4_46 ?_
  refine lv_istore_n (lv' := [(0, .int (((((((a0 - ((isr a0 1) &&& 1431655765)) &&& 858993459) + ((isr (a0 - ((isr a0 1) &&& 1431655765)) 2) &&& 858993459)) + (isr (((a0 - ((isr a0 1) &&& 1431655765)) &&& 858993459) + ((isr (a0 - ((isr a0 1) &&& 1431655765)) 2) &&& 858993459)) 4)) &&& 252645135) + (isr (((((a0 - ((isr a0 1) &&& 1431655765)) &&& 858993459) + ((isr (a0 - ((isr a0 1) &&& 1431655765)) 2) &&& 858993459)) + (isr (((a0 - ((isr a0 1) &&& 1431655765)) &&& 858993459) + ((isr (a0 - ((isr a0 1) &&& 1431655765)) 2) &&& 858993459)) 4)) &&& 252645135) 8)) + (isr ((((((a0 - ((isr a0 1) &&& 1431655765)) &&& 858993459) + ((isr (a0 - ((isr a0 1) &&& 1431655765)) 2) &&& 858993459)) + (isr (((a0 - ((isr a0 1) &&& 1431655765)) &&& 858993459) + ((isr (a0 - ((isr a0 1) &&& 1431655765)) 2) &&& 858993459)) 4)) &&& 252645135) + (isr (((((a0 - ((isr a0 1) &&& 1431655765)) &&& 858993459) + ((isr (a0 - ((isr a0 1) &&& 1431655765)) 2) &&& 858993459)) + (isr (((a0 - ((isr a0 1) &&& 1431655765)) &&& 858993459) + ((isr (a0 - ((isr a0 1) &&& 1431655765)) 2) &&& 858993459)) 4)) &&& 252645135) 8)) 16)))]) hx hb dJ6_bitCount_0f7a4_47 rfl hl (by decide) rfl (fun ls hl => ?_)
  refine lv_iload_n hx hb dJ6_bitCount_0f7a4_48 rfl (lv_at hl 0 rfl) ?_
  refine lv_bipush (v := 63) hx hb dJ6_bitCount_0f7a4_49 (by decide) ?_
  refine lv_iand hx hb dJ6_bitCount_0f7a4_51 ?_
  exact x_iret C w h dJ6_bitCount_0f7a4_52

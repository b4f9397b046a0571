/-! METHODS of the reference, by program -/
abbrev rm_X5_landings : Room := { frames := 1, cells := 0, slots := 0, locals := 21 }
noncomputable def wp_X5_landings_L4 (K : Int32 → Mem → Prop) (n : Nat) : Int32 → Int32 → Mem → Prop :=
  Nat.rec (motive := fun _ => Int32 → Int32 → Mem → Prop) (fun _ _ _ => False) (fun _ ih v1 v2 μ =>
    ((12 ≤ v2 → K v1 μ) ∧ (¬ 12 ≤ v2 → (wp_X5_isLanding v2 μ (fun r_3 m_2 => ((r_3 = 0 → ih (v1 + 0) (v2 + 1) m_2) ∧ (¬ r_3 = 0 → ih (v1 + 1) (v2 + 1) m_2))))))) n
theorem wp_X5_landings_L4_s (K : Int32 → Mem → Prop) (n : Nat) (v1 : Int32) (v2 : Int32) (μ : Mem) : wp_X5_landings_L4 K (n + 1) v1 v2 μ = (
    let ih := wp_X5_landings_L4 K n
    ((12 ≤ v2 → K v1 μ) ∧ (¬ 12 ≤ v2 → (wp_X5_isLanding v2 μ (fun r_3 m_2 => ((r_3 = 0 → ih (v1 + 0) (v2 + 1) m_2) ∧ (¬ r_3 = 0 → ih (v1 + 1) (v2 + 1) m_2))))))) := rfl
noncomputable def wp_X5_landings  (μ : Mem) (K : Int32 → Mem → Prop) : Prop :=
    (∃ n, wp_X5_landings_L4 K n 0 0 μ)
set_option maxHeartbeats 4000000 in
set_option maxRecDepth 100000 in
theorem t_X5_landings_L4 {g : Gv} {ad : Nat → Nat} {l : Launch} {p : Program} {e : Env} {s : State} {m : MethodId} {args : Array Value} {below : List Frame} {meth : Method} {c : Code} (C : Cx g p s m args meth c "StairBowsModel" cX5_landings 3 (some .int))   {K : Int32 → Mem → Prop}    : ∀ (n : Nat) (v1 : Int32) (v2 : Int32) (μ : Mem) (H : Heap) (locs : List Loc) (ls : Array Slot), wp_X5_landings_L4 K n v1 v2 μ → Wd g ad μ (Aw ad s.heap.size) s H locs → lv_has ls 3 [(0, .ref (ad 287)), (1, .int v1), (2, .int v2)] → W p l e rm_X5_landings s m args below meth c H locs 0 0 (MQ below (PostI g ad s.heap.size K) args s 0 0 (Aw ad s.heap.size)) (F0 m 4 ls []) := by
  obtain ⟨hx, hb, hml, -, hts, hown, -, -, hN⟩ := id C
  intro n
  induction n with
  | zero =>
    intro v1 v2 μ H locs ls h w hl
    exact (show False from h).elim
  | succ n ih =>
    intro v1 v2 μ H locs ls h w hl
    rw [wp_X5_landings_L4_s] at h
    dsimp only at h
    refine lv_iload_n hx hb dX5_landings_4 rfl (lv_at hl 2 rfl) ?_
    refine lv_bipush (v := 12) hx hb dX5_landings_5 (by decide) ?_
    refine lv_icmp_ge (tgt := 32) hx hb dX5_landings_7 (by decide) (fun c_1 => ?_) (fun c_1 => ?_)
    · have h := h.1 c_1
      refine lv_iload_n hx hb dX5_landings_32 rfl (lv_at hl 1 rfl) ?_
      exact x_iret C w h dX5_landings_33
    · have h := h.2 c_1
      refine lv_iload_n hx hb dX5_landings_10 rfl (lv_at hl 1 rfl) ?_
      refine lv_aload_n hx hb dX5_landings_11 rfl (lv_at hl 0 rfl) ?_
      refine lv_iload_n hx hb dX5_landings_12 rfl (lv_at hl 2 rfl) ?_
      refine x_calli C w (x_runV (i := 287) (As := [.int v2]) (rest := [.int v1]) C w (rfl : kd 287 = 7) (by decide) (ci := 5) rfl rfl rfl me_X5_isLanding ml_StairBowsModel_49 (c_X5_isLanding l g ad μ _ v2 h) ⟨rfl, rfl⟩ ⟨Nat.le_of_ble_eq_true rfl, Nat.le_of_ble_eq_true rfl⟩ rfl hl.1 rfl (Nat.le_of_ble_eq_true rfl) dX5_landings_13 ⟨Nat.le_of_ble_eq_true rfl, Nat.le_of_ble_eq_true rfl⟩) (fun r_3 m_2 h H locs w => ?_)
      refine lv_if_eq (tgt := 23) hx hb dX5_landings_16 (by decide) (fun c_4 => ?_) (fun c_4 => ?_)
      · have h := h.1 c_4
        refine lv_iconst (v := 0) hx hb dX5_landings_23 (by decide) ?_
        refine lv_iadd hx hb dX5_landings_24 ?_
        refine lv_istore_n (lv' := [(1, .int (v1 + 0)), (0, .ref (ad 287)), (2, .int v2)]) hx hb dX5_landings_25 rfl hl (by decide) rfl (fun ls hl => ?_)
        refine lv_iinc (v := (v2 + 1)) (lv' := [(2, .int (v2 + 1)), (1, .int (v1 + 0)), (0, .ref (ad 287))]) hx hb dX5_landings_26 hl (k := 2) rfl rfl (by decide) rfl (fun ls hl => ?_)
        refine lv_goto (tgt := 4) hx hb dX5_landings_29 (by decide) ?_
        exact ih (v1 + 0) (v2 + 1) m_2 _ _ _ h w (lv_sub hl [2, 1, 0] rfl)
      · have h := h.2 c_4
        refine lv_iconst (v := 1) hx hb dX5_landings_19 (by decide) ?_
        refine lv_goto (tgt := 24) hx hb dX5_landings_20 (by decide) ?_
        refine lv_iadd hx hb dX5_landings_24 ?_
        refine lv_istore_n (lv' := [(1, .int (v1 + 1)), (0, .ref (ad 287)), (2, .int v2)]) hx hb dX5_landings_25 rfl hl (by decide) rfl (fun ls hl => ?_)
        refine lv_iinc (v := (v2 + 1)) (lv' := [(2, .int (v2 + 1)), (1, .int (v1 + 1)), (0, .ref (ad 287))]) hx hb dX5_landings_26 hl (k := 2) rfl rfl (by decide) rfl (fun ls hl => ?_)
        refine lv_goto (tgt := 4) hx hb dX5_landings_29 (by decide) ?_
        exact ih (v1 + 1) (v2 + 1) m_2 _ _ _ h w (lv_sub hl [2, 1, 0] rfl)
set_option maxHeartbeats 4000000 in
set_option maxRecDepth 100000 in
theorem c_X5_landings (l : Launch) (g : Gv) (ad : Nat → Nat) (μ : Mem) (sz : Nat)  {K : Int32 → Mem → Prop} (h : wp_X5_landings μ K) : Met l yX5_landings (wX yX5_landings cX5_landings 3 (some .int)) rm_X5_landings (Pre g ad μ sz [.ref (ad 287)]) (PostI g ad sz K) 0 0 (Aw ad sz) := by
  refine Met.ofW (cc := cX5_landings) (maxL := 3) (ret := (some .int)) (by decide) rfl ?_
  intro p e s m args below meth c s₁ B hml hv
  obtain ⟨rfl, rfl, C, w⟩ := x_start B hml hv
  obtain ⟨hx, hb, hml, -, hts, hown, -, -, hN⟩ := id C
  have hl := lv_entry ([.ref (ad 287)]) (n := 3) (Nat.le_of_ble_eq_true rfl)
  rw [lg_entry_eq]
  generalize (lg_sl ([.ref (ad 287)]) ++ List.replicate (3 - (lg_sl ([.ref (ad 287)])).length) Slot.unset).toArray = ls at hl ⊢
  have hl : lv_has ls 3 [(0, .ref (ad 287))] := hl
  show W p l e rm_X5_landings s m _ below meth c s.heap [] 0 0 _ _
  unfold wp_X5_landings at h
  refine lv_iconst (v := 0) hx hb dX5_landings_0 (by decide) ?_
  refine lv_istore_n (lv' := [(1, .int 0), (0, .ref (ad 287))]) hx hb dX5_landings_1 rfl hl (by decide) rfl (fun ls hl => ?_)
  refine lv_iconst (v := 0) hx hb dX5_landings_2 (by decide) ?_
  refine lv_istore_n (lv' := [(2, .int 0), (1, .int 0), (0, .ref (ad 287))]) hx hb dX5_landings_3 rfl hl (by decide) rfl (fun ls hl => ?_)
  obtain ⟨n_5, h⟩ := h
  exact t_X5_landings_L4 C n_5 0 0 μ _ _ _ h w (lv_sub hl [2, 1, 0] rfl)
abbrev rm_X5_landing : Room := { frames := 3, cells := 0, slots := 0, locals := 67 }
noncomputable def wp_X5_landing (a1 : Int32) (a2 : Int32) (μ : Mem) (K : Int32 → Mem → Prop) : Prop :=
    (wp_X5_isStep a1 μ (fun r_2 m_1 => ((¬ r_2 = 0 → (wp_X5_isLanding a1 m_1 (fun r_5 m_4 => ((r_5 = a2 → K (-5) m_4) ∧ (¬ r_5 = a2 → (wp_X5_peopleAt a1 m_4 (fun r_8 m_7 => ((r_8 ≤ 1 → (wp_X5_changes m_7 (fun m_10 => (∀ m_11, m_11 = up2 m_10 288 5 ((m_10 288 5) ^^^ (1 <<< (a1 &&& 31))) → (wp_X5_landings m_11 (fun r_14 m_13 => K r_14 m_13)))))) ∧ (¬ r_8 ≤ 1 → K (-5) m_7))))))))) ∧ (r_2 = 0 → K (-1) m_1))))
set_option maxHeartbeats 4000000 in
set_option maxRecDepth 100000 in
theorem c_X5_landing (l : Launch) (g : Gv) (ad : Nat → Nat) (μ : Mem) (sz : Nat) (a1 : Int32) (a2 : Int32) {K : Int32 → Mem → Prop} (h : wp_X5_landing a1 a2 μ K) : Met l yX5_landing (wX yX5_landing cX5_landing 3 (some .int)) rm_X5_landing (Pre g ad μ sz [.ref (ad 287), .int a1, .int a2]) (PostI g ad sz K) 0 0 (Aw ad sz) := by
  refine Met.ofW (cc := cX5_landing) (maxL := 3) (ret := (some .int)) (by decide) rfl ?_
  intro p e s m args below meth c s₁ B hml hv
  obtain ⟨rfl, rfl, C, w⟩ := x_start B hml hv
  obtain ⟨hx, hb, hml, -, hts, hown, -, -, hN⟩ := id C
  have hl := lv_entry ([.ref (ad 287), .int a1, .int a2]) (n := 3) (Nat.le_of_ble_eq_true rfl)
  rw [lg_entry_eq]
  generalize (lg_sl ([.ref (ad 287), .int a1, .int a2]) ++ List.replicate (3 - (lg_sl ([.ref (ad 287), .int a1, .int a2])).length) Slot.unset).toArray = ls at hl ⊢
  have hl : lv_has ls 3 [(0, .ref (ad 287)), (1, .int a1), (2, .int a2)] := hl
  show W p l e rm_X5_landing s m _ below meth c s.heap [] 0 0 _ _
  unfold wp_X5_landing at h
  refine lv_iload_n hx hb dX5_landing_0 rfl (lv_at hl 1 rfl) ?_
  refine x_calli C w (x_runS (As := [.int a1]) (rest := []) C w me_X5_isStep ml_StairBowsModel_67 (c_X5_isStep l g ad μ _ a1 h) ⟨rfl, rfl⟩ ⟨Nat.le_of_ble_eq_true rfl, Nat.le_of_ble_eq_true rfl⟩ rfl hl.1 rfl (Nat.le_of_ble_eq_true rfl) dX5_landing_1 ⟨Nat.le_of_ble_eq_true rfl, Nat.le_of_ble_eq_true rfl⟩) (fun r_2 m_1 h H locs w => ?_)
  refine lv_if_ne (tgt := 9) hx hb dX5_landing_4 (by decide) (fun c_3 => ?_) (fun c_3 => ?_)
  · have h := h.1 c_3
    refine lv_aload_n hx hb dX5_landing_9 rfl (lv_at hl 0 rfl) ?_
    refine lv_iload_n hx hb dX5_landing_10 rfl (lv_at hl 1 rfl) ?_
    refine x_calli C w (x_runV (i := 287) (As := [.int a1]) (rest := []) C w (rfl : kd 287 = 7) (by decide) (ci := 5) rfl rfl rfl me_X5_isLanding ml_StairBowsModel_49 (c_X5_isLanding l g ad m_1 _ a1 h) ⟨rfl, rfl⟩ ⟨Nat.le_of_ble_eq_true rfl, Nat.le_of_ble_eq_true rfl⟩ rfl hl.1 rfl (Nat.le_of_ble_eq_true rfl) dX5_landing_11 ⟨Nat.le_of_ble_eq_true rfl, Nat.le_of_ble_eq_true rfl⟩) (fun r_5 m_4 h H locs w => ?_)
    refine lv_iload_n hx hb dX5_landing_14 rfl (lv_at hl 2 rfl) ?_
    refine lv_icmp_eq (tgt := 27) hx hb dX5_landing_15 (by decide) (fun c_6 => ?_) (fun c_6 => ?_)
    · have h := h.1 c_6
      refine lv_bipush (v := -5) hx hb dX5_landing_27 (by decide) ?_
      exact x_iret C w h dX5_landing_29
    · have h := h.2 c_6
      refine lv_aload_n hx hb dX5_landing_18 rfl (lv_at hl 0 rfl) ?_
      refine lv_iload_n hx hb dX5_landing_19 rfl (lv_at hl 1 rfl) ?_
      refine x_calli C w (x_runV (i := 287) (As := [.int a1]) (rest := []) C w (rfl : kd 287 = 7) (by decide) (ci := 5) rfl rfl rfl me_X5_peopleAt ml_StairBowsModel_53 (c_X5_peopleAt l g ad m_4 _ a1 h) ⟨rfl, rfl⟩ ⟨Nat.le_of_ble_eq_true rfl, Nat.le_of_ble_eq_true rfl⟩ rfl hl.1 rfl (Nat.le_of_ble_eq_true rfl) dX5_landing_20 ⟨Nat.le_of_ble_eq_true rfl, Nat.le_of_ble_eq_true rfl⟩) (fun r_8 m_7 h H locs w => ?_)
      refine lv_iconst (v := 1) hx hb dX5_landing_23 (by decide) ?_
      refine lv_icmp_le (tgt := 30) hx hb dX5_landing_24 (by decide) (fun c_9 => ?_) (fun c_9 => ?_)
      · have h := h.1 c_9
        refine lv_aload_n hx hb dX5_landing_30 rfl (lv_at hl 0 rfl) ?_
        refine x_callv C w (x_runV (i := 287) (As := []) (rest := []) C w (rfl : kd 287 = 7) (by decide) (ci := 5) rfl rfl rfl me_X5_changes ml_StairBowsModel_108 (c_X5_changes l g ad m_7 _  h) ⟨rfl, rfl⟩ ⟨Nat.le_of_ble_eq_true rfl, Nat.le_of_ble_eq_true rfl⟩ rfl hl.1 rfl (Nat.le_of_ble_eq_true rfl) dX5_landing_31 ⟨Nat.le_of_ble_eq_true rfl, Nat.le_of_ble_eq_true rfl⟩) (fun m_10 h H locs w => ?_)
        refine lv_aload_n hx hb dX5_landing_34 rfl (lv_at hl 0 rfl) ?_
        refine x_getM C w (k := 0) (v := .ref (ad 288)) (by decide) rfl mf_StairBowsModel_7 dX5_landing_35 ?_
        refine lv_iconst (v := 5) hx hb dX5_landing_38 (by decide) ?_
        refine lv_dup2_11 hx hb dX5_landing_39 rfl rfl ?_
        refine x_iald C w (i := 288) (K := 20) (j := 5) (n := 225) (jn := 5) rfl (rfl : kd 288 = 20) (by decide) rfl (show vp_in 5 225 from vp_lit (by decide) (by decide)) dX5_landing_40 ?_
        refine lv_iconst (v := 1) hx hb dX5_landing_41 (by decide) ?_
        refine lv_iload_n hx hb dX5_landing_42 rfl (lv_at hl 1 rfl) ?_
        refine lv_ishl hx hb dX5_landing_43 ?_
        refine lv_ixor hx hb dX5_landing_44 ?_
        refine x_iast C w (i := 288) (K := 20) (n := 225) (jn := 5) rfl (rfl : kd 288 = 20) (by decide) (fun _ => rfl) (show vp_in 5 225 from vp_lit (by decide) (by decide)) dX5_landing_45 (fun m_11 e_12 H locs w => ?_)
        have h := h m_11 e_12
        refine lv_aload_n hx hb dX5_landing_46 rfl (lv_at hl 0 rfl) ?_
        refine x_calli C w (x_runV (i := 287) (As := []) (rest := []) C w (rfl : kd 287 = 7) (by decide) (ci := 5) rfl rfl rfl me_X5_landings ml_StairBowsModel_111 (c_X5_landings l g ad m_11 _  h) ⟨rfl, rfl⟩ ⟨Nat.le_of_ble_eq_true rfl, Nat.le_of_ble_eq_true rfl⟩ rfl hl.1 rfl (Nat.le_of_ble_eq_true rfl) dX5_landing_47 ⟨Nat.le_of_ble_eq_true rfl, Nat.le_of_ble_eq_true rfl⟩) (fun r_14 m_13 h H locs w => ?_)
        exact x_iret C w h dX5_landing_50
      · have h := h.2 c_9
        refine lv_bipush (v := -5) hx hb dX5_landing_27 (by decide) ?_
        exact x_iret C w h dX5_landing_29
  · have h := h.2 c_3
    refine lv_iconst (v := -1) hx hb dX5_landing_7 (by decide) ?_
    exact x_iret C w h dX5_landing_8
abbrev rm_X5_comes : Room := { frames := 1, cells := 0, slots := 0, locals := 23 }
noncomputable def wp_X5_comes_L20 (v1 : Int32) (v2 : Int32) (v3 : Int32) (K : Mem → Prop) (n : Nat) : Int32 → Mem → Prop :=
  Nat.rec (motive := fun _ => Int32 → Mem → Prop) (fun _ _ => False) (fun _ ih v4 μ =>
    ((9 ≤ v4 → (wp_X5_lays v3 0 v1 μ (fun m_4 => (wp_X5_lays v3 1 v2 m_4 (fun m_5 => (wp_X5_lays v3 3 (-6) m_5 (fun m_6 => (wp_X5_lays v3 7 (-6) m_6 (fun m_7 => K m_7))))))))) ∧ (¬ 9 ≤ v4 → (wp_X5_lays v3 v4 0 μ (fun m_8 => ih (v4 + 1) m_8))))) n
theorem wp_X5_comes_L20_s (v1 : Int32) (v2 : Int32) (v3 : Int32) (K : Mem → Prop) (n : Nat) (v4 : Int32) (μ : Mem) : wp_X5_comes_L20 v1 v2 v3 K (n + 1) v4 μ = (
    let ih := wp_X5_comes_L20 v1 v2 v3 K n
    ((9 ≤ v4 → (wp_X5_lays v3 0 v1 μ (fun m_4 => (wp_X5_lays v3 1 v2 m_4 (fun m_5 => (wp_X5_lays v3 3 (-6) m_5 (fun m_6 => (wp_X5_lays v3 7 (-6) m_6 (fun m_7 => K m_7))))))))) ∧ (¬ 9 ≤ v4 → (wp_X5_lays v3 v4 0 μ (fun m_8 => ih (v4 + 1) m_8))))) := rfl
noncomputable def wp_X5_comes (a1 : Int32) (a2 : Int32) (μ : Mem) (K : Mem → Prop) : Prop :=
    (∀ m_1, m_1 = up2 μ 288 4 ((μ 288 4) + 1) → (∃ n, wp_X5_comes_L20 a1 a2 (μ 288 4) K n 0 m_1))
set_option maxHeartbeats 4000000 in
set_option maxRecDepth 100000 in
theorem t_X5_comes_L20 {g : Gv} {ad : Nat → Nat} {l : Launch} {p : Program} {e : Env} {s : State} {m : MethodId} {args : Array Value} {below : List Frame} {meth : Method} {c : Code} (C : Cx g p s m args meth c "StairBowsModel" cX5_comes 5 none) {v1 : Int32} {v2 : Int32} {v3 : Int32}  {K : Mem → Prop}    : ∀ (n : Nat) (v4 : Int32) (μ : Mem) (H : Heap) (locs : List Loc) (ls : Array Slot), wp_X5_comes_L20 v1 v2 v3 K n v4 μ → Wd g ad μ (Aw ad s.heap.size) s H locs → lv_has ls 5 [(0, .ref (ad 287)), (1, .int v1), (2, .int v2), (3, .int v3), (4, .int v4)] → W p l e rm_X5_comes s m args below meth c H locs 0 0 (MQ below (PostV g ad s.heap.size K) args s 0 0 (Aw ad s.heap.size)) (F0 m 20 ls []) := by
  obtain ⟨hx, hb, hml, -, hts, hown, -, -, hN⟩ := id C
  intro n
  induction n with
  | zero =>
    intro v4 μ H locs ls h w hl
    exact (show False from h).elim
  | succ n ih =>
    intro v4 μ H locs ls h w hl
    rw [wp_X5_comes_L20_s] at h
    dsimp only at h
    refine lv_iload hx hb dX5_comes_20 (lv_at hl 4 rfl) ?_
    refine lv_bipush (v := 9) hx hb dX5_comes_22 (by decide) ?_
    refine lv_icmp_ge (tgt := 41) hx hb dX5_comes_24 (by decide) (fun c_3 => ?_) (fun c_3 => ?_)
    · have h := h.1 c_3
      refine lv_aload_n hx hb dX5_comes_41 rfl (lv_at hl 0 rfl) ?_
      refine lv_iload_n hx hb dX5_comes_42 rfl (lv_at hl 3 rfl) ?_
      refine lv_iconst (v := 0) hx hb dX5_comes_43 (by decide) ?_
      refine lv_iload_n hx hb dX5_comes_44 rfl (lv_at hl 1 rfl) ?_
      refine x_callv C w (x_runV (i := 287) (As := [.int v3, .int 0, .int v1]) (rest := []) C w (rfl : kd 287 = 7) (by decide) (ci := 5) rfl rfl rfl me_X5_lays ml_StairBowsModel_63 (c_X5_lays l g ad μ _ v3 0 v1 h) ⟨rfl, rfl⟩ ⟨Nat.le_of_ble_eq_true rfl, Nat.le_of_ble_eq_true rfl⟩ rfl hl.1 rfl (Nat.le_of_ble_eq_true rfl) dX5_comes_45 ⟨Nat.le_of_ble_eq_true rfl, Nat.le_of_ble_eq_true rfl⟩) (fun m_4 h H locs w => ?_)
      refine lv_aload_n hx hb dX5_comes_48 rfl (lv_at hl 0 rfl) ?_
      refine lv_iload_n hx hb dX5_comes_49 rfl (lv_at hl 3 rfl) ?_
      refine lv_iconst (v := 1) hx hb dX5_comes_50 (by decide) ?_
      refine lv_iload_n hx hb dX5_comes_51 rfl (lv_at hl 2 rfl) ?_
      refine x_callv C w (x_runV (i := 287) (As := [.int v3, .int 1, .int v2]) (rest := []) C w (rfl : kd 287 = 7) (by decide) (ci := 5) rfl rfl rfl me_X5_lays ml_StairBowsModel_63 (c_X5_lays l g ad m_4 _ v3 1 v2 h) ⟨rfl, rfl⟩ ⟨Nat.le_of_ble_eq_true rfl, Nat.le_of_ble_eq_true rfl⟩ rfl hl.1 rfl (Nat.le_of_ble_eq_true rfl) dX5_comes_52 ⟨Nat.le_of_ble_eq_true rfl, Nat.le_of_ble_eq_true rfl⟩) (fun m_5 h H locs w => ?_)
      refine lv_aload_n hx hb dX5_comes_55 rfl (lv_at hl 0 rfl) ?_
      refine lv_iload_n hx hb dX5_comes_56 rfl (lv_at hl 3 rfl) ?_
      refine lv_iconst (v := 3) hx hb dX5_comes_57 (by decide) ?_
      refine lv_bipush (v := -6) hx hb dX5_comes_58 (by decide) ?_
      refine x_callv C w (x_runV (i := 287) (As := [.int v3, .int 3, .int (-6)]) (rest := []) C w (rfl : kd 287 = 7) (by decide) (ci := 5) rfl rfl rfl me_X5_lays ml_StairBowsModel_63 (c_X5_lays l g ad m_5 _ v3 3 (-6) h) ⟨rfl, rfl⟩ ⟨Nat.le_of_ble_eq_true rfl, Nat.le_of_ble_eq_true rfl⟩ rfl hl.1 rfl (Nat.le_of_ble_eq_true rfl) dX5_comes_60 ⟨Nat.le_of_ble_eq_true rfl, Nat.le_of_ble_eq_true rfl⟩) (fun m_6 h H locs w => ?_)
      refine lv_aload_n hx hb dX5_comes_63 rfl (lv_at hl 0 rfl) ?_
      refine lv_iload_n hx hb dX5_comes_64 rfl (lv_at hl 3 rfl) ?_
      refine lv_bipush (v := 7) hx hb dX5_comes_65 (by decide) ?_
      refine lv_bipush (v := -6) hx hb dX5_comes_67 (by decide) ?_
      refine x_callv C w (x_runV (i := 287) (As := [.int v3, .int 7, .int (-6)]) (rest := []) C w (rfl : kd 287 = 7) (by decide) (ci := 5) rfl rfl rfl me_X5_lays ml_StairBowsModel_63 (c_X5_lays l g ad m_6 _ v3 7 (-6) h) ⟨rfl, rfl⟩ ⟨Nat.le_of_ble_eq_true rfl, Nat.le_of_ble_eq_true rfl⟩ rfl hl.1 rfl (Nat.le_of_ble_eq_true rfl) dX5_comes_69 ⟨Nat.le_of_ble_eq_true rfl, Nat.le_of_ble_eq_true rfl⟩) (fun m_7 h H locs w => ?_)
      exact x_vret C w h dX5_comes_72
    · have h := h.2 c_3
      refine lv_aload_n hx hb dX5_comes_27 rfl (lv_at hl 0 rfl) ?_
      refine lv_iload_n hx hb dX5_comes_28 rfl (lv_at hl 3 rfl) ?_
      refine lv_iload hx hb dX5_comes_29 (lv_at hl 4 rfl) ?_
      refine lv_iconst (v := 0) hx hb dX5_comes_31 (by decide) ?_
      refine x_callv C w (x_runV (i := 287) (As := [.int v3, .int v4, .int 0]) (rest := []) C w (rfl : kd 287 = 7) (by decide) (ci := 5) rfl rfl rfl me_X5_lays ml_StairBowsModel_63 (c_X5_lays l g ad μ _ v3 v4 0 h) ⟨rfl, rfl⟩ ⟨Nat.le_of_ble_eq_true rfl, Nat.le_of_ble_eq_true rfl⟩ rfl hl.1 rfl (Nat.le_of_ble_eq_true rfl) dX5_comes_32 ⟨Nat.le_of_ble_eq_true rfl, Nat.le_of_ble_eq_true rfl⟩) (fun m_8 h H locs w => ?_)
      refine lv_iinc (v := (v4 + 1)) (lv' := [(4, .int (v4 + 1)), (0, .ref (ad 287)), (1, .int v1), (2, .int v2), (3, .int v3)]) hx hb dX5_comes_35 hl (k := 4) rfl rfl (by decide) rfl (fun ls hl => ?_)
      refine lv_goto (tgt := 20) hx hb dX5_comes_38 (by decide) ?_
      exact ih (v4 + 1) m_8 _ _ _ h w (lv_sub hl [1, 2, 3, 4, 0] rfl)
set_option maxHeartbeats 4000000 in
set_option maxRecDepth 100000 in
theorem c_X5_comes (l : Launch) (g : Gv) (ad : Nat → Nat) (μ : Mem) (sz : Nat) (a1 : Int32) (a2 : Int32) {K : Mem → Prop} (h : wp_X5_comes a1 a2 μ K) : Met l yX5_comes (wX yX5_comes cX5_comes 5 none) rm_X5_comes (Pre g ad μ sz [.ref (ad 287), .int a1, .int a2]) (PostV g ad sz K) 0 0 (Aw ad sz) := by
  refine Met.ofW (cc := cX5_comes) (maxL := 5) (ret := none) (by decide) rfl ?_
  intro p e s m args below meth c s₁ B hml hv
  obtain ⟨rfl, rfl, C, w⟩ := x_start B hml hv
  obtain ⟨hx, hb, hml, -, hts, hown, -, -, hN⟩ := id C
  have hl := lv_entry ([.ref (ad 287), .int a1, .int a2]) (n := 5) (Nat.le_of_ble_eq_true rfl)
  rw [lg_entry_eq]
  generalize (lg_sl ([.ref (ad 287), .int a1, .int a2]) ++ List.replicate (5 - (lg_sl ([.ref (ad 287), .int a1, .int a2])).length) Slot.unset).toArray = ls at hl ⊢
  have hl : lv_has ls 5 [(0, .ref (ad 287)), (1, .int a1), (2, .int a2)] := hl
  show W p l e rm_X5_comes s m _ below meth c s.heap [] 0 0 _ _
  unfold wp_X5_comes at h
  refine lv_aload_n hx hb dX5_comes_0 rfl (lv_at hl 0 rfl) ?_
  refine x_getM C w (k := 0) (v := .ref (ad 288)) (by decide) rfl mf_StairBowsModel_7 dX5_comes_1 ?_
  refine lv_iconst (v := 4) hx hb dX5_comes_4 (by decide) ?_
  refine x_iald C w (i := 288) (K := 20) (j := 4) (n := 225) (jn := 4) rfl (rfl : kd 288 = 20) (by decide) rfl (show vp_in 4 225 from vp_lit (by decide) (by decide)) dX5_comes_5 ?_
  refine lv_istore_n (lv' := [(3, .int (μ 288 4)), (0, .ref (ad 287)), (1, .int a1), (2, .int a2)]) hx hb dX5_comes_6 rfl hl (by decide) rfl (fun ls hl => ?_)
  refine lv_aload_n hx hb dX5_comes_7 rfl (lv_at hl 1 rfl) ?_
  refine x_getM C w (k := 0) (v := .ref (ad 288)) (by decide) rfl mf_StairBowsModel_7 dX5_comes_8 ?_
  refine lv_iconst (v := 4) hx hb dX5_comes_11 (by decide) ?_
  refine lv_dup2_11 hx hb dX5_comes_12 rfl rfl ?_
  refine x_iald C w (i := 288) (K := 20) (j := 4) (n := 225) (jn := 4) rfl (rfl : kd 288 = 20) (by decide) rfl (show vp_in 4 225 from vp_lit (by decide) (by decide)) dX5_comes_13 ?_
  refine lv_iconst (v := 1) hx hb dX5_comes_14 (by decide) ?_
  refine lv_iadd hx hb dX5_comes_15 ?_
  refine x_iast C w (i := 288) (K := 20) (n := 225) (jn := 4) rfl (rfl : kd 288 = 20) (by decide) (fun _ => rfl) (show vp_in 4 225 from vp_lit (by decide) (by decide)) dX5_comes_16 (fun m_1 e_2 H locs w => ?_)
  have h := h m_1 e_2
  refine lv_iconst (v := 0) hx hb dX5_comes_17 (by decide) ?_
  refine lv_istore (lv' := [(4, .int 0), (3, .int (μ 288 4)), (0, .ref (ad 287)), (1, .int a1), (2, .int a2)]) hx hb dX5_comes_18 hl (by decide) rfl (fun ls hl => ?_)
  obtain ⟨n_9, h⟩ := h
  exact t_X5_comes_L20 C n_9 0 m_1 _ _ _ h w (lv_sub hl [2, 3, 4, 1, 0] rfl)
abbrev rm_X5_come : Room := { frames := 2, cells := 0, slots := 0, locals := 47 }
noncomputable def wp_X5_come (a1 : Int32) (a2 : Int32) (μ : Mem) (K : Int32 → Mem → Prop) : Prop :=
    (wp_X5_in (Int32.toInt64 a1) 1 9 μ (fun r_2 m_1 => ((¬ r_2 = 0 → ((¬ (m_1 288 4) = 24 → (wp_X5_changes m_1 (fun m_5 => ((a2 = 0 → (wp_X5_comes a1 0 m_5 (fun m_7 => K ((m_7 288 4) - 1) m_7))) ∧ (¬ a2 = 0 → (wp_X5_comes a1 1 m_5 (fun m_8 => K ((m_8 288 4) - 1) m_8))))))) ∧ ((m_1 288 4) = 24 → K (-4) m_1))) ∧ (r_2 = 0 → K (-2) m_1))))
set_option maxHeartbeats 4000000 in
set_option maxRecDepth 100000 in
theorem c_X5_come (l : Launch) (g : Gv) (ad : Nat → Nat) (μ : Mem) (sz : Nat) (a1 : Int32) (a2 : Int32) {K : Int32 → Mem → Prop} (h : wp_X5_come a1 a2 μ K) : Met l yX5_come (wX yX5_come cX5_come 3 (some .int)) rm_X5_come (Pre g ad μ sz [.ref (ad 287), .int a1, .int a2]) (PostI g ad sz K) 0 0 (Aw ad sz) := by
  refine Met.ofW (cc := cX5_come) (maxL := 3) (ret := (some .int)) (by decide) rfl ?_
  intro p e s m args below meth c s₁ B hml hv
  obtain ⟨rfl, rfl, C, w⟩ := x_start B hml hv
  obtain ⟨hx, hb, hml, -, hts, hown, -, -, hN⟩ := id C
  have hl := lv_entry ([.ref (ad 287), .int a1, .int a2]) (n := 3) (Nat.le_of_ble_eq_true rfl)
  rw [lg_entry_eq]
  generalize (lg_sl ([.ref (ad 287), .int a1, .int a2]) ++ List.replicate (3 - (lg_sl ([.ref (ad 287), .int a1, .int a2])).length) Slot.unset).toArray = ls at hl ⊢
  have hl : lv_has ls 3 [(0, .ref (ad 287)), (1, .int a1), (2, .int a2)] := hl
  show W p l e rm_X5_come s m _ below meth c s.heap [] 0 0 _ _
  unfold wp_X5_come at h
  refine lv_iload_n hx hb dX5_come_0 rfl (lv_at hl 1 rfl) ?_
  refine lv_i2l (v := (Int32.toInt64 a1)) hx hb dX5_come_1 rfl ?_
  refine lv_lconst (v := 1) hx hb dX5_come_2 (by decide) ?_
  refine lv_ldc2 (v := 9) hx hb hown (hts _ mk_StairBowsModel_100) dX5_come_3 ?_
  refine x_calli C w (x_runS (As := [.long (Int32.toInt64 a1), .long 1, .long 9]) (rest := []) C w me_X5_in ml_StairBowsModel_35 (c_X5_in l g ad μ _ (Int32.toInt64 a1) 1 9 h) ⟨rfl, rfl⟩ ⟨Nat.le_of_ble_eq_true rfl, Nat.le_of_ble_eq_true rfl⟩ rfl hl.1 rfl (Nat.le_of_ble_eq_true rfl) dX5_come_6 ⟨Nat.le_of_ble_eq_true rfl, Nat.le_of_ble_eq_true rfl⟩) (fun r_2 m_1 h H locs w => ?_)
  refine lv_if_ne (tgt := 15) hx hb dX5_come_9 (by decide) (fun c_3 => ?_) (fun c_3 => ?_)
  · have h := h.1 c_3
    refine lv_aload_n hx hb dX5_come_15 rfl (lv_at hl 0 rfl) ?_
    refine x_getM C w (k := 0) (v := .ref (ad 288)) (by decide) rfl mf_StairBowsModel_7 dX5_come_16 ?_
    refine lv_iconst (v := 4) hx hb dX5_come_19 (by decide) ?_
    refine x_iald C w (i := 288) (K := 20) (j := 4) (n := 225) (jn := 4) rfl (rfl : kd 288 = 20) (by decide) rfl (show vp_in 4 225 from vp_lit (by decide) (by decide)) dX5_come_20 ?_
    refine lv_bipush (v := 24) hx hb dX5_come_21 (by decide) ?_
    refine lv_icmp_ne (tgt := 29) hx hb dX5_come_23 (by decide) (fun c_4 => ?_) (fun c_4 => ?_)
    · have h := h.1 c_4
      refine lv_aload_n hx hb dX5_come_29 rfl (lv_at hl 0 rfl) ?_
      refine x_callv C w (x_runV (i := 287) (As := []) (rest := []) C w (rfl : kd 287 = 7) (by decide) (ci := 5) rfl rfl rfl me_X5_changes ml_StairBowsModel_108 (c_X5_changes l g ad m_1 _  h) ⟨rfl, rfl⟩ ⟨Nat.le_of_ble_eq_true rfl, Nat.le_of_ble_eq_true rfl⟩ rfl hl.1 rfl (Nat.le_of_ble_eq_true rfl) dX5_come_30 ⟨Nat.le_of_ble_eq_true rfl, Nat.le_of_ble_eq_true rfl⟩) (fun m_5 h H locs w => ?_)
      refine lv_aload_n hx hb dX5_come_33 rfl (lv_at hl 0 rfl) ?_
      refine lv_iload_n hx hb dX5_come_34 rfl (lv_at hl 1 rfl) ?_
      refine lv_iload_n hx hb dX5_come_35 rfl (lv_at hl 2 rfl) ?_
      refine lv_if_eq (tgt := 43) hx hb dX5_come_36 (by decide) (fun c_6 => ?_) (fun c_6 => ?_)
      · have h := h.1 c_6
        refine lv_iconst (v := 0) hx hb dX5_come_43 (by decide) ?_
        refine x_callv C w (x_runV (i := 287) (As := [.int a1, .int 0]) (rest := []) C w (rfl : kd 287 = 7) (by decide) (ci := 5) rfl rfl rfl me_X5_comes ml_StairBowsModel_115 (c_X5_comes l g ad m_5 _ a1 0 h) ⟨rfl, rfl⟩ ⟨Nat.le_of_ble_eq_true rfl, Nat.le_of_ble_eq_true rfl⟩ rfl hl.1 rfl (Nat.le_of_ble_eq_true rfl) dX5_come_44 ⟨Nat.le_of_ble_eq_true rfl, Nat.le_of_ble_eq_true rfl⟩) (fun m_7 h H locs w => ?_)
        refine lv_aload_n hx hb dX5_come_47 rfl (lv_at hl 0 rfl) ?_
        refine x_getM C w (k := 0) (v := .ref (ad 288)) (by decide) rfl mf_StairBowsModel_7 dX5_come_48 ?_
        refine lv_iconst (v := 4) hx hb dX5_come_51 (by decide) ?_
        refine x_iald C w (i := 288) (K := 20) (j := 4) (n := 225) (jn := 4) rfl (rfl : kd 288 = 20) (by decide) rfl (show vp_in 4 225 from vp_lit (by decide) (by decide)) dX5_come_52 ?_
        refine lv_iconst (v := 1) hx hb dX5_come_53 (by decide) ?_
        refine lv_isub hx hb dX5_come_54 ?_
        exact x_iret C w h dX5_come_55
      · have h := h.2 c_6
        refine lv_iconst (v := 1) hx hb dX5_come_39 (by decide) ?_
        refine lv_goto (tgt := 44) hx hb dX5_come_40 (by decide) ?_
        refine x_callv C w (x_runV (i := 287) (As := [.int a1, .int 1]) (rest := []) C w (rfl : kd 287 = 7) (by decide) (ci := 5) rfl rfl rfl me_X5_comes ml_StairBowsModel_115 (c_X5_comes l g ad m_5 _ a1 1 h) ⟨rfl, rfl⟩ ⟨Nat.le_of_ble_eq_true rfl, Nat.le_of_ble_eq_true rfl⟩ rfl hl.1 rfl (Nat.le_of_ble_eq_true rfl) dX5_come_44 ⟨Nat.le_of_ble_eq_true rfl, Nat.le_of_ble_eq_true rfl⟩) (fun m_8 h H locs w => ?_)
        refine lv_aload_n hx hb dX5_come_47 rfl (lv_at hl 0 rfl) ?_
        refine x_getM C w (k := 0) (v := .ref (ad 288)) (by decide) rfl mf_StairBowsModel_7 dX5_come_48 ?_
        refine lv_iconst (v := 4) hx hb dX5_come_51 (by decide) ?_
        refine x_iald C w (i := 288) (K := 20) (j := 4) (n := 225) (jn := 4) rfl (rfl : kd 288 = 20) (by decide) rfl (show vp_in 4 225 from vp_lit (by decide) (by decide)) dX5_come_52 ?_
        refine lv_iconst (v := 1) hx hb dX5_come_53 (by decide) ?_
        refine lv_isub hx hb dX5_come_54 ?_
        exact x_iret C w h dX5_come_55
    · have h := h.2 c_4
      refine lv_bipush (v := -4) hx hb dX5_come_26 (by decide) ?_
      exact x_iret C w h dX5_come_28
  · have h := h.2 c_3
    refine lv_bipush (v := -2) hx hb dX5_come_12 (by decide) ?_
    exact x_iret C w h dX5_come_14
abbrev rm_X5_isAllowed : Room := { frames := 1, cells := 0, slots := 0, locals := 25 }
noncomputable def wp_X5_isAllowed (a1 : Int32) (μ : Mem) (K : Int32 → Mem → Prop) : Prop :=
    ((¬ (a1 - (a1 / 2) * 2) = 0 → (vp_in a1 60 ∧ (wp_X5_in (Int32.toInt64 (μ 294 a1.toNatClampNeg)) 49 57 μ (fun r_3 m_2 => (bz r_3 ∧ K r_3 m_2))))) ∧ ((a1 - (a1 / 2) * 2) = 0 → (vp_in a1 60 ∧ (((μ 294 a1.toNatClampNeg) = 117 → K 1 μ) ∧ (¬ (μ 294 a1.toNatClampNeg) = 117 → (vp_in a1 60 ∧ ((¬ (μ 294 a1.toNatClampNeg) = 100 → K 0 μ) ∧ ((μ 294 a1.toNatClampNeg) = 100 → K 1 μ))))))))
set_option maxHeartbeats 4000000 in
set_option maxRecDepth 100000 in
theorem c_X5_isAllowed (l : Launch) (g : Gv) (ad : Nat → Nat) (μ : Mem) (sz : Nat) (a1 : Int32) {K : Int32 → Mem → Prop} (h : wp_X5_isAllowed a1 μ K) : Met l yX5_isAllowed (wX yX5_isAllowed cX5_isAllowed 2 (some .boolean)) rm_X5_isAllowed (Pre g ad μ sz [.ref (ad 287), .int a1]) (PostI g ad sz K) 0 0 (Aw ad sz) := by
  refine Met.ofW (cc := cX5_isAllowed) (maxL := 2) (ret := (some .boolean)) (by decide) rfl ?_
  intro p e s m args below meth c s₁ B hml hv
  obtain ⟨rfl, rfl, C, w⟩ := x_start B hml hv
  obtain ⟨hx, hb, hml, -, hts, hown, -, -, hN⟩ := id C
  have hl := lv_entry ([.ref (ad 287), .int a1]) (n := 2) (Nat.le_of_ble_eq_true rfl)
  rw [lg_entry_eq]
  generalize (lg_sl ([.ref (ad 287), .int a1]) ++ List.replicate (2 - (lg_sl ([.ref (ad 287), .int a1])).length) Slot.unset).toArray = ls at hl ⊢
  have hl : lv_has ls 2 [(0, .ref (ad 287)), (1, .int a1)] := hl
  show W p l e rm_X5_isAllowed s m _ below meth c s.heap [] 0 0 _ _
  unfold wp_X5_isAllowed at h
  refine lv_iload_n hx hb dX5_isAllowed_0 rfl (lv_at hl 1 rfl) ?_
  refine lv_iconst (v := 2) hx hb dX5_isAllowed_1 (by decide) ?_
  refine lv_irem hx hb dX5_isAllowed_2 (by decide) ?_
  refine lv_if_ne (tgt := 36) hx hb dX5_isAllowed_3 (by decide) (fun c_1 => ?_) (fun c_1 => ?_)
  · have h := h.1 c_1
    refine lv_aload_n hx hb dX5_isAllowed_36 rfl (lv_at hl 0 rfl) ?_
    refine x_getM C w (k := 7) (v := .ref (ad 294)) (by decide) rfl mf_StairBowsModel_28 dX5_isAllowed_37 ?_
    refine lv_iload_n hx hb dX5_isAllowed_40 rfl (lv_at hl 1 rfl) ?_
    refine x_iald C w (i := 294) (K := 26) (j := a1) (n := 60) (jn := a1.toNatClampNeg) rfl (rfl : kd 294 = 26) (by decide) rfl (show vp_in a1 60 from h.1) dX5_isAllowed_41 ?_
    have h := h.2
    refine lv_i2l (v := (Int32.toInt64 (μ 294 a1.toNatClampNeg))) hx hb dX5_isAllowed_42 rfl ?_
    refine lv_ldc2 (v := 49) hx hb hown (hts _ mk_StairBowsModel_172) dX5_isAllowed_43 ?_
    refine lv_ldc2 (v := 57) hx hb hown (hts _ mk_StairBowsModel_174) dX5_isAllowed_46 ?_
    refine x_calli C w (x_runS (As := [.long (Int32.toInt64 (μ 294 a1.toNatClampNeg)), .long 49, .long 57]) (rest := []) C w me_X5_in ml_StairBowsModel_35 (c_X5_in l g ad μ _ (Int32.toInt64 (μ 294 a1.toNatClampNeg)) 49 57 h) ⟨rfl, rfl⟩ ⟨Nat.le_of_ble_eq_true rfl, Nat.le_of_ble_eq_true rfl⟩ rfl hl.1 rfl (Nat.le_of_ble_eq_true rfl) dX5_isAllowed_49 ⟨Nat.le_of_ble_eq_true rfl, Nat.le_of_ble_eq_true rfl⟩) (fun r_3 m_2 h H locs w => ?_)
    exact x_zret C w h.1 h.2 dX5_isAllowed_52
  · have h := h.2 c_1
    refine lv_aload_n hx hb dX5_isAllowed_6 rfl (lv_at hl 0 rfl) ?_
    refine x_getM C w (k := 7) (v := .ref (ad 294)) (by decide) rfl mf_StairBowsModel_28 dX5_isAllowed_7 ?_
    refine lv_iload_n hx hb dX5_isAllowed_10 rfl (lv_at hl 1 rfl) ?_
    refine x_iald C w (i := 294) (K := 26) (j := a1) (n := 60) (jn := a1.toNatClampNeg) rfl (rfl : kd 294 = 26) (by decide) rfl (show vp_in a1 60 from h.1) dX5_isAllowed_11 ?_
    have h := h.2
    refine lv_bipush (v := 117) hx hb dX5_isAllowed_12 (by decide) ?_
    refine lv_icmp_eq (tgt := 28) hx hb dX5_isAllowed_14 (by decide) (fun c_4 => ?_) (fun c_4 => ?_)
    · have h := h.1 c_4
      refine lv_iconst (v := 1) hx hb dX5_isAllowed_28 (by decide) ?_
      refine lv_goto (tgt := 52) hx hb dX5_isAllowed_29 (by decide) ?_
      exact x_zret C w (show bz 1 from Or.inr rfl) h dX5_isAllowed_52
    · have h := h.2 c_4
      refine lv_aload_n hx hb dX5_isAllowed_17 rfl (lv_at hl 0 rfl) ?_
      refine x_getM C w (k := 7) (v := .ref (ad 294)) (by decide) rfl mf_StairBowsModel_28 dX5_isAllowed_18 ?_
      refine lv_iload_n hx hb dX5_isAllowed_21 rfl (lv_at hl 1 rfl) ?_
      refine x_iald C w (i := 294) (K := 26) (j := a1) (n := 60) (jn := a1.toNatClampNeg) rfl (rfl : kd 294 = 26) (by decide) rfl (show vp_in a1 60 from h.1) dX5_isAllowed_22 ?_
      have h := h.2
      refine lv_bipush (v := 100) hx hb dX5_isAllowed_23 (by decide) ?_
      refine lv_icmp_ne (tgt := 32) hx hb dX5_isAllowed_25 (by decide) (fun c_5 => ?_) (fun c_5 => ?_)
      · have h := h.1 c_5
        refine lv_iconst (v := 0) hx hb dX5_isAllowed_32 (by decide) ?_
        refine lv_goto (tgt := 52) hx hb dX5_isAllowed_33 (by decide) ?_
        exact x_zret C w (show bz 0 from Or.inl rfl) h dX5_isAllowed_52
      · have h := h.2 c_5
        refine lv_iconst (v := 1) hx hb dX5_isAllowed_28 (by decide) ?_
        refine lv_goto (tgt := 52) hx hb dX5_isAllowed_29 (by decide) ?_
        exact x_zret C w (show bz 1 from Or.inr rfl) h dX5_isAllowed_52
abbrev rm_X5_fault : Room := { frames := 2, cells := 0, slots := 0, locals := 46 }
noncomputable def wp_X5_fault_B24 (v1 : Int32) (K : Int32 → Mem → Prop) (μ : Mem) : Prop :=
    ((¬ v1 = (μ 287 8) → K v1 μ) ∧ (v1 = (μ 287 8) → ((v1 ≤ 0 → K v1 μ) ∧ (¬ v1 ≤ 0 → ((¬ (v1 - (v1 / 2) * 2) = 0 → K v1 μ) ∧ ((v1 - (v1 / 2) * 2) = 0 → K (-6) μ))))))
noncomputable def wp_X5_fault_L2 (K : Int32 → Mem → Prop) (n : Nat) : Int32 → Mem → Prop :=
  Nat.rec (motive := fun _ => Int32 → Mem → Prop) (fun _ _ => False) (fun _ ih v1 μ =>
    (((μ 287 8) ≤ v1 → wp_X5_fault_B24 v1 K μ) ∧ (¬ (μ 287 8) ≤ v1 → (wp_X5_isAllowed v1 μ (fun r_6 m_5 => ((r_6 = 0 → wp_X5_fault_B24 v1 K m_5) ∧ (¬ r_6 = 0 → ih (v1 + 1) m_5))))))) n
theorem wp_X5_fault_L2_s (K : Int32 → Mem → Prop) (n : Nat) (v1 : Int32) (μ : Mem) : wp_X5_fault_L2 K (n + 1) v1 μ = (
    let ih := wp_X5_fault_L2 K n
    (((μ 287 8) ≤ v1 → wp_X5_fault_B24 v1 K μ) ∧ (¬ (μ 287 8) ≤ v1 → (wp_X5_isAllowed v1 μ (fun r_6 m_5 => ((r_6 = 0 → wp_X5_fault_B24 v1 K m_5) ∧ (¬ r_6 = 0 → ih (v1 + 1) m_5))))))) := rfl
noncomputable def wp_X5_fault  (μ : Mem) (K : Int32 → Mem → Prop) : Prop :=
    (∃ n, wp_X5_fault_L2 K n 0 μ)
set_option maxHeartbeats 4000000 in
set_option maxRecDepth 100000 in
theorem t_X5_fault_B24 {g : Gv} {ad : Nat → Nat} {l : Launch} {p : Program} {e : Env} {s : State} {m : MethodId} {args : Array Value} {below : List Frame} {meth : Method} {c : Code} (C : Cx g p s m args meth c "StairBowsModel" cX5_fault 2 (some .int)) {v1 : Int32}  {K : Int32 → Mem → Prop}    (μ : Mem) (H : Heap) (locs : List Loc) (ls : Array Slot) (h : wp_X5_fault_B24 v1 K μ) (w : Wd g ad μ (Aw ad s.heap.size) s H locs) (hl : lv_has ls 2 [(0, .ref (ad 287)), (1, .int v1)]) : W p l e rm_X5_fault s m args below meth c H locs 0 0 (MQ below (PostI g ad s.heap.size K) args s 0 0 (Aw ad s.heap.size)) (F0 m 24 ls []) := by
  obtain ⟨hx, hb, hml, -, hts, hown, -, -, hN⟩ := id C
  unfold wp_X5_fault_B24 at h
  refine lv_iload_n hx hb dX5_fault_24 rfl (lv_at hl 1 rfl) ?_
  refine lv_aload_n hx hb dX5_fault_25 rfl (lv_at hl 0 rfl) ?_
  refine x_getM C w (k := 8) (v := .int (μ 287 8)) (by decide) rfl mf_StairBowsModel_121 dX5_fault_26 ?_
  refine lv_icmp_ne (tgt := 47) hx hb dX5_fault_29 (by decide) (fun c_2 => ?_) (fun c_2 => ?_)
  · have h := h.1 c_2
    refine lv_iload_n hx hb dX5_fault_47 rfl (lv_at hl 1 rfl) ?_
    exact x_iret C w h dX5_fault_48
  · have h := h.2 c_2
    refine lv_iload_n hx hb dX5_fault_32 rfl (lv_at hl 1 rfl) ?_
    refine lv_if_le (tgt := 47) hx hb dX5_fault_33 (by decide) (fun c_3 => ?_) (fun c_3 => ?_)
    · have h := h.1 c_3
      refine lv_iload_n hx hb dX5_fault_47 rfl (lv_at hl 1 rfl) ?_
      exact x_iret C w h dX5_fault_48
    · have h := h.2 c_3
      refine lv_iload_n hx hb dX5_fault_36 rfl (lv_at hl 1 rfl) ?_
      refine lv_iconst (v := 2) hx hb dX5_fault_37 (by decide) ?_
      refine lv_irem hx hb dX5_fault_38 (by decide) ?_
      refine lv_if_ne (tgt := 47) hx hb dX5_fault_39 (by decide) (fun c_4 => ?_) (fun c_4 => ?_)
      · have h := h.1 c_4
        refine lv_iload_n hx hb dX5_fault_47 rfl (lv_at hl 1 rfl) ?_
        exact x_iret C w h dX5_fault_48
      · have h := h.2 c_4
        refine lv_bipush (v := -6) hx hb dX5_fault_42 (by decide) ?_
        refine lv_goto (tgt := 48) hx hb dX5_fault_44 (by decide) ?_
        exact x_iret C w h dX5_fault_48
set_option maxHeartbeats 4000000 in
set_option maxRecDepth 100000 in
theorem t_X5_fault_L2 {g : Gv} {ad : Nat → Nat} {l : Launch} {p : Program} {e : Env} {s : State} {m : MethodId} {args : Array Value} {below : List Frame} {meth : Method} {c : Code} (C : Cx g p s m args meth c "StairBowsModel" cX5_fault 2 (some .int))   {K : Int32 → Mem → Prop}    : ∀ (n : Nat) (v1 : Int32) (μ : Mem) (H : Heap) (locs : List Loc) (ls : Array Slot), wp_X5_fault_L2 K n v1 μ → Wd g ad μ (Aw ad s.heap.size) s H locs → lv_has ls 2 [(0, .ref (ad 287)), (1, .int v1)] → W p l e rm_X5_fault s m args below meth c H locs 0 0 (MQ below (PostI g ad s.heap.size K) args s 0 0 (Aw ad s.heap.size)) (F0 m 2 ls []) := by
  obtain ⟨hx, hb, hml, -, hts, hown, -, -, hN⟩ := id C
  intro n
  induction n with
  | zero =>
    intro v1 μ H locs ls h w hl
    exact (show False from h).elim
  | succ n ih =>
    intro v1 μ H locs ls h w hl
    rw [wp_X5_fault_L2_s] at h
    dsimp only at h
    refine lv_iload_n hx hb dX5_fault_2 rfl (lv_at hl 1 rfl) ?_
    refine lv_aload_n hx hb dX5_fault_3 rfl (lv_at hl 0 rfl) ?_
    refine x_getM C w (k := 8) (v := .int (μ 287 8)) (by decide) rfl mf_StairBowsModel_121 dX5_fault_4 ?_
    refine lv_icmp_ge (tgt := 24) hx hb dX5_fault_7 (by decide) (fun c_1 => ?_) (fun c_1 => ?_)
    · have h := h.1 c_1
      exact t_X5_fault_B24 C μ _ _ _ h w (lv_sub hl [0, 1] rfl)
    · have h := h.2 c_1
      refine lv_aload_n hx hb dX5_fault_10 rfl (lv_at hl 0 rfl) ?_
      refine lv_iload_n hx hb dX5_fault_11 rfl (lv_at hl 1 rfl) ?_
      refine x_calli C w (x_runV (i := 287) (As := [.int v1]) (rest := []) C w (rfl : kd 287 = 7) (by decide) (ci := 5) rfl rfl rfl me_X5_isAllowed ml_StairBowsModel_176 (c_X5_isAllowed l g ad μ _ v1 h) ⟨rfl, rfl⟩ ⟨Nat.le_of_ble_eq_true rfl, Nat.le_of_ble_eq_true rfl⟩ rfl hl.1 rfl (Nat.le_of_ble_eq_true rfl) dX5_fault_12 ⟨Nat.le_of_ble_eq_true rfl, Nat.le_of_ble_eq_true rfl⟩) (fun r_6 m_5 h H locs w => ?_)
      refine lv_if_eq (tgt := 24) hx hb dX5_fault_15 (by decide) (fun c_7 => ?_) (fun c_7 => ?_)
      · have h := h.1 c_7
        exact t_X5_fault_B24 C m_5 _ _ _ h w (lv_sub hl [0, 1] rfl)
      · have h := h.2 c_7
        refine lv_iinc (v := (v1 + 1)) (lv' := [(1, .int (v1 + 1)), (0, .ref (ad 287))]) hx hb dX5_fault_18 hl (k := 1) rfl rfl (by decide) rfl (fun ls hl => ?_)
        refine lv_goto (tgt := 2) hx hb dX5_fault_21 (by decide) ?_
        exact ih (v1 + 1) m_5 _ _ _ h w (lv_sub hl [1, 0] rfl)
set_option maxHeartbeats 4000000 in
set_option maxRecDepth 100000 in
theorem c_X5_fault (l : Launch) (g : Gv) (ad : Nat → Nat) (μ : Mem) (sz : Nat)  {K : Int32 → Mem → Prop} (h : wp_X5_fault μ K) : Met l yX5_fault (wX yX5_fault cX5_fault 2 (some .int)) rm_X5_fault (Pre g ad μ sz [.ref (ad 287)]) (PostI g ad sz K) 0 0 (Aw ad sz) := by
  refine Met.ofW (cc := cX5_fault) (maxL := 2) (ret := (some .int)) (by decide) rfl ?_
  intro p e s m args below meth c s₁ B hml hv
  obtain ⟨rfl, rfl, C, w⟩ := x_start B hml hv
  obtain ⟨hx, hb, hml, -, hts, hown, -, -, hN⟩ := id C
  have hl := lv_entry ([.ref (ad 287)]) (n := 2) (Nat.le_of_ble_eq_true rfl)
  rw [lg_entry_eq]
  generalize (lg_sl ([.ref (ad 287)]) ++ List.replicate (2 - (lg_sl ([.ref (ad 287)])).length) Slot.unset).toArray = ls at hl ⊢
  have hl : lv_has ls 2 [(0, .ref (ad 287))] := hl
  show W p l e rm_X5_fault s m _ below meth c s.heap [] 0 0 _ _
  unfold wp_X5_fault at h
  refine lv_iconst (v := 0) hx hb dX5_fault_0 (by decide) ?_
  refine lv_istore_n (lv' := [(1, .int 0), (0, .ref (ad 287))]) hx hb dX5_fault_1 rfl hl (by decide) rfl (fun ls hl => ?_)
  obtain ⟨n_8, h⟩ := h
  exact t_X5_fault_L2 C n_8 0 μ _ _ _ h w (lv_sub hl [1, 0] rfl)
abbrev rm_X5_read : Room := { frames := 3, cells := 0, slots := 0, locals := 67 }
noncomputable def wp_X5_read_L39 (K : Int32 → Mem → Prop) (n : Nat) : Int32 → Mem → Prop :=
  Nat.rec (motive := fun _ => Int32 → Mem → Prop) (fun _ _ => False) (fun _ ih v1 μ =>
    (((μ 287 8) ≤ v1 → (∀ m_7, m_7 = up2 μ 287 8 0 → K (m_7 288 4) m_7)) ∧ (¬ (μ 287 8) ≤ v1 → (vp_in (v1 + 1) 60 ∧ (vp_in v1 60 ∧ ((¬ (μ 294 v1.toNatClampNeg) = 117 → (wp_X5_comes ((μ 294 (v1 + 1).toNatClampNeg) - 48) 0 μ (fun m_10 => ih (v1 + 2) m_10))) ∧ ((μ 294 v1.toNatClampNeg) = 117 → (wp_X5_comes ((μ 294 (v1 + 1).toNatClampNeg) - 48) 1 μ (fun m_11 => ih (v1 + 2) m_11))))))))) n
theorem wp_X5_read_L39_s (K : Int32 → Mem → Prop) (n : Nat) (v1 : Int32) (μ : Mem) : wp_X5_read_L39 K (n + 1) v1 μ = (
    let ih := wp_X5_read_L39 K n
    (((μ 287 8) ≤ v1 → (∀ m_7, m_7 = up2 μ 287 8 0 → K (m_7 288 4) m_7)) ∧ (¬ (μ 287 8) ≤ v1 → (vp_in (v1 + 1) 60 ∧ (vp_in v1 60 ∧ ((¬ (μ 294 v1.toNatClampNeg) = 117 → (wp_X5_comes ((μ 294 (v1 + 1).toNatClampNeg) - 48) 0 μ (fun m_10 => ih (v1 + 2) m_10))) ∧ ((μ 294 v1.toNatClampNeg) = 117 → (wp_X5_comes ((μ 294 (v1 + 1).toNatClampNeg) - 48) 1 μ (fun m_11 => ih (v1 + 2) m_11))))))))) := rfl
noncomputable def wp_X5_read  (μ : Mem) (K : Int32 → Mem → Prop) : Prop :=
    (wp_X5_fault μ (fun r_2 m_1 => ((r_2 = (-6) → ((((m_1 288 4) + ((m_1 287 8) / 2)) ≤ 24 → (wp_X5_changes m_1 (fun m_5 => (∃ n, wp_X5_read_L39 K n 0 m_5)))) ∧ (¬ ((m_1 288 4) + ((m_1 287 8) / 2)) ≤ 24 → K (-4) m_1))) ∧ (¬ r_2 = (-6) → K (-3) m_1))))
set_option maxHeartbeats 4000000 in
set_option maxRecDepth 100000 in
theorem t_X5_read_L39 {g : Gv} {ad : Nat → Nat} {l : Launch} {p : Program} {e : Env} {s : State} {m : MethodId} {args : Array Value} {below : List Frame} {meth : Method} {c : Code} (C : Cx g p s m args meth c "StairBowsModel" cX5_read 2 (some .int))   {K : Int32 → Mem → Prop}    : ∀ (n : Nat) (v1 : Int32) (μ : Mem) (H : Heap) (locs : List Loc) (ls : Array Slot), wp_X5_read_L39 K n v1 μ → Wd g ad μ (Aw ad s.heap.size) s H locs → lv_has ls 2 [(0, .ref (ad 287)), (1, .int v1)] → W p l e rm_X5_read s m args below meth c H locs 0 0 (MQ below (PostI g ad s.heap.size K) args s 0 0 (Aw ad s.heap.size)) (F0 m 39 ls []) := by
  obtain ⟨hx, hb, hml, -, hts, hown, -, -, hN⟩ := id C
  intro n
  induction n with
  | zero =>
    intro v1 μ H locs ls h w hl
    exact (show False from h).elim
  | succ n ih =>
    intro v1 μ H locs ls h w hl
    rw [wp_X5_read_L39_s] at h
    dsimp only at h
    refine lv_iload_n hx hb dX5_read_39 rfl (lv_at hl 1 rfl) ?_
    refine lv_aload_n hx hb dX5_read_40 rfl (lv_at hl 0 rfl) ?_
    refine x_getM C w (k := 8) (v := .int (μ 287 8)) (by decide) rfl mf_StairBowsModel_121 dX5_read_41 ?_
    refine lv_icmp_ge (tgt := 84) hx hb dX5_read_44 (by decide) (fun c_6 => ?_) (fun c_6 => ?_)
    · have h := h.1 c_6
      refine lv_aload_n hx hb dX5_read_84 rfl (lv_at hl 0 rfl) ?_
      refine lv_iconst (v := 0) hx hb dX5_read_85 (by decide) ?_
      refine x_putM C w (k := 8) (by decide) rfl mf_StairBowsModel_121 rfl rfl dX5_read_86 (fun m_7 e_8 H locs w => ?_)
      have h := h m_7 e_8
      refine lv_aload_n hx hb dX5_read_89 rfl (lv_at hl 0 rfl) ?_
      refine x_getM C w (k := 0) (v := .ref (ad 288)) (by decide) rfl mf_StairBowsModel_7 dX5_read_90 ?_
      refine lv_iconst (v := 4) hx hb dX5_read_93 (by decide) ?_
      refine x_iald C w (i := 288) (K := 20) (j := 4) (n := 225) (jn := 4) rfl (rfl : kd 288 = 20) (by decide) rfl (show vp_in 4 225 from vp_lit (by decide) (by decide)) dX5_read_94 ?_
      exact x_iret C w h dX5_read_95
    · have h := h.2 c_6
      refine lv_aload_n hx hb dX5_read_47 rfl (lv_at hl 0 rfl) ?_
      refine lv_aload_n hx hb dX5_read_48 rfl (lv_at hl 0 rfl) ?_
      refine x_getM C w (k := 7) (v := .ref (ad 294)) (by decide) rfl mf_StairBowsModel_28 dX5_read_49 ?_
      refine lv_iload_n hx hb dX5_read_52 rfl (lv_at hl 1 rfl) ?_
      refine lv_iconst (v := 1) hx hb dX5_read_53 (by decide) ?_
      refine lv_iadd hx hb dX5_read_54 ?_
      refine x_iald C w (i := 294) (K := 26) (j := (v1 + 1)) (n := 60) (jn := (v1 + 1).toNatClampNeg) rfl (rfl : kd 294 = 26) (by decide) rfl (show vp_in (v1 + 1) 60 from h.1) dX5_read_55 ?_
      have h := h.2
      refine lv_bipush (v := 48) hx hb dX5_read_56 (by decide) ?_
      refine lv_isub hx hb dX5_read_58 ?_
      refine lv_aload_n hx hb dX5_read_59 rfl (lv_at hl 0 rfl) ?_
      refine x_getM C w (k := 7) (v := .ref (ad 294)) (by decide) rfl mf_StairBowsModel_28 dX5_read_60 ?_
      refine lv_iload_n hx hb dX5_read_63 rfl (lv_at hl 1 rfl) ?_
      refine x_iald C w (i := 294) (K := 26) (j := v1) (n := 60) (jn := v1.toNatClampNeg) rfl (rfl : kd 294 = 26) (by decide) rfl (show vp_in v1 60 from h.1) dX5_read_64 ?_
      have h := h.2
      refine lv_bipush (v := 117) hx hb dX5_read_65 (by decide) ?_
      refine lv_icmp_ne (tgt := 74) hx hb dX5_read_67 (by decide) (fun c_9 => ?_) (fun c_9 => ?_)
      · have h := h.1 c_9
        refine lv_iconst (v := 0) hx hb dX5_read_74 (by decide) ?_
        refine x_callv C w (x_runV (i := 287) (As := [.int ((μ 294 (v1 + 1).toNatClampNeg) - 48), .int 0]) (rest := []) C w (rfl : kd 287 = 7) (by decide) (ci := 5) rfl rfl rfl me_X5_comes ml_StairBowsModel_115 (c_X5_comes l g ad μ _ ((μ 294 (v1 + 1).toNatClampNeg) - 48) 0 h) ⟨rfl, rfl⟩ ⟨Nat.le_of_ble_eq_true rfl, Nat.le_of_ble_eq_true rfl⟩ rfl hl.1 rfl (Nat.le_of_ble_eq_true rfl) dX5_read_75 ⟨Nat.le_of_ble_eq_true rfl, Nat.le_of_ble_eq_true rfl⟩) (fun m_10 h H locs w => ?_)
        refine lv_iinc (v := (v1 + 2)) (lv' := [(1, .int (v1 + 2)), (0, .ref (ad 287))]) hx hb dX5_read_78 hl (k := 1) rfl rfl (by decide) rfl (fun ls hl => ?_)
        refine lv_goto (tgt := 39) hx hb dX5_read_81 (by decide) ?_
        exact ih (v1 + 2) m_10 _ _ _ h w (lv_sub hl [1, 0] rfl)
      · have h := h.2 c_9
        refine lv_iconst (v := 1) hx hb dX5_read_70 (by decide) ?_
        refine lv_goto (tgt := 75) hx hb dX5_read_71 (by decide) ?_
        refine x_callv C w (x_runV (i := 287) (As := [.int ((μ 294 (v1 + 1).toNatClampNeg) - 48), .int 1]) (rest := []) C w (rfl : kd 287 = 7) (by decide) (ci := 5) rfl rfl rfl me_X5_comes ml_StairBowsModel_115 (c_X5_comes l g ad μ _ ((μ 294 (v1 + 1).toNatClampNeg) - 48) 1 h) ⟨rfl, rfl⟩ ⟨Nat.le_of_ble_eq_true rfl, Nat.le_of_ble_eq_true rfl⟩ rfl hl.1 rfl (Nat.le_of_ble_eq_true rfl) dX5_read_75 ⟨Nat.le_of_ble_eq_true rfl, Nat.le_of_ble_eq_true rfl⟩) (fun m_11 h H locs w => ?_)
        refine lv_iinc (v := (v1 + 2)) (lv' := [(1, .int (v1 + 2)), (0, .ref (ad 287))]) hx hb dX5_read_78 hl (k := 1) rfl rfl (by decide) rfl (fun ls hl => ?_)
        refine lv_goto (tgt := 39) hx hb dX5_read_81 (by decide) ?_
        exact ih (v1 + 2) m_11 _ _ _ h w (lv_sub hl [1, 0] rfl)
set_option maxHeartbeats 4000000 in
set_option maxRecDepth 100000 in
theorem c_X5_read (l : Launch) (g : Gv) (ad : Nat → Nat) (μ : Mem) (sz : Nat)  {K : Int32 → Mem → Prop} (h : wp_X5_read μ K) : Met l yX5_read (wX yX5_read cX5_read 2 (some .int)) rm_X5_read (Pre g ad μ sz [.ref (ad 287)]) (PostI g ad sz K) 0 0 (Aw ad sz) := by
  refine Met.ofW (cc := cX5_read) (maxL := 2) (ret := (some .int)) (by decide) rfl ?_
  intro p e s m args below meth c s₁ B hml hv
  obtain ⟨rfl, rfl, C, w⟩ := x_start B hml hv
  obtain ⟨hx, hb, hml, -, hts, hown, -, -, hN⟩ := id C
  have hl := lv_entry ([.ref (ad 287)]) (n := 2) (Nat.le_of_ble_eq_true rfl)
  rw [lg_entry_eq]
  generalize (lg_sl ([.ref (ad 287)]) ++ List.replicate (2 - (lg_sl ([.ref (ad 287)])).length) Slot.unset).toArray = ls at hl ⊢
  have hl : lv_has ls 2 [(0, .ref (ad 287))] := hl
  show W p l e rm_X5_read s m _ below meth c s.heap [] 0 0 _ _
  unfold wp_X5_read at h
  refine lv_aload_n hx hb dX5_read_0 rfl (lv_at hl 0 rfl) ?_
  refine x_calli C w (x_runV (i := 287) (As := []) (rest := []) C w (rfl : kd 287 = 7) (by decide) (ci := 5) rfl rfl rfl me_X5_fault ml_StairBowsModel_118 (c_X5_fault l g ad μ _  h) ⟨rfl, rfl⟩ ⟨Nat.le_of_ble_eq_true rfl, Nat.le_of_ble_eq_true rfl⟩ rfl hl.1 rfl (Nat.le_of_ble_eq_true rfl) dX5_read_1 ⟨Nat.le_of_ble_eq_true rfl, Nat.le_of_ble_eq_true rfl⟩) (fun r_2 m_1 h H locs w => ?_)
  refine lv_bipush (v := -6) hx hb dX5_read_4 (by decide) ?_
  refine lv_icmp_eq (tgt := 12) hx hb dX5_read_6 (by decide) (fun c_3 => ?_) (fun c_3 => ?_)
  · have h := h.1 c_3
    refine lv_aload_n hx hb dX5_read_12 rfl (lv_at hl 0 rfl) ?_
    refine x_getM C w (k := 0) (v := .ref (ad 288)) (by decide) rfl mf_StairBowsModel_7 dX5_read_13 ?_
    refine lv_iconst (v := 4) hx hb dX5_read_16 (by decide) ?_
    refine x_iald C w (i := 288) (K := 20) (j := 4) (n := 225) (jn := 4) rfl (rfl : kd 288 = 20) (by decide) rfl (show vp_in 4 225 from vp_lit (by decide) (by decide)) dX5_read_17 ?_
    refine lv_aload_n hx hb dX5_read_18 rfl (lv_at hl 0 rfl) ?_
    refine x_getM C w (k := 8) (v := .int (m_1 287 8)) (by decide) rfl mf_StairBowsModel_121 dX5_read_19 ?_
    refine lv_iconst (v := 2) hx hb dX5_read_22 (by decide) ?_
    refine lv_idiv hx hb dX5_read_23 (by decide) ?_
    refine lv_iadd hx hb dX5_read_24 ?_
    refine lv_bipush (v := 24) hx hb dX5_read_25 (by decide) ?_
    refine lv_icmp_le (tgt := 33) hx hb dX5_read_27 (by decide) (fun c_4 => ?_) (fun c_4 => ?_)
    · have h := h.1 c_4
      refine lv_aload_n hx hb dX5_read_33 rfl (lv_at hl 0 rfl) ?_
      refine x_callv C w (x_runV (i := 287) (As := []) (rest := []) C w (rfl : kd 287 = 7) (by decide) (ci := 5) rfl rfl rfl me_X5_changes ml_StairBowsModel_108 (c_X5_changes l g ad m_1 _  h) ⟨rfl, rfl⟩ ⟨Nat.le_of_ble_eq_true rfl, Nat.le_of_ble_eq_true rfl⟩ rfl hl.1 rfl (Nat.le_of_ble_eq_true rfl) dX5_read_34 ⟨Nat.le_of_ble_eq_true rfl, Nat.le_of_ble_eq_true rfl⟩) (fun m_5 h H locs w => ?_)
      refine lv_iconst (v := 0) hx hb dX5_read_37 (by decide) ?_
      refine lv_istore_n (lv' := [(1, .int 0), (0, .ref (ad 287))]) hx hb dX5_read_38 rfl hl (by decide) rfl (fun ls hl => ?_)
      obtain ⟨n_12, h⟩ := h
      exact t_X5_read_L39 C n_12 0 m_5 _ _ _ h w (lv_sub hl [1, 0] rfl)
    · have h := h.2 c_4
      refine lv_bipush (v := -4) hx hb dX5_read_30 (by decide) ?_
      exact x_iret C w h dX5_read_32
  · have h := h.2 c_3
    refine lv_bipush (v := -3) hx hb dX5_read_9 (by decide) ?_
    exact x_iret C w h dX5_read_11
abbrev rm_X5_turn : Room := { frames := 2, cells := 0, slots := 0, locals := 46 }
noncomputable def wp_X5_turn (a1 : Int32) (μ : Mem) (K : Int32 → Mem → Prop) : Prop :=
    (wp_X5_isPerson a1 μ (fun r_2 m_1 => ((¬ r_2 = 0 → (wp_X5_get a1 2 m_1 (fun r_5 m_4 => ((r_5 = 1 → (wp_X5_changes m_4 (fun m_7 => (wp_X5_get a1 1 m_7 (fun r_9 m_8 => (wp_X5_lays a1 1 (1 - r_9) m_8 (fun m_10 => (wp_X5_get a1 1 m_10 (fun r_12 m_11 => K r_12 m_11))))))))) ∧ (¬ r_5 = 1 → K (-5) m_4))))) ∧ (r_2 = 0 → K (-1) m_1))))
set_option maxHeartbeats 4000000 in
set_option maxRecDepth 100000 in
theorem c_X5_turn (l : Launch) (g : Gv) (ad : Nat → Nat) (μ : Mem) (sz : Nat) (a1 : Int32) {K : Int32 → Mem → Prop} (h : wp_X5_turn a1 μ K) : Met l yX5_turn (wX yX5_turn cX5_turn 2 (some .int)) rm_X5_turn (Pre g ad μ sz [.ref (ad 287), .int a1]) (PostI g ad sz K) 0 0 (Aw ad sz) := by
  refine Met.ofW (cc := cX5_turn) (maxL := 2) (ret := (some .int)) (by decide) rfl ?_
  intro p e s m args below meth c s₁ B hml hv
  obtain ⟨rfl, rfl, C, w⟩ := x_start B hml hv
  obtain ⟨hx, hb, hml, -, hts, hown, -, -, hN⟩ := id C
  have hl := lv_entry ([.ref (ad 287), .int a1]) (n := 2) (Nat.le_of_ble_eq_true rfl)
  rw [lg_entry_eq]
  generalize (lg_sl ([.ref (ad 287), .int a1]) ++ List.replicate (2 - (lg_sl ([.ref (ad 287), .int a1])).length) Slot.unset).toArray = ls at hl ⊢
  have hl : lv_has ls 2 [(0, .ref (ad 287)), (1, .int a1)] := hl
  show W p l e rm_X5_turn s m _ below meth c s.heap [] 0 0 _ _
  unfold wp_X5_turn at h
  refine lv_aload_n hx hb dX5_turn_0 rfl (lv_at hl 0 rfl) ?_
  refine lv_iload_n hx hb dX5_turn_1 rfl (lv_at hl 1 rfl) ?_
  refine x_calli C w (x_runV (i := 287) (As := [.int a1]) (rest := []) C w (rfl : kd 287 = 7) (by decide) (ci := 5) rfl rfl rfl me_X5_isPerson ml_StairBowsModel_124 (c_X5_isPerson l g ad μ _ a1 h) ⟨rfl, rfl⟩ ⟨Nat.le_of_ble_eq_true rfl, Nat.le_of_ble_eq_true rfl⟩ rfl hl.1 rfl (Nat.le_of_ble_eq_true rfl) dX5_turn_2 ⟨Nat.le_of_ble_eq_true rfl, Nat.le_of_ble_eq_true rfl⟩) (fun r_2 m_1 h H locs w => ?_)
  refine lv_if_ne (tgt := 10) hx hb dX5_turn_5 (by decide) (fun c_3 => ?_) (fun c_3 => ?_)
  · have h := h.1 c_3
    refine lv_aload_n hx hb dX5_turn_10 rfl (lv_at hl 0 rfl) ?_
    refine lv_iload_n hx hb dX5_turn_11 rfl (lv_at hl 1 rfl) ?_
    refine lv_iconst (v := 2) hx hb dX5_turn_12 (by decide) ?_
    refine x_calli C w (x_runV (i := 287) (As := [.int a1, .int 2]) (rest := []) C w (rfl : kd 287 = 7) (by decide) (ci := 5) rfl rfl rfl me_X5_get ml_StairBowsModel_41 (c_X5_get l g ad m_1 _ a1 2 h) ⟨rfl, rfl⟩ ⟨Nat.le_of_ble_eq_true rfl, Nat.le_of_ble_eq_true rfl⟩ rfl hl.1 rfl (Nat.le_of_ble_eq_true rfl) dX5_turn_13 ⟨Nat.le_of_ble_eq_true rfl, Nat.le_of_ble_eq_true rfl⟩) (fun r_5 m_4 h H locs w => ?_)
    refine lv_iconst (v := 1) hx hb dX5_turn_16 (by decide) ?_
    refine lv_icmp_eq (tgt := 23) hx hb dX5_turn_17 (by decide) (fun c_6 => ?_) (fun c_6 => ?_)
    · have h := h.1 c_6
      refine lv_aload_n hx hb dX5_turn_23 rfl (lv_at hl 0 rfl) ?_
      refine x_callv C w (x_runV (i := 287) (As := []) (rest := []) C w (rfl : kd 287 = 7) (by decide) (ci := 5) rfl rfl rfl me_X5_changes ml_StairBowsModel_108 (c_X5_changes l g ad m_4 _  h) ⟨rfl, rfl⟩ ⟨Nat.le_of_ble_eq_true rfl, Nat.le_of_ble_eq_true rfl⟩ rfl hl.1 rfl (Nat.le_of_ble_eq_true rfl) dX5_turn_24 ⟨Nat.le_of_ble_eq_true rfl, Nat.le_of_ble_eq_true rfl⟩) (fun m_7 h H locs w => ?_)
      refine lv_aload_n hx hb dX5_turn_27 rfl (lv_at hl 0 rfl) ?_
      refine lv_iload_n hx hb dX5_turn_28 rfl (lv_at hl 1 rfl) ?_
      refine lv_iconst (v := 1) hx hb dX5_turn_29 (by decide) ?_
      refine lv_iconst (v := 1) hx hb dX5_turn_30 (by decide) ?_
      refine lv_aload_n hx hb dX5_turn_31 rfl (lv_at hl 0 rfl) ?_
      refine lv_iload_n hx hb dX5_turn_32 rfl (lv_at hl 1 rfl) ?_
      refine lv_iconst (v := 1) hx hb dX5_turn_33 (by decide) ?_
      refine x_calli C w (x_runV (i := 287) (As := [.int a1, .int 1]) (rest := [.int 1, .int 1, .int a1, .ref (ad 287)]) C w (rfl : kd 287 = 7) (by decide) (ci := 5) rfl rfl rfl me_X5_get ml_StairBowsModel_41 (c_X5_get l g ad m_7 _ a1 1 h) ⟨rfl, rfl⟩ ⟨Nat.le_of_ble_eq_true rfl, Nat.le_of_ble_eq_true rfl⟩ rfl hl.1 rfl (Nat.le_of_ble_eq_true rfl) dX5_turn_34 ⟨Nat.le_of_ble_eq_true rfl, Nat.le_of_ble_eq_true rfl⟩) (fun r_9 m_8 h H locs w => ?_)
      refine lv_isub hx hb dX5_turn_37 ?_
      refine x_callv C w (x_runV (i := 287) (As := [.int a1, .int 1, .int (1 - r_9)]) (rest := []) C w (rfl : kd 287 = 7) (by decide) (ci := 5) rfl rfl rfl me_X5_lays ml_StairBowsModel_63 (c_X5_lays l g ad m_8 _ a1 1 (1 - r_9) h) ⟨rfl, rfl⟩ ⟨Nat.le_of_ble_eq_true rfl, Nat.le_of_ble_eq_true rfl⟩ rfl hl.1 rfl (Nat.le_of_ble_eq_true rfl) dX5_turn_38 ⟨Nat.le_of_ble_eq_true rfl, Nat.le_of_ble_eq_true rfl⟩) (fun m_10 h H locs w => ?_)
      refine lv_aload_n hx hb dX5_turn_41 rfl (lv_at hl 0 rfl) ?_
      refine lv_iload_n hx hb dX5_turn_42 rfl (lv_at hl 1 rfl) ?_
      refine lv_iconst (v := 1) hx hb dX5_turn_43 (by decide) ?_
      refine x_calli C w (x_runV (i := 287) (As := [.int a1, .int 1]) (rest := []) C w (rfl : kd 287 = 7) (by decide) (ci := 5) rfl rfl rfl me_X5_get ml_StairBowsModel_41 (c_X5_get l g ad m_10 _ a1 1 h) ⟨rfl, rfl⟩ ⟨Nat.le_of_ble_eq_true rfl, Nat.le_of_ble_eq_true rfl⟩ rfl hl.1 rfl (Nat.le_of_ble_eq_true rfl) dX5_turn_44 ⟨Nat.le_of_ble_eq_true rfl, Nat.le_of_ble_eq_true rfl⟩) (fun r_12 m_11 h H locs w => ?_)
      exact x_iret C w h dX5_turn_47
    · have h := h.2 c_6
      refine lv_bipush (v := -5) hx hb dX5_turn_20 (by decide) ?_
      exact x_iret C w h dX5_turn_22
  · have h := h.2 c_3
    refine lv_iconst (v := -1) hx hb dX5_turn_8 (by decide) ?_
    exact x_iret C w h dX5_turn_9
abbrev rm_X5_pass : Room := { frames := 7, cells := 0, slots := 0, locals := 158 }
noncomputable def wp_X5_pass_L44 (v1 : Int32) (v2 : Int32) (K : Int32 → Mem → Prop) (n : Nat) : Int32 → Mem → Prop :=
  Nat.rec (motive := fun _ => Int32 → Mem → Prop) (fun _ _ => False) (fun _ ih v3 μ =>
    ((v1 ≤ v3 → (wp_X5_thatAre 2 μ (fun r_10 m_9 => K (r_10 - v2) m_9))) ∧ (¬ v1 ≤ v3 → (wp_X5_ticks μ (fun m_11 => ih (v3 + 1) m_11))))) n
theorem wp_X5_pass_L44_s (v1 : Int32) (v2 : Int32) (K : Int32 → Mem → Prop) (n : Nat) (v3 : Int32) (μ : Mem) : wp_X5_pass_L44 v1 v2 K (n + 1) v3 μ = (
    let ih := wp_X5_pass_L44 v1 v2 K n
    ((v1 ≤ v3 → (wp_X5_thatAre 2 μ (fun r_10 m_9 => K (r_10 - v2) m_9))) ∧ (¬ v1 ≤ v3 → (wp_X5_ticks μ (fun m_11 => ih (v3 + 1) m_11))))) := rfl
noncomputable def wp_X5_pass (a1 : Int32) (μ : Mem) (K : Int32 → Mem → Prop) : Prop :=
    (wp_X5_in (Int32.toInt64 a1) 1 99 μ (fun r_2 m_1 => ((¬ r_2 = 0 → ((((m_1 288 3) + a1) ≤ 9999 → (wp_X5_changes m_1 (fun m_5 => (wp_X5_thatAre 2 m_5 (fun r_7 m_6 => (∃ n, wp_X5_pass_L44 a1 r_7 K n 0 m_6)))))) ∧ (¬ ((m_1 288 3) + a1) ≤ 9999 → K (-4) m_1))) ∧ (r_2 = 0 → K (-2) m_1))))
set_option maxHeartbeats 4000000 in
set_option maxRecDepth 100000 in
theorem t_X5_pass_L44 {g : Gv} {ad : Nat → Nat} {l : Launch} {p : Program} {e : Env} {s : State} {m : MethodId} {args : Array Value} {below : List Frame} {meth : Method} {c : Code} (C : Cx g p s m args meth c "StairBowsModel" cX5_pass 4 (some .int)) {v1 : Int32} {v2 : Int32}  {K : Int32 → Mem → Prop}    : ∀ (n : Nat) (v3 : Int32) (μ : Mem) (H : Heap) (locs : List Loc) (ls : Array Slot), wp_X5_pass_L44 v1 v2 K n v3 μ → Wd g ad μ (Aw ad s.heap.size) s H locs → lv_has ls 4 [(0, .ref (ad 287)), (1, .int v1), (2, .int v2), (3, .int v3)] → W p l e rm_X5_pass s m args below meth c H locs 0 0 (MQ below (PostI g ad s.heap.size K) args s 0 0 (Aw ad s.heap.size)) (F0 m 44 ls []) := by
  obtain ⟨hx, hb, hml, -, hts, hown, -, -, hN⟩ := id C
  intro n
  induction n with
  | zero =>
    intro v3 μ H locs ls h w hl
    exact (show False from h).elim
  | succ n ih =>
    intro v3 μ H locs ls h w hl
    rw [wp_X5_pass_L44_s] at h
    dsimp only at h
    refine lv_iload_n hx hb dX5_pass_44 rfl (lv_at hl 3 rfl) ?_
    refine lv_iload_n hx hb dX5_pass_45 rfl (lv_at hl 1 rfl) ?_
    refine lv_icmp_ge (tgt := 59) hx hb dX5_pass_46 (by decide) (fun c_8 => ?_) (fun c_8 => ?_)
    · have h := h.1 c_8
      refine lv_aload_n hx hb dX5_pass_59 rfl (lv_at hl 0 rfl) ?_
      refine lv_iconst (v := 2) hx hb dX5_pass_60 (by decide) ?_
      refine x_calli C w (x_runV (i := 287) (As := [.int 2]) (rest := []) C w (rfl : kd 287 = 7) (by decide) (ci := 5) rfl rfl rfl me_X5_thatAre ml_StairBowsModel_129 (c_X5_thatAre l g ad μ _ 2 h) ⟨rfl, rfl⟩ ⟨Nat.le_of_ble_eq_true rfl, Nat.le_of_ble_eq_true rfl⟩ rfl hl.1 rfl (Nat.le_of_ble_eq_true rfl) dX5_pass_61 ⟨Nat.le_of_ble_eq_true rfl, Nat.le_of_ble_eq_true rfl⟩) (fun r_10 m_9 h H locs w => ?_)
      refine lv_iload_n hx hb dX5_pass_64 rfl (lv_at hl 2 rfl) ?_
      refine lv_isub hx hb dX5_pass_65 ?_
      exact x_iret C w h dX5_pass_66
    · have h := h.2 c_8
      refine lv_aload_n hx hb dX5_pass_49 rfl (lv_at hl 0 rfl) ?_
      refine x_callv C w (x_runV (i := 287) (As := []) (rest := []) C w (rfl : kd 287 = 7) (by decide) (ci := 5) rfl rfl rfl me_X5_ticks ml_StairBowsModel_132 (c_X5_ticks l g ad μ _  h) ⟨rfl, rfl⟩ ⟨Nat.le_of_ble_eq_true rfl, Nat.le_of_ble_eq_true rfl⟩ rfl hl.1 rfl (Nat.le_of_ble_eq_true rfl) dX5_pass_50 ⟨Nat.le_of_ble_eq_true rfl, Nat.le_of_ble_eq_true rfl⟩) (fun m_11 h H locs w => ?_)
      refine lv_iinc (v := (v3 + 1)) (lv' := [(3, .int (v3 + 1)), (0, .ref (ad 287)), (1, .int v1), (2, .int v2)]) hx hb dX5_pass_53 hl (k := 3) rfl rfl (by decide) rfl (fun ls hl => ?_)
      refine lv_goto (tgt := 44) hx hb dX5_pass_56 (by decide) ?_
      exact ih (v3 + 1) m_11 _ _ _ h w (lv_sub hl [1, 2, 3, 0] rfl)
set_option maxHeartbeats 4000000 in
set_option maxRecDepth 100000 in
theorem c_X5_pass (l : Launch) (g : Gv) (ad : Nat → Nat) (μ : Mem) (sz : Nat) (a1 : Int32) {K : Int32 → Mem → Prop} (h : wp_X5_pass a1 μ K) : Met l yX5_pass (wX yX5_pass cX5_pass 4 (some .int)) rm_X5_pass (Pre g ad μ sz [.ref (ad 287), .int a1]) (PostI g ad sz K) 0 0 (Aw ad sz) := by
  refine Met.ofW (cc := cX5_pass) (maxL := 4) (ret := (some .int)) (by decide) rfl ?_
  intro p e s m args below meth c s₁ B hml hv
  obtain ⟨rfl, rfl, C, w⟩ := x_start B hml hv
  obtain ⟨hx, hb, hml, -, hts, hown, -, -, hN⟩ := id C
  have hl := lv_entry ([.ref (ad 287), .int a1]) (n := 4) (Nat.le_of_ble_eq_true rfl)
  rw [lg_entry_eq]
  generalize (lg_sl ([.ref (ad 287), .int a1]) ++ List.replicate (4 - (lg_sl ([.ref (ad 287), .int a1])).length) Slot.unset).toArray = ls at hl ⊢
  have hl : lv_has ls 4 [(0, .ref (ad 287)), (1, .int a1)] := hl
  show W p l e rm_X5_pass s m _ below meth c s.heap [] 0 0 _ _
  unfold wp_X5_pass at h
  refine lv_iload_n hx hb dX5_pass_0 rfl (lv_at hl 1 rfl) ?_
  refine lv_i2l (v := (Int32.toInt64 a1)) hx hb dX5_pass_1 rfl ?_
  refine lv_lconst (v := 1) hx hb dX5_pass_2 (by decide) ?_
  refine lv_ldc2 (v := 99) hx hb hown (hts _ mk_StairBowsModel_127) dX5_pass_3 ?_
  refine x_calli C w (x_runS (As := [.long (Int32.toInt64 a1), .long 1, .long 99]) (rest := []) C w me_X5_in ml_StairBowsModel_35 (c_X5_in l g ad μ _ (Int32.toInt64 a1) 1 99 h) ⟨rfl, rfl⟩ ⟨Nat.le_of_ble_eq_true rfl, Nat.le_of_ble_eq_true rfl⟩ rfl hl.1 rfl (Nat.le_of_ble_eq_true rfl) dX5_pass_6 ⟨Nat.le_of_ble_eq_true rfl, Nat.le_of_ble_eq_true rfl⟩) (fun r_2 m_1 h H locs w => ?_)
  refine lv_if_ne (tgt := 15) hx hb dX5_pass_9 (by decide) (fun c_3 => ?_) (fun c_3 => ?_)
  · have h := h.1 c_3
    refine lv_aload_n hx hb dX5_pass_15 rfl (lv_at hl 0 rfl) ?_
    refine x_getM C w (k := 0) (v := .ref (ad 288)) (by decide) rfl mf_StairBowsModel_7 dX5_pass_16 ?_
    refine lv_iconst (v := 3) hx hb dX5_pass_19 (by decide) ?_
    refine x_iald C w (i := 288) (K := 20) (j := 3) (n := 225) (jn := 3) rfl (rfl : kd 288 = 20) (by decide) rfl (show vp_in 3 225 from vp_lit (by decide) (by decide)) dX5_pass_20 ?_
    refine lv_iload_n hx hb dX5_pass_21 rfl (lv_at hl 1 rfl) ?_
    refine lv_iadd hx hb dX5_pass_22 ?_
    refine lv_sipush (v := 9999) hx hb dX5_pass_23 (by decide) ?_
    refine lv_icmp_le (tgt := 32) hx hb dX5_pass_26 (by decide) (fun c_4 => ?_) (fun c_4 => ?_)
    · have h := h.1 c_4
      refine lv_aload_n hx hb dX5_pass_32 rfl (lv_at hl 0 rfl) ?_
      refine x_callv C w (x_runV (i := 287) (As := []) (rest := []) C w (rfl : kd 287 = 7) (by decide) (ci := 5) rfl rfl rfl me_X5_changes ml_StairBowsModel_108 (c_X5_changes l g ad m_1 _  h) ⟨rfl, rfl⟩ ⟨Nat.le_of_ble_eq_true rfl, Nat.le_of_ble_eq_true rfl⟩ rfl hl.1 rfl (Nat.le_of_ble_eq_true rfl) dX5_pass_33 ⟨Nat.le_of_ble_eq_true rfl, Nat.le_of_ble_eq_true rfl⟩) (fun m_5 h H locs w => ?_)
      refine lv_aload_n hx hb dX5_pass_36 rfl (lv_at hl 0 rfl) ?_
      refine lv_iconst (v := 2) hx hb dX5_pass_37 (by decide) ?_
      refine x_calli C w (x_runV (i := 287) (As := [.int 2]) (rest := []) C w (rfl : kd 287 = 7) (by decide) (ci := 5) rfl rfl rfl me_X5_thatAre ml_StairBowsModel_129 (c_X5_thatAre l g ad m_5 _ 2 h) ⟨rfl, rfl⟩ ⟨Nat.le_of_ble_eq_true rfl, Nat.le_of_ble_eq_true rfl⟩ rfl hl.1 rfl (Nat.le_of_ble_eq_true rfl) dX5_pass_38 ⟨Nat.le_of_ble_eq_true rfl, Nat.le_of_ble_eq_true rfl⟩) (fun r_7 m_6 h H locs w => ?_)
      refine lv_istore_n (lv' := [(2, .int r_7), (0, .ref (ad 287)), (1, .int a1)]) hx hb dX5_pass_41 rfl hl (by decide) rfl (fun ls hl => ?_)
      refine lv_iconst (v := 0) hx hb dX5_pass_42 (by decide) ?_
      refine lv_istore_n (lv' := [(3, .int 0), (2, .int r_7), (0, .ref (ad 287)), (1, .int a1)]) hx hb dX5_pass_43 rfl hl (by decide) rfl (fun ls hl => ?_)
      obtain ⟨n_12, h⟩ := h
      exact t_X5_pass_L44 C n_12 0 m_6 _ _ _ h w (lv_sub hl [2, 3, 1, 0] rfl)
    · have h := h.2 c_4
      refine lv_bipush (v := -4) hx hb dX5_pass_29 (by decide) ?_
      exact x_iret C w h dX5_pass_31
  · have h := h.2 c_3
    refine lv_bipush (v := -2) hx hb dX5_pass_12 (by decide) ?_
    exact x_iret C w h dX5_pass_14
abbrev rm_X5_person : Room := { frames := 2, cells := 0, slots := 0, locals := 46 }
noncomputable def wp_X5_person (a1 : Int32) (a2 : Int32) (μ : Mem) (K : Int32 → Mem → Prop) : Prop :=
    (wp_X5_isPerson a1 μ (fun r_2 m_1 => ((¬ r_2 = 0 → (wp_X5_in (Int32.toInt64 a2) 0 8 m_1 (fun r_5 m_4 => ((r_5 = 0 → K (-2) m_4) ∧ (¬ r_5 = 0 → (wp_X5_get a1 a2 m_4 (fun r_8 m_7 => K r_8 m_7))))))) ∧ (r_2 = 0 → K (-1) m_1))))
set_option maxHeartbeats 4000000 in
set_option maxRecDepth 100000 in
theorem c_X5_person (l : Launch) (g : Gv) (ad : Nat → Nat) (μ : Mem) (sz : Nat) (a1 : Int32) (a2 : Int32) {K : Int32 → Mem → Prop} (h : wp_X5_person a1 a2 μ K) : Met l yX5_person (wX yX5_person cX5_person 3 (some .int)) rm_X5_person (Pre g ad μ sz [.ref (ad 287), .int a1, .int a2]) (PostI g ad sz K) 0 0 (Aw ad sz) := by
  refine Met.ofW (cc := cX5_person) (maxL := 3) (ret := (some .int)) (by decide) rfl ?_
  intro p e s m args below meth c s₁ B hml hv
  obtain ⟨rfl, rfl, C, w⟩ := x_start B hml hv
  obtain ⟨hx, hb, hml, -, hts, hown, -, -, hN⟩ := id C
  have hl := lv_entry ([.ref (ad 287), .int a1, .int a2]) (n := 3) (Nat.le_of_ble_eq_true rfl)
  rw [lg_entry_eq]
  generalize (lg_sl ([.ref (ad 287), .int a1, .int a2]) ++ List.replicate (3 - (lg_sl ([.ref (ad 287), .int a1, .int a2])).length) Slot.unset).toArray = ls at hl ⊢
  have hl : lv_has ls 3 [(0, .ref (ad 287)), (1, .int a1), (2, .int a2)] := hl
  show W p l e rm_X5_person s m _ below meth c s.heap [] 0 0 _ _
  unfold wp_X5_person at h
  refine lv_aload_n hx hb dX5_person_0 rfl (lv_at hl 0 rfl) ?_
  refine lv_iload_n hx hb dX5_person_1 rfl (lv_at hl 1 rfl) ?_
  refine x_calli C w (x_runV (i := 287) (As := [.int a1]) (rest := []) C w (rfl : kd 287 = 7) (by decide) (ci := 5) rfl rfl rfl me_X5_isPerson ml_StairBowsModel_124 (c_X5_isPerson l g ad μ _ a1 h) ⟨rfl, rfl⟩ ⟨Nat.le_of_ble_eq_true rfl, Nat.le_of_ble_eq_true rfl⟩ rfl hl.1 rfl (Nat.le_of_ble_eq_true rfl) dX5_person_2 ⟨Nat.le_of_ble_eq_true rfl, Nat.le_of_ble_eq_true rfl⟩) (fun r_2 m_1 h H locs w => ?_)
  refine lv_if_ne (tgt := 10) hx hb dX5_person_5 (by decide) (fun c_3 => ?_) (fun c_3 => ?_)
  · have h := h.1 c_3
    refine lv_iload_n hx hb dX5_person_10 rfl (lv_at hl 2 rfl) ?_
    refine lv_i2l (v := (Int32.toInt64 a2)) hx hb dX5_person_11 rfl ?_
    refine lv_lconst (v := 0) hx hb dX5_person_12 (by decide) ?_
    refine lv_ldc2 (v := 8) hx hb hown (hts _ mk_StairBowsModel_135) dX5_person_13 ?_
    refine x_calli C w (x_runS (As := [.long (Int32.toInt64 a2), .long 0, .long 8]) (rest := []) C w me_X5_in ml_StairBowsModel_35 (c_X5_in l g ad m_1 _ (Int32.toInt64 a2) 0 8 h) ⟨rfl, rfl⟩ ⟨Nat.le_of_ble_eq_true rfl, Nat.le_of_ble_eq_true rfl⟩ rfl hl.1 rfl (Nat.le_of_ble_eq_true rfl) dX5_person_16 ⟨Nat.le_of_ble_eq_true rfl, Nat.le_of_ble_eq_true rfl⟩) (fun r_5 m_4 h H locs w => ?_)
    refine lv_if_eq (tgt := 31) hx hb dX5_person_19 (by decide) (fun c_6 => ?_) (fun c_6 => ?_)
    · have h := h.1 c_6
      refine lv_bipush (v := -2) hx hb dX5_person_31 (by decide) ?_
      exact x_iret C w h dX5_person_33
    · have h := h.2 c_6
      refine lv_aload_n hx hb dX5_person_22 rfl (lv_at hl 0 rfl) ?_
      refine lv_iload_n hx hb dX5_person_23 rfl (lv_at hl 1 rfl) ?_
      refine lv_iload_n hx hb dX5_person_24 rfl (lv_at hl 2 rfl) ?_
      refine x_calli C w (x_runV (i := 287) (As := [.int a1, .int a2]) (rest := []) C w (rfl : kd 287 = 7) (by decide) (ci := 5) rfl rfl rfl me_X5_get ml_StairBowsModel_41 (c_X5_get l g ad m_4 _ a1 a2 h) ⟨rfl, rfl⟩ ⟨Nat.le_of_ble_eq_true rfl, Nat.le_of_ble_eq_true rfl⟩ rfl hl.1 rfl (Nat.le_of_ble_eq_true rfl) dX5_person_25 ⟨Nat.le_of_ble_eq_true rfl, Nat.le_of_ble_eq_true rfl⟩) (fun r_8 m_7 h H locs w => ?_)
      refine lv_goto (tgt := 33) hx hb dX5_person_28 (by decide) ?_
      exact x_iret C w h dX5_person_33
  · have h := h.2 c_3
    refine lv_iconst (v := -1) hx hb dX5_person_8 (by decide) ?_
    exact x_iret C w h dX5_person_9
abbrev rm_X5_highestAt : Room := { frames := 2, cells := 0, slots := 0, locals := 44 }
noncomputable def wp_X5_highestAt_L5 (v1 : Int32) (K : Int32 → Mem → Prop) (n : Nat) : Int32 → Int32 → Mem → Prop :=
  Nat.rec (motive := fun _ => Int32 → Int32 → Mem → Prop) (fun _ _ _ => False) (fun _ ih v2 v3 μ =>
    (((μ 288 4) ≤ v3 → K v2 μ) ∧ (¬ (μ 288 4) ≤ v3 → (wp_X5_isAt v3 v1 μ (fun r_3 m_2 => ((r_3 = 0 → ih v2 (v3 + 1) m_2) ∧ (¬ r_3 = 0 → ((v2 = (-6) → ih v3 (v3 + 1) m_2) ∧ (¬ v2 = (-6) → (wp_X5_get v3 0 m_2 (fun r_7 m_6 => (wp_X5_get v2 0 m_6 (fun r_9 m_8 => ((r_7 ≤ r_9 → ih v2 (v3 + 1) m_8) ∧ (¬ r_7 ≤ r_9 → ih v3 (v3 + 1) m_8))))))))))))))) n
theorem wp_X5_highestAt_L5_s (v1 : Int32) (K : Int32 → Mem → Prop) (n : Nat) (v2 : Int32) (v3 : Int32) (μ : Mem) : wp_X5_highestAt_L5 v1 K (n + 1) v2 v3 μ = (
    let ih := wp_X5_highestAt_L5 v1 K n
    (((μ 288 4) ≤ v3 → K v2 μ) ∧ (¬ (μ 288 4) ≤ v3 → (wp_X5_isAt v3 v1 μ (fun r_3 m_2 => ((r_3 = 0 → ih v2 (v3 + 1) m_2) ∧ (¬ r_3 = 0 → ((v2 = (-6) → ih v3 (v3 + 1) m_2) ∧ (¬ v2 = (-6) → (wp_X5_get v3 0 m_2 (fun r_7 m_6 => (wp_X5_get v2 0 m_6 (fun r_9 m_8 => ((r_7 ≤ r_9 → ih v2 (v3 + 1) m_8) ∧ (¬ r_7 ≤ r_9 → ih v3 (v3 + 1) m_8))))))))))))))) := rfl
noncomputable def wp_X5_highestAt (a1 : Int32) (μ : Mem) (K : Int32 → Mem → Prop) : Prop :=
    (∃ n, wp_X5_highestAt_L5 a1 K n (-6) 0 μ)
set_option maxHeartbeats 4000000 in
set_option maxRecDepth 100000 in
theorem t_X5_highestAt_L5 {g : Gv} {ad : Nat → Nat} {l : Launch} {p : Program} {e : Env} {s : State} {m : MethodId} {args : Array Value} {below : List Frame} {meth : Method} {c : Code} (C : Cx g p s m args meth c "StairBowsModel" cX5_highestAt 4 (some .int)) {v1 : Int32}  {K : Int32 → Mem → Prop}    : ∀ (n : Nat) (v2 : Int32) (v3 : Int32) (μ : Mem) (H : Heap) (locs : List Loc) (ls : Array Slot), wp_X5_highestAt_L5 v1 K n v2 v3 μ → Wd g ad μ (Aw ad s.heap.size) s H locs → lv_has ls 4 [(0, .ref (ad 287)), (1, .int v1), (2, .int v2), (3, .int v3)] → W p l e rm_X5_highestAt s m args below meth c H locs 0 0 (MQ below (PostI g ad s.heap.size K) args s 0 0 (Aw ad s.heap.size)) (F0 m 5 ls []) := by
  obtain ⟨hx, hb, hml, -, hts, hown, -, -, hN⟩ := id C
  intro n
  induction n with
  | zero =>
    intro v2 v3 μ H locs ls h w hl
    exact (show False from h).elim
  | succ n ih =>
    intro v2 v3 μ H locs ls h w hl
    rw [wp_X5_highestAt_L5_s] at h
    dsimp only at h
    refine lv_iload_n hx hb dX5_highestAt_5 rfl (lv_at hl 3 rfl) ?_
    refine lv_aload_n hx hb dX5_highestAt_6 rfl (lv_at hl 0 rfl) ?_
    refine x_getM C w (k := 0) (v := .ref (ad 288)) (by decide) rfl mf_StairBowsModel_7 dX5_highestAt_7 ?_
    refine lv_iconst (v := 4) hx hb dX5_highestAt_10 (by decide) ?_
    refine x_iald C w (i := 288) (K := 20) (j := 4) (n := 225) (jn := 4) rfl (rfl : kd 288 = 20) (by decide) rfl (show vp_in 4 225 from vp_lit (by decide) (by decide)) dX5_highestAt_11 ?_
    refine lv_icmp_ge (tgt := 57) hx hb dX5_highestAt_12 (by decide) (fun c_1 => ?_) (fun c_1 => ?_)
    · have h := h.1 c_1
      refine lv_iload_n hx hb dX5_highestAt_57 rfl (lv_at hl 2 rfl) ?_
      exact x_iret C w h dX5_highestAt_58
    · have h := h.2 c_1
      refine lv_aload_n hx hb dX5_highestAt_15 rfl (lv_at hl 0 rfl) ?_
      refine lv_iload_n hx hb dX5_highestAt_16 rfl (lv_at hl 3 rfl) ?_
      refine lv_iload_n hx hb dX5_highestAt_17 rfl (lv_at hl 1 rfl) ?_
      refine x_calli C w (x_runV (i := 287) (As := [.int v3, .int v1]) (rest := []) C w (rfl : kd 287 = 7) (by decide) (ci := 5) rfl rfl rfl me_X5_isAt ml_StairBowsModel_45 (c_X5_isAt l g ad μ _ v3 v1 h) ⟨rfl, rfl⟩ ⟨Nat.le_of_ble_eq_true rfl, Nat.le_of_ble_eq_true rfl⟩ rfl hl.1 rfl (Nat.le_of_ble_eq_true rfl) dX5_highestAt_18 ⟨Nat.le_of_ble_eq_true rfl, Nat.le_of_ble_eq_true rfl⟩) (fun r_3 m_2 h H locs w => ?_)
      refine lv_if_eq (tgt := 49) hx hb dX5_highestAt_21 (by decide) (fun c_4 => ?_) (fun c_4 => ?_)
      · have h := h.1 c_4
        refine lv_iload_n hx hb dX5_highestAt_49 rfl (lv_at hl 2 rfl) ?_
        refine lv_istore_n (lv' := [(2, .int v2), (0, .ref (ad 287)), (1, .int v1), (3, .int v3)]) hx hb dX5_highestAt_50 rfl hl (by decide) rfl (fun ls hl => ?_)
        refine lv_iinc (v := (v3 + 1)) (lv' := [(3, .int (v3 + 1)), (2, .int v2), (0, .ref (ad 287)), (1, .int v1)]) hx hb dX5_highestAt_51 hl (k := 3) rfl rfl (by decide) rfl (fun ls hl => ?_)
        refine lv_goto (tgt := 5) hx hb dX5_highestAt_54 (by decide) ?_
        exact ih v2 (v3 + 1) m_2 _ _ _ h w (lv_sub hl [2, 3, 1, 0] rfl)
      · have h := h.2 c_4
        refine lv_iload_n hx hb dX5_highestAt_24 rfl (lv_at hl 2 rfl) ?_
        refine lv_bipush (v := -6) hx hb dX5_highestAt_25 (by decide) ?_
        refine lv_icmp_eq (tgt := 45) hx hb dX5_highestAt_27 (by decide) (fun c_5 => ?_) (fun c_5 => ?_)
        · have h := h.1 c_5
          refine lv_iload_n hx hb dX5_highestAt_45 rfl (lv_at hl 3 rfl) ?_
          refine lv_goto (tgt := 50) hx hb dX5_highestAt_46 (by decide) ?_
          refine lv_istore_n (lv' := [(2, .int v3), (0, .ref (ad 287)), (1, .int v1), (3, .int v3)]) hx hb dX5_highestAt_50 rfl hl (by decide) rfl (fun ls hl => ?_)
          refine lv_iinc (v := (v3 + 1)) (lv' := [(3, .int (v3 + 1)), (2, .int v3), (0, .ref (ad 287)), (1, .int v1)]) hx hb dX5_highestAt_51 hl (k := 3) rfl rfl (by decide) rfl (fun ls hl => ?_)
          refine lv_goto (tgt := 5) hx hb dX5_highestAt_54 (by decide) ?_
          exact ih v3 (v3 + 1) m_2 _ _ _ h w (lv_sub hl [2, 3, 1, 0] rfl)
        · have h := h.2 c_5
          refine lv_aload_n hx hb dX5_highestAt_30 rfl (lv_at hl 0 rfl) ?_
          refine lv_iload_n hx hb dX5_highestAt_31 rfl (lv_at hl 3 rfl) ?_
          refine lv_iconst (v := 0) hx hb dX5_highestAt_32 (by decide) ?_
          refine x_calli C w (x_runV (i := 287) (As := [.int v3, .int 0]) (rest := []) C w (rfl : kd 287 = 7) (by decide) (ci := 5) rfl rfl rfl me_X5_get ml_StairBowsModel_41 (c_X5_get l g ad m_2 _ v3 0 h) ⟨rfl, rfl⟩ ⟨Nat.le_of_ble_eq_true rfl, Nat.le_of_ble_eq_true rfl⟩ rfl hl.1 rfl (Nat.le_of_ble_eq_true rfl) dX5_highestAt_33 ⟨Nat.le_of_ble_eq_true rfl, Nat.le_of_ble_eq_true rfl⟩) (fun r_7 m_6 h H locs w => ?_)
          refine lv_aload_n hx hb dX5_highestAt_36 rfl (lv_at hl 0 rfl) ?_
          refine lv_iload_n hx hb dX5_highestAt_37 rfl (lv_at hl 2 rfl) ?_
          refine lv_iconst (v := 0) hx hb dX5_highestAt_38 (by decide) ?_
          refine x_calli C w (x_runV (i := 287) (As := [.int v2, .int 0]) (rest := [.int r_7]) C w (rfl : kd 287 = 7) (by decide) (ci := 5) rfl rfl rfl me_X5_get ml_StairBowsModel_41 (c_X5_get l g ad m_6 _ v2 0 h) ⟨rfl, rfl⟩ ⟨Nat.le_of_ble_eq_true rfl, Nat.le_of_ble_eq_true rfl⟩ rfl hl.1 rfl (Nat.le_of_ble_eq_true rfl) dX5_highestAt_39 ⟨Nat.le_of_ble_eq_true rfl, Nat.le_of_ble_eq_true rfl⟩) (fun r_9 m_8 h H locs w => ?_)
          refine lv_icmp_le (tgt := 49) hx hb dX5_highestAt_42 (by decide) (fun c_10 => ?_) (fun c_10 => ?_)
          · have h := h.1 c_10
            refine lv_iload_n hx hb dX5_highestAt_49 rfl (lv_at hl 2 rfl) ?_
            refine lv_istore_n (lv' := [(2, .int v2), (0, .ref (ad 287)), (1, .int v1), (3, .int v3)]) hx hb dX5_highestAt_50 rfl hl (by decide) rfl (fun ls hl => ?_)
            refine lv_iinc (v := (v3 + 1)) (lv' := [(3, .int (v3 + 1)), (2, .int v2), (0, .ref (ad 287)), (1, .int v1)]) hx hb dX5_highestAt_51 hl (k := 3) rfl rfl (by decide) rfl (fun ls hl => ?_)
            refine lv_goto (tgt := 5) hx hb dX5_highestAt_54 (by decide) ?_
            exact ih v2 (v3 + 1) m_8 _ _ _ h w (lv_sub hl [2, 3, 1, 0] rfl)
          · have h := h.2 c_10
            refine lv_iload_n hx hb dX5_highestAt_45 rfl (lv_at hl 3 rfl) ?_
            refine lv_goto (tgt := 50) hx hb dX5_highestAt_46 (by decide) ?_
            refine lv_istore_n (lv' := [(2, .int v3), (0, .ref (ad 287)), (1, .int v1), (3, .int v3)]) hx hb dX5_highestAt_50 rfl hl (by decide) rfl (fun ls hl => ?_)
            refine lv_iinc (v := (v3 + 1)) (lv' := [(3, .int (v3 + 1)), (2, .int v3), (0, .ref (ad 287)), (1, .int v1)]) hx hb dX5_highestAt_51 hl (k := 3) rfl rfl (by decide) rfl (fun ls hl => ?_)
            refine lv_goto (tgt := 5) hx hb dX5_highestAt_54 (by decide) ?_
            exact ih v3 (v3 + 1) m_8 _ _ _ h w (lv_sub hl [2, 3, 1, 0] rfl)
set_option maxHeartbeats 4000000 in
set_option maxRecDepth 100000 in
theorem c_X5_highestAt (l : Launch) (g : Gv) (ad : Nat → Nat) (μ : Mem) (sz : Nat) (a1 : Int32) {K : Int32 → Mem → Prop} (h : wp_X5_highestAt a1 μ K) : Met l yX5_highestAt (wX yX5_highestAt cX5_highestAt 4 (some .int)) rm_X5_highestAt (Pre g ad μ sz [.ref (ad 287), .int a1]) (PostI g ad sz K) 0 0 (Aw ad sz) := by
  refine Met.ofW (cc := cX5_highestAt) (maxL := 4) (ret := (some .int)) (by decide) rfl ?_
  intro p e s m args below meth c s₁ B hml hv
  obtain ⟨rfl, rfl, C, w⟩ := x_start B hml hv
  obtain ⟨hx, hb, hml, -, hts, hown, -, -, hN⟩ := id C
  have hl := lv_entry ([.ref (ad 287), .int a1]) (n := 4) (Nat.le_of_ble_eq_true rfl)
  rw [lg_entry_eq]
  generalize (lg_sl ([.ref (ad 287), .int a1]) ++ List.replicate (4 - (lg_sl ([.ref (ad 287), .int a1])).length) Slot.unset).toArray = ls at hl ⊢
  have hl : lv_has ls 4 [(0, .ref (ad 287)), (1, .int a1)] := hl
  show W p l e rm_X5_highestAt s m _ below meth c s.heap [] 0 0 _ _
  unfold wp_X5_highestAt at h
  refine lv_bipush (v := -6) hx hb dX5_highestAt_0 (by decide) ?_
  refine lv_istore_n (lv' := [(2, .int (-6)), (0, .ref (ad 287)), (1, .int a1)]) hx hb dX5_highestAt_2 rfl hl (by decide) rfl (fun ls hl => ?_)
  refine lv_iconst (v := 0) hx hb dX5_highestAt_3 (by decide) ?_
  refine lv_istore_n (lv' := [(3, .int 0), (2, .int (-6)), (0, .ref (ad 287)), (1, .int a1)]) hx hb dX5_highestAt_4 rfl hl (by decide) rfl (fun ls hl => ?_)
  obtain ⟨n_11, h⟩ := h
  exact t_X5_highestAt_L5 C n_11 (-6) 0 μ _ _ _ h w (lv_sub hl [2, 3, 1, 0] rfl)
abbrev rm_X5_step : Room := { frames := 4, cells := 0, slots := 0, locals := 88 }
noncomputable def wp_X5_step (a1 : Int32) (a2 : Int32) (μ : Mem) (K : Int32 → Mem → Prop) : Prop :=
    (wp_X5_isStep a1 μ (fun r_2 m_1 => ((¬ r_2 = 0 → (((a2.toInt < 0 ∨ 3 < a2.toInt) → K (-2) m_1) ∧ (a2.toInt = 0 → (wp_X5_isLanding a1 m_1 (fun r_6 m_5 => ((r_6 = 0 → K 0 m_5) ∧ (¬ r_6 = 0 → K 1 m_5))))) ∧ (a2.toInt = 1 → (wp_X5_peopleAt a1 m_1 (fun r_10 m_9 => K r_10 m_9))) ∧ (a2.toInt = 2 → (wp_X5_roomAt a1 m_1 (fun r_13 m_12 => K r_13 m_12))) ∧ (a2.toInt = 3 → (wp_X5_highestAt a1 m_1 (fun r_16 m_15 => K r_16 m_15))))) ∧ (r_2 = 0 → K (-1) m_1))))
set_option maxHeartbeats 4000000 in
set_option maxRecDepth 100000 in
theorem c_X5_step (l : Launch) (g : Gv) (ad : Nat → Nat) (μ : Mem) (sz : Nat) (a1 : Int32) (a2 : Int32) {K : Int32 → Mem → Prop} (h : wp_X5_step a1 a2 μ K) : Met l yX5_step (wX yX5_step cX5_step 3 (some .int)) rm_X5_step (Pre g ad μ sz [.ref (ad 287), .int a1, .int a2]) (PostI g ad sz K) 0 0 (Aw ad sz) := by
  refine Met.ofW (cc := cX5_step) (maxL := 3) (ret := (some .int)) (by decide) rfl ?_
  intro p e s m args below meth c s₁ B hml hv
  obtain ⟨rfl, rfl, C, w⟩ := x_start B hml hv
  obtain ⟨hx, hb, hml, -, hts, hown, -, -, hN⟩ := id C
  have hl := lv_entry ([.ref (ad 287), .int a1, .int a2]) (n := 3) (Nat.le_of_ble_eq_true rfl)
  rw [lg_entry_eq]
  generalize (lg_sl ([.ref (ad 287), .int a1, .int a2]) ++ List.replicate (3 - (lg_sl ([.ref (ad 287), .int a1, .int a2])).length) Slot.unset).toArray = ls at hl ⊢
  have hl : lv_has ls 3 [(0, .ref (ad 287)), (1, .int a1), (2, .int a2)] := hl
  show W p l e rm_X5_step s m _ below meth c s.heap [] 0 0 _ _
  unfold wp_X5_step at h
  refine lv_iload_n hx hb dX5_step_0 rfl (lv_at hl 1 rfl) ?_
  refine x_calli C w (x_runS (As := [.int a1]) (rest := []) C w me_X5_isStep ml_StairBowsModel_67 (c_X5_isStep l g ad μ _ a1 h) ⟨rfl, rfl⟩ ⟨Nat.le_of_ble_eq_true rfl, Nat.le_of_ble_eq_true rfl⟩ rfl hl.1 rfl (Nat.le_of_ble_eq_true rfl) dX5_step_1 ⟨Nat.le_of_ble_eq_true rfl, Nat.le_of_ble_eq_true rfl⟩) (fun r_2 m_1 h H locs w => ?_)
  refine lv_if_ne (tgt := 9) hx hb dX5_step_4 (by decide) (fun c_3 => ?_) (fun c_3 => ?_)
  · have h := h.1 c_3
    refine lv_iload_n hx hb dX5_step_9 rfl (lv_at hl 2 rfl) ?_
    by_cases c_4 : a2.toInt < 0 ∨ 3 < a2.toInt
    · have h := h.1 c_4
      refine lv_tableOut (tgt := 72) hx hb dX5_step_10 c_4 (by decide) ?_
      refine lv_bipush (v := -2) hx hb dX5_step_72 (by decide) ?_
      exact x_iret C w h dX5_step_74
    · by_cases c_8 : a2.toInt = 0
      · have h := h.2.1 c_8
        refine lv_tableIn (off := 30) (tgt := 40) hx hb dX5_step_10 (by omega) (by omega) (by rw [c_8]; rfl) (by decide) ?_
        refine lv_aload_n hx hb dX5_step_40 rfl (lv_at hl 0 rfl) ?_
        refine lv_iload_n hx hb dX5_step_41 rfl (lv_at hl 1 rfl) ?_
        refine x_calli C w (x_runV (i := 287) (As := [.int a1]) (rest := []) C w (rfl : kd 287 = 7) (by decide) (ci := 5) rfl rfl rfl me_X5_isLanding ml_StairBowsModel_49 (c_X5_isLanding l g ad m_1 _ a1 h) ⟨rfl, rfl⟩ ⟨Nat.le_of_ble_eq_true rfl, Nat.le_of_ble_eq_true rfl⟩ rfl hl.1 rfl (Nat.le_of_ble_eq_true rfl) dX5_step_42 ⟨Nat.le_of_ble_eq_true rfl, Nat.le_of_ble_eq_true rfl⟩) (fun r_6 m_5 h H locs w => ?_)
        refine lv_if_eq (tgt := 52) hx hb dX5_step_45 (by decide) (fun c_7 => ?_) (fun c_7 => ?_)
        · have h := h.1 c_7
          refine lv_iconst (v := 0) hx hb dX5_step_52 (by decide) ?_
          exact x_iret C w h dX5_step_53
        · have h := h.2 c_7
          refine lv_iconst (v := 1) hx hb dX5_step_48 (by decide) ?_
          refine lv_goto (tgt := 53) hx hb dX5_step_49 (by decide) ?_
          exact x_iret C w h dX5_step_53
      · by_cases c_11 : a2.toInt = 1
        · have h := h.2.2.1 c_11
          refine lv_tableIn (off := 44) (tgt := 54) hx hb dX5_step_10 (by omega) (by omega) (by rw [c_11]; rfl) (by decide) ?_
          refine lv_aload_n hx hb dX5_step_54 rfl (lv_at hl 0 rfl) ?_
          refine lv_iload_n hx hb dX5_step_55 rfl (lv_at hl 1 rfl) ?_
          refine x_calli C w (x_runV (i := 287) (As := [.int a1]) (rest := []) C w (rfl : kd 287 = 7) (by decide) (ci := 5) rfl rfl rfl me_X5_peopleAt ml_StairBowsModel_53 (c_X5_peopleAt l g ad m_1 _ a1 h) ⟨rfl, rfl⟩ ⟨Nat.le_of_ble_eq_true rfl, Nat.le_of_ble_eq_true rfl⟩ rfl hl.1 rfl (Nat.le_of_ble_eq_true rfl) dX5_step_56 ⟨Nat.le_of_ble_eq_true rfl, Nat.le_of_ble_eq_true rfl⟩) (fun r_10 m_9 h H locs w => ?_)
          exact x_iret C w h dX5_step_59
        · by_cases c_14 : a2.toInt = 2
          · have h := h.2.2.2.1 c_14
            refine lv_tableIn (off := 50) (tgt := 60) hx hb dX5_step_10 (by omega) (by omega) (by rw [c_14]; rfl) (by decide) ?_
            refine lv_aload_n hx hb dX5_step_60 rfl (lv_at hl 0 rfl) ?_
            refine lv_iload_n hx hb dX5_step_61 rfl (lv_at hl 1 rfl) ?_
            refine x_calli C w (x_runV (i := 287) (As := [.int a1]) (rest := []) C w (rfl : kd 287 = 7) (by decide) (ci := 5) rfl rfl rfl me_X5_roomAt ml_StairBowsModel_70 (c_X5_roomAt l g ad m_1 _ a1 h) ⟨rfl, rfl⟩ ⟨Nat.le_of_ble_eq_true rfl, Nat.le_of_ble_eq_true rfl⟩ rfl hl.1 rfl (Nat.le_of_ble_eq_true rfl) dX5_step_62 ⟨Nat.le_of_ble_eq_true rfl, Nat.le_of_ble_eq_true rfl⟩) (fun r_13 m_12 h H locs w => ?_)
            exact x_iret C w h dX5_step_65
          · have c_17 : a2.toInt = 3 := by omega
            have h := h.2.2.2.2 c_17
            refine lv_tableIn (off := 56) (tgt := 66) hx hb dX5_step_10 (by omega) (by omega) (by rw [c_17]; rfl) (by decide) ?_
            refine lv_aload_n hx hb dX5_step_66 rfl (lv_at hl 0 rfl) ?_
            refine lv_iload_n hx hb dX5_step_67 rfl (lv_at hl 1 rfl) ?_
            refine x_calli C w (x_runV (i := 287) (As := [.int a1]) (rest := []) C w (rfl : kd 287 = 7) (by decide) (ci := 5) rfl rfl rfl me_X5_highestAt ml_StairBowsModel_137 (c_X5_highestAt l g ad m_1 _ a1 h) ⟨rfl, rfl⟩ ⟨Nat.le_of_ble_eq_true rfl, Nat.le_of_ble_eq_true rfl⟩ rfl hl.1 rfl (Nat.le_of_ble_eq_true rfl) dX5_step_68 ⟨Nat.le_of_ble_eq_true rfl, Nat.le_of_ble_eq_true rfl⟩) (fun r_16 m_15 h H locs w => ?_)
            exact x_iret C w h dX5_step_71
  · have h := h.2 c_3
    refine lv_iconst (v := -1) hx hb dX5_step_7 (by decide) ?_
    exact x_iret C w h dX5_step_8
abbrev rm_X5_does : Room := { frames := 7, cells := 0, slots := 0, locals := 158 }
noncomputable def wp_X5_does (a1 : Int32) (μ : Mem) (K : Int32 → Mem → Prop) : Prop :=
    (wp_X5_isPerson a1 μ (fun r_2 m_1 => ((¬ r_2 = 0 → (wp_X5_keeps m_1 (fun m_4 => (wp_X5_ticks m_4 (fun m_5 => (vp_in a1 24 ∧ (wp_X5_comesBack m_5 (fun m_6 => K (m_5 293 a1.toNatClampNeg) m_6)))))))) ∧ (r_2 = 0 → K (-1) m_1))))
set_option maxHeartbeats 4000000 in
set_option maxRecDepth 100000 in
theorem c_X5_does (l : Launch) (g : Gv) (ad : Nat → Nat) (μ : Mem) (sz : Nat) (a1 : Int32) {K : Int32 → Mem → Prop} (h : wp_X5_does a1 μ K) : Met l yX5_does (wX yX5_does cX5_does 3 (some .int)) rm_X5_does (Pre g ad μ sz [.ref (ad 287), .int a1]) (PostI g ad sz K) 0 0 (Aw ad sz) := by
  refine Met.ofW (cc := cX5_does) (maxL := 3) (ret := (some .int)) (by decide) rfl ?_
  intro p e s m args below meth c s₁ B hml hv
  obtain ⟨rfl, rfl, C, w⟩ := x_start B hml hv
  obtain ⟨hx, hb, hml, -, hts, hown, -, -, hN⟩ := id C
  have hl := lv_entry ([.ref (ad 287), .int a1]) (n := 3) (Nat.le_of_ble_eq_true rfl)
  rw [lg_entry_eq]
  generalize (lg_sl ([.ref (ad 287), .int a1]) ++ List.replicate (3 - (lg_sl ([.ref (ad 287), .int a1])).length) Slot.unset).toArray = ls at hl ⊢
  have hl : lv_has ls 3 [(0, .ref (ad 287)), (1, .int a1)] := hl
  show W p l e rm_X5_does s m _ below meth c s.heap [] 0 0 _ _
  unfold wp_X5_does at h
  refine lv_aload_n hx hb dX5_does_0 rfl (lv_at hl 0 rfl) ?_
  refine lv_iload_n hx hb dX5_does_1 rfl (lv_at hl 1 rfl) ?_
  refine x_calli C w (x_runV (i := 287) (As := [.int a1]) (rest := []) C w (rfl : kd 287 = 7) (by decide) (ci := 5) rfl rfl rfl me_X5_isPerson ml_StairBowsModel_124 (c_X5_isPerson l g ad μ _ a1 h) ⟨rfl, rfl⟩ ⟨Nat.le_of_ble_eq_true rfl, Nat.le_of_ble_eq_true rfl⟩ rfl hl.1 rfl (Nat.le_of_ble_eq_true rfl) dX5_does_2 ⟨Nat.le_of_ble_eq_true rfl, Nat.le_of_ble_eq_true rfl⟩) (fun r_2 m_1 h H locs w => ?_)
  refine lv_if_ne (tgt := 10) hx hb dX5_does_5 (by decide) (fun c_3 => ?_) (fun c_3 => ?_)
  · have h := h.1 c_3
    refine lv_aload_n hx hb dX5_does_10 rfl (lv_at hl 0 rfl) ?_
    refine x_callv C w (x_runV (i := 287) (As := []) (rest := []) C w (rfl : kd 287 = 7) (by decide) (ci := 5) rfl rfl rfl me_X5_keeps ml_StairBowsModel_140 (c_X5_keeps l g ad m_1 _  h) ⟨rfl, rfl⟩ ⟨Nat.le_of_ble_eq_true rfl, Nat.le_of_ble_eq_true rfl⟩ rfl hl.1 rfl (Nat.le_of_ble_eq_true rfl) dX5_does_11 ⟨Nat.le_of_ble_eq_true rfl, Nat.le_of_ble_eq_true rfl⟩) (fun m_4 h H locs w => ?_)
    refine lv_aload_n hx hb dX5_does_14 rfl (lv_at hl 0 rfl) ?_
    refine x_callv C w (x_runV (i := 287) (As := []) (rest := []) C w (rfl : kd 287 = 7) (by decide) (ci := 5) rfl rfl rfl me_X5_ticks ml_StairBowsModel_132 (c_X5_ticks l g ad m_4 _  h) ⟨rfl, rfl⟩ ⟨Nat.le_of_ble_eq_true rfl, Nat.le_of_ble_eq_true rfl⟩ rfl hl.1 rfl (Nat.le_of_ble_eq_true rfl) dX5_does_15 ⟨Nat.le_of_ble_eq_true rfl, Nat.le_of_ble_eq_true rfl⟩) (fun m_5 h H locs w => ?_)
    refine lv_aload_n hx hb dX5_does_18 rfl (lv_at hl 0 rfl) ?_
    refine x_getM C w (k := 6) (v := .ref (ad 293)) (by decide) rfl mf_StairBowsModel_25 dX5_does_19 ?_
    refine lv_iload_n hx hb dX5_does_22 rfl (lv_at hl 1 rfl) ?_
    refine x_iald C w (i := 293) (K := 25) (j := a1) (n := 24) (jn := a1.toNatClampNeg) rfl (rfl : kd 293 = 25) (by decide) rfl (show vp_in a1 24 from h.1) dX5_does_23 ?_
    have h := h.2
    refine lv_istore_n (lv' := [(2, .int (m_5 293 a1.toNatClampNeg)), (0, .ref (ad 287)), (1, .int a1)]) hx hb dX5_does_24 rfl hl (by decide) rfl (fun ls hl => ?_)
    refine lv_aload_n hx hb dX5_does_25 rfl (lv_at hl 1 rfl) ?_
    refine x_callv C w (x_runV (i := 287) (As := []) (rest := []) C w (rfl : kd 287 = 7) (by decide) (ci := 5) rfl rfl rfl me_X5_comesBack ml_StairBowsModel_143 (c_X5_comesBack l g ad m_5 _  h) ⟨rfl, rfl⟩ ⟨Nat.le_of_ble_eq_true rfl, Nat.le_of_ble_eq_true rfl⟩ rfl hl.1 rfl (Nat.le_of_ble_eq_true rfl) dX5_does_26 ⟨Nat.le_of_ble_eq_true rfl, Nat.le_of_ble_eq_true rfl⟩) (fun m_6 h H locs w => ?_)
    refine lv_iload_n hx hb dX5_does_29 rfl (lv_at hl 0 rfl) ?_
    exact x_iret C w h dX5_does_30
  · have h := h.2 c_3
    refine lv_iconst (v := -1) hx hb dX5_does_8 (by decide) ?_
    exact x_iret C w h dX5_does_9
abbrev rm_X5_count : Room := { frames := 2, cells := 0, slots := 0, locals := 45 }
noncomputable def wp_X5_count (a1 : Int32) (μ : Mem) (K : Int32 → Mem → Prop) : Prop :=
    (((a1.toInt < 3 ∨ 14 < a1.toInt) → (wp_X5_in (Int32.toInt64 a1) 0 2 μ (fun r_3 m_2 => ((r_3 = 0 → K (-2) m_2) ∧ (¬ r_3 = 0 → (vp_in a1 225 ∧ K (m_2 288 a1.toNatClampNeg) m_2)))))) ∧ (a1.toInt = 3 → (vp_in a1 225 ∧ K (μ 288 a1.toNatClampNeg) μ)) ∧ (a1.toInt = 4 → (vp_in a1 225 ∧ K (μ 288 a1.toNatClampNeg) μ)) ∧ (a1.toInt = 5 → (wp_X5_thatAre (a1 - 5) μ (fun r_8 m_7 => K r_8 m_7))) ∧ (a1.toInt = 6 → (wp_X5_thatAre (a1 - 5) μ (fun r_11 m_10 => K r_11 m_10))) ∧ (a1.toInt = 7 → (wp_X5_thatAre (a1 - 5) μ (fun r_14 m_13 => K r_14 m_13))) ∧ (a1.toInt = 8 → (wp_X5_thatAre (a1 - 5) μ (fun r_17 m_16 => K r_17 m_16))) ∧ (a1.toInt = 9 → (vp_in ((5 + a1) - 9) 225 ∧ K (μ 288 ((5 + a1) - 9).toNatClampNeg) μ)) ∧ (a1.toInt = 10 → (vp_in ((5 + a1) - 9) 225 ∧ K (μ 288 ((5 + a1) - 9).toNatClampNeg) μ)) ∧ (a1.toInt = 11 → (vp_in ((5 + a1) - 9) 225 ∧ K (μ 288 ((5 + a1) - 9).toNatClampNeg) μ)) ∧ (a1.toInt = 12 → (vp_in ((5 + a1) - 9) 225 ∧ K (μ 288 ((5 + a1) - 9).toNatClampNeg) μ)) ∧ (a1.toInt = 13 → K (μ 287 8) μ) ∧ (a1.toInt = 14 → K (μ 287 3) μ))
set_option maxHeartbeats 4000000 in
set_option maxRecDepth 100000 in
theorem c_X5_count (l : Launch) (g : Gv) (ad : Nat → Nat) (μ : Mem) (sz : Nat) (a1 : Int32) {K : Int32 → Mem → Prop} (h : wp_X5_count a1 μ K) : Met l yX5_count (wX yX5_count cX5_count 2 (some .int)) rm_X5_count (Pre g ad μ sz [.ref (ad 287), .int a1]) (PostI g ad sz K) 0 0 (Aw ad sz) := by
  refine Met.ofW (cc := cX5_count) (maxL := 2) (ret := (some .int)) (by decide) rfl ?_
  intro p e s m args below meth c s₁ B hml hv
  obtain ⟨rfl, rfl, C, w⟩ := x_start B hml hv
  obtain ⟨hx, hb, hml, -, hts, hown, -, -, hN⟩ := id C
  have hl := lv_entry ([.ref (ad 287), .int a1]) (n := 2) (Nat.le_of_ble_eq_true rfl)
  rw [lg_entry_eq]
  generalize (lg_sl ([.ref (ad 287), .int a1]) ++ List.replicate (2 - (lg_sl ([.ref (ad 287), .int a1])).length) Slot.unset).toArray = ls at hl ⊢
  have hl : lv_has ls 2 [(0, .ref (ad 287)), (1, .int a1)] := hl
  show W p l e rm_X5_count s m _ below meth c s.heap [] 0 0 _ _
  unfold wp_X5_count at h
  refine lv_iload_n hx hb dX5_count_0 rfl (lv_at hl 1 rfl) ?_
  by_cases c_1 : a1.toInt < 3 ∨ 14 < a1.toInt
  · have h := h.1 c_1
    refine lv_tableOut (tgt := 101) hx hb dX5_count_1 c_1 (by decide) ?_
    refine lv_iload_n hx hb dX5_count_101 rfl (lv_at hl 1 rfl) ?_
    refine lv_i2l (v := (Int32.toInt64 a1)) hx hb dX5_count_102 rfl ?_
    refine lv_lconst (v := 0) hx hb dX5_count_103 (by decide) ?_
    refine lv_ldc2 (v := 2) hx hb hown (hts _ mk_StairBowsModel_146) dX5_count_104 ?_
    refine x_calli C w (x_runS (As := [.long (Int32.toInt64 a1), .long 0, .long 2]) (rest := []) C w me_X5_in ml_StairBowsModel_35 (c_X5_in l g ad μ _ (Int32.toInt64 a1) 0 2 h) ⟨rfl, rfl⟩ ⟨Nat.le_of_ble_eq_true rfl, Nat.le_of_ble_eq_true rfl⟩ rfl hl.1 rfl (Nat.le_of_ble_eq_true rfl) dX5_count_107 ⟨Nat.le_of_ble_eq_true rfl, Nat.le_of_ble_eq_true rfl⟩) (fun r_3 m_2 h H locs w => ?_)
    refine lv_if_eq (tgt := 122) hx hb dX5_count_110 (by decide) (fun c_4 => ?_) (fun c_4 => ?_)
    · have h := h.1 c_4
      refine lv_bipush (v := -2) hx hb dX5_count_122 (by decide) ?_
      exact x_iret C w h dX5_count_124
    · have h := h.2 c_4
      refine lv_aload_n hx hb dX5_count_113 rfl (lv_at hl 0 rfl) ?_
      refine x_getM C w (k := 0) (v := .ref (ad 288)) (by decide) rfl mf_StairBowsModel_7 dX5_count_114 ?_
      refine lv_iload_n hx hb dX5_count_117 rfl (lv_at hl 1 rfl) ?_
      refine x_iald C w (i := 288) (K := 20) (j := a1) (n := 225) (jn := a1.toNatClampNeg) rfl (rfl : kd 288 = 20) (by decide) rfl (show vp_in a1 225 from h.1) dX5_count_118 ?_
      have h := h.2
      refine lv_goto (tgt := 124) hx hb dX5_count_119 (by decide) ?_
      exact x_iret C w h dX5_count_124
  · by_cases c_5 : a1.toInt = 3
    · have h := h.2.1 c_5
      refine lv_tableIn (off := 63) (tgt := 64) hx hb dX5_count_1 (by omega) (by omega) (by rw [c_5]; rfl) (by decide) ?_
      refine lv_aload_n hx hb dX5_count_64 rfl (lv_at hl 0 rfl) ?_
      refine x_getM C w (k := 0) (v := .ref (ad 288)) (by decide) rfl mf_StairBowsModel_7 dX5_count_65 ?_
      refine lv_iload_n hx hb dX5_count_68 rfl (lv_at hl 1 rfl) ?_
      refine x_iald C w (i := 288) (K := 20) (j := a1) (n := 225) (jn := a1.toNatClampNeg) rfl (rfl : kd 288 = 20) (by decide) rfl (show vp_in a1 225 from h.1) dX5_count_69 ?_
      have h := h.2
      exact x_iret C w h dX5_count_70
    · by_cases c_6 : a1.toInt = 4
      · have h := h.2.2.1 c_6
        refine lv_tableIn (off := 63) (tgt := 64) hx hb dX5_count_1 (by omega) (by omega) (by rw [c_6]; rfl) (by decide) ?_
        refine lv_aload_n hx hb dX5_count_64 rfl (lv_at hl 0 rfl) ?_
        refine x_getM C w (k := 0) (v := .ref (ad 288)) (by decide) rfl mf_StairBowsModel_7 dX5_count_65 ?_
        refine lv_iload_n hx hb dX5_count_68 rfl (lv_at hl 1 rfl) ?_
        refine x_iald C w (i := 288) (K := 20) (j := a1) (n := 225) (jn := a1.toNatClampNeg) rfl (rfl : kd 288 = 20) (by decide) rfl (show vp_in a1 225 from h.1) dX5_count_69 ?_
        have h := h.2
        exact x_iret C w h dX5_count_70
      · by_cases c_9 : a1.toInt = 5
        · have h := h.2.2.2.1 c_9
          refine lv_tableIn (off := 70) (tgt := 71) hx hb dX5_count_1 (by omega) (by omega) (by rw [c_9]; rfl) (by decide) ?_
          refine lv_aload_n hx hb dX5_count_71 rfl (lv_at hl 0 rfl) ?_
          refine lv_iload_n hx hb dX5_count_72 rfl (lv_at hl 1 rfl) ?_
          refine lv_iconst (v := 5) hx hb dX5_count_73 (by decide) ?_
          refine lv_isub hx hb dX5_count_74 ?_
          refine x_calli C w (x_runV (i := 287) (As := [.int (a1 - 5)]) (rest := []) C w (rfl : kd 287 = 7) (by decide) (ci := 5) rfl rfl rfl me_X5_thatAre ml_StairBowsModel_129 (c_X5_thatAre l g ad μ _ (a1 - 5) h) ⟨rfl, rfl⟩ ⟨Nat.le_of_ble_eq_true rfl, Nat.le_of_ble_eq_true rfl⟩ rfl hl.1 rfl (Nat.le_of_ble_eq_true rfl) dX5_count_75 ⟨Nat.le_of_ble_eq_true rfl, Nat.le_of_ble_eq_true rfl⟩) (fun r_8 m_7 h H locs w => ?_)
          exact x_iret C w h dX5_count_78
        · by_cases c_12 : a1.toInt = 6
          · have h := h.2.2.2.2.1 c_12
            refine lv_tableIn (off := 70) (tgt := 71) hx hb dX5_count_1 (by omega) (by omega) (by rw [c_12]; rfl) (by decide) ?_
            refine lv_aload_n hx hb dX5_count_71 rfl (lv_at hl 0 rfl) ?_
            refine lv_iload_n hx hb dX5_count_72 rfl (lv_at hl 1 rfl) ?_
            refine lv_iconst (v := 5) hx hb dX5_count_73 (by decide) ?_
            refine lv_isub hx hb dX5_count_74 ?_
            refine x_calli C w (x_runV (i := 287) (As := [.int (a1 - 5)]) (rest := []) C w (rfl : kd 287 = 7) (by decide) (ci := 5) rfl rfl rfl me_X5_thatAre ml_StairBowsModel_129 (c_X5_thatAre l g ad μ _ (a1 - 5) h) ⟨rfl, rfl⟩ ⟨Nat.le_of_ble_eq_true rfl, Nat.le_of_ble_eq_true rfl⟩ rfl hl.1 rfl (Nat.le_of_ble_eq_true rfl) dX5_count_75 ⟨Nat.le_of_ble_eq_true rfl, Nat.le_of_ble_eq_true rfl⟩) (fun r_11 m_10 h H locs w => ?_)
            exact x_iret C w h dX5_count_78
          · by_cases c_15 : a1.toInt = 7
            · have h := h.2.2.2.2.2.1 c_15
              refine lv_tableIn (off := 70) (tgt := 71) hx hb dX5_count_1 (by omega) (by omega) (by rw [c_15]; rfl) (by decide) ?_
              refine lv_aload_n hx hb dX5_count_71 rfl (lv_at hl 0 rfl) ?_
              refine lv_iload_n hx hb dX5_count_72 rfl (lv_at hl 1 rfl) ?_
              refine lv_iconst (v := 5) hx hb dX5_count_73 (by decide) ?_
              refine lv_isub hx hb dX5_count_74 ?_
              refine x_calli C w (x_runV (i := 287) (As := [.int (a1 - 5)]) (rest := []) C w (rfl : kd 287 = 7) (by decide) (ci := 5) rfl rfl rfl me_X5_thatAre ml_StairBowsModel_129 (c_X5_thatAre l g ad μ _ (a1 - 5) h) ⟨rfl, rfl⟩ ⟨Nat.le_of_ble_eq_true rfl, Nat.le_of_ble_eq_true rfl⟩ rfl hl.1 rfl (Nat.le_of_ble_eq_true rfl) dX5_count_75 ⟨Nat.le_of_ble_eq_true rfl, Nat.le_of_ble_eq_true rfl⟩) (fun r_14 m_13 h H locs w => ?_)
              exact x_iret C w h dX5_count_78
            · by_cases c_18 : a1.toInt = 8
              · have h := h.2.2.2.2.2.2.1 c_18
                refine lv_tableIn (off := 70) (tgt := 71) hx hb dX5_count_1 (by omega) (by omega) (by rw [c_18]; rfl) (by decide) ?_
                refine lv_aload_n hx hb dX5_count_71 rfl (lv_at hl 0 rfl) ?_
                refine lv_iload_n hx hb dX5_count_72 rfl (lv_at hl 1 rfl) ?_
                refine lv_iconst (v := 5) hx hb dX5_count_73 (by decide) ?_
                refine lv_isub hx hb dX5_count_74 ?_
                refine x_calli C w (x_runV (i := 287) (As := [.int (a1 - 5)]) (rest := []) C w (rfl : kd 287 = 7) (by decide) (ci := 5) rfl rfl rfl me_X5_thatAre ml_StairBowsModel_129 (c_X5_thatAre l g ad μ _ (a1 - 5) h) ⟨rfl, rfl⟩ ⟨Nat.le_of_ble_eq_true rfl, Nat.le_of_ble_eq_true rfl⟩ rfl hl.1 rfl (Nat.le_of_ble_eq_true rfl) dX5_count_75 ⟨Nat.le_of_ble_eq_true rfl, Nat.le_of_ble_eq_true rfl⟩) (fun r_17 m_16 h H locs w => ?_)
                exact x_iret C w h dX5_count_78
              · by_cases c_19 : a1.toInt = 9
                · have h := h.2.2.2.2.2.2.2.1 c_19
                  refine lv_tableIn (off := 78) (tgt := 79) hx hb dX5_count_1 (by omega) (by omega) (by rw [c_19]; rfl) (by decide) ?_
                  refine lv_aload_n hx hb dX5_count_79 rfl (lv_at hl 0 rfl) ?_
                  refine x_getM C w (k := 0) (v := .ref (ad 288)) (by decide) rfl mf_StairBowsModel_7 dX5_count_80 ?_
                  refine lv_iconst (v := 5) hx hb dX5_count_83 (by decide) ?_
                  refine lv_iload_n hx hb dX5_count_84 rfl (lv_at hl 1 rfl) ?_
                  refine lv_iadd hx hb dX5_count_85 ?_
                  refine lv_bipush (v := 9) hx hb dX5_count_86 (by decide) ?_
                  refine lv_isub hx hb dX5_count_88 ?_
                  refine x_iald C w (i := 288) (K := 20) (j := ((5 + a1) - 9)) (n := 225) (jn := ((5 + a1) - 9).toNatClampNeg) rfl (rfl : kd 288 = 20) (by decide) rfl (show vp_in ((5 + a1) - 9) 225 from h.1) dX5_count_89 ?_
                  have h := h.2
                  exact x_iret C w h dX5_count_90
                · by_cases c_20 : a1.toInt = 10
                  · have h := h.2.2.2.2.2.2.2.2.1 c_20
                    refine lv_tableIn (off := 78) (tgt := 79) hx hb dX5_count_1 (by omega) (by omega) (by rw [c_20]; rfl) (by decide) ?_
                    refine lv_aload_n hx hb dX5_count_79 rfl (lv_at hl 0 rfl) ?_
                    refine x_getM C w (k := 0) (v := .ref (ad 288)) (by decide) rfl mf_StairBowsModel_7 dX5_count_80 ?_
                    refine lv_iconst (v := 5) hx hb dX5_count_83 (by decide) ?_
                    refine lv_iload_n hx hb dX5_count_84 rfl (lv_at hl 1 rfl) ?_
                    refine lv_iadd hx hb dX5_count_85 ?_
                    refine lv_bipush (v := 9) hx hb dX5_count_86 (by decide) ?_
                    refine lv_isub hx hb dX5_count_88 ?_
                    refine x_iald C w (i := 288) (K := 20) (j := ((5 + a1) - 9)) (n := 225) (jn := ((5 + a1) - 9).toNatClampNeg) rfl (rfl : kd 288 = 20) (by decide) rfl (show vp_in ((5 + a1) - 9) 225 from h.1) dX5_count_89 ?_
                    have h := h.2
                    exact x_iret C w h dX5_count_90
                  · by_cases c_21 : a1.toInt = 11
                    · have h := h.2.2.2.2.2.2.2.2.2.1 c_21
                      refine lv_tableIn (off := 78) (tgt := 79) hx hb dX5_count_1 (by omega) (by omega) (by rw [c_21]; rfl) (by decide) ?_
                      refine lv_aload_n hx hb dX5_count_79 rfl (lv_at hl 0 rfl) ?_
                      refine x_getM C w (k := 0) (v := .ref (ad 288)) (by decide) rfl mf_StairBowsModel_7 dX5_count_80 ?_
                      refine lv_iconst (v := 5) hx hb dX5_count_83 (by decide) ?_
                      refine lv_iload_n hx hb dX5_count_84 rfl (lv_at hl 1 rfl) ?_
                      refine lv_iadd hx hb dX5_count_85 ?_
                      refine lv_bipush (v := 9) hx hb dX5_count_86 (by decide) ?_
                      refine lv_isub hx hb dX5_count_88 ?_
                      refine x_iald C w (i := 288) (K := 20) (j := ((5 + a1) - 9)) (n := 225) (jn := ((5 + a1) - 9).toNatClampNeg) rfl (rfl : kd 288 = 20) (by decide) rfl (show vp_in ((5 + a1) - 9) 225 from h.1) dX5_count_89 ?_
                      have h := h.2
                      exact x_iret C w h dX5_count_90
                    · by_cases c_22 : a1.toInt = 12
                      · have h := h.2.2.2.2.2.2.2.2.2.2.1 c_22
                        refine lv_tableIn (off := 78) (tgt := 79) hx hb dX5_count_1 (by omega) (by omega) (by rw [c_22]; rfl) (by decide) ?_
                        refine lv_aload_n hx hb dX5_count_79 rfl (lv_at hl 0 rfl) ?_
                        refine x_getM C w (k := 0) (v := .ref (ad 288)) (by decide) rfl mf_StairBowsModel_7 dX5_count_80 ?_
                        refine lv_iconst (v := 5) hx hb dX5_count_83 (by decide) ?_
                        refine lv_iload_n hx hb dX5_count_84 rfl (lv_at hl 1 rfl) ?_
                        refine lv_iadd hx hb dX5_count_85 ?_
                        refine lv_bipush (v := 9) hx hb dX5_count_86 (by decide) ?_
                        refine lv_isub hx hb dX5_count_88 ?_
                        refine x_iald C w (i := 288) (K := 20) (j := ((5 + a1) - 9)) (n := 225) (jn := ((5 + a1) - 9).toNatClampNeg) rfl (rfl : kd 288 = 20) (by decide) rfl (show vp_in ((5 + a1) - 9) 225 from h.1) dX5_count_89 ?_
                        have h := h.2
                        exact x_iret C w h dX5_count_90
                      · by_cases c_23 : a1.toInt = 13
                        · have h := h.2.2.2.2.2.2.2.2.2.2.2.1 c_23
                          refine lv_tableIn (off := 90) (tgt := 91) hx hb dX5_count_1 (by omega) (by omega) (by rw [c_23]; rfl) (by decide) ?_
                          refine lv_aload_n hx hb dX5_count_91 rfl (lv_at hl 0 rfl) ?_
                          refine x_getM C w (k := 8) (v := .int (μ 287 8)) (by decide) rfl mf_StairBowsModel_121 dX5_count_92 ?_
                          exact x_iret C w h dX5_count_95
                        · have c_24 : a1.toInt = 14 := by omega
                          have h := h.2.2.2.2.2.2.2.2.2.2.2.2 c_24
                          refine lv_tableIn (off := 95) (tgt := 96) hx hb dX5_count_1 (by omega) (by omega) (by rw [c_24]; rfl) (by decide) ?_
                          refine lv_aload_n hx hb dX5_count_96 rfl (lv_at hl 0 rfl) ?_
                          refine x_getM C w (k := 3) (v := .int (μ 287 3)) (by decide) rfl mf_StairBowsModel_31 dX5_count_97 ?_
                          exact x_iret C w h dX5_count_100
abbrev rm_X5_isEmpty : Room := { frames := 2, cells := 0, slots := 0, locals := 45 }
noncomputable def wp_X5_isEmpty  (μ : Mem) (K : Int32 → Mem → Prop) : Prop :=
    (wp_X5_thatAre 0 μ (fun r_2 m_1 => (wp_X5_thatAre 1 m_1 (fun r_4 m_3 => ((¬ (r_2 + r_4) = 0 → K 0 m_3) ∧ ((r_2 + r_4) = 0 → K 1 m_3))))))
set_option maxHeartbeats 4000000 in
set_option maxRecDepth 100000 in
theorem c_X5_isEmpty (l : Launch) (g : Gv) (ad : Nat → Nat) (μ : Mem) (sz : Nat)  {K : Int32 → Mem → Prop} (h : wp_X5_isEmpty μ K) : Met l yX5_isEmpty (wX yX5_isEmpty cX5_isEmpty 1 (some .boolean)) rm_X5_isEmpty (Pre g ad μ sz [.ref (ad 287)]) (PostI g ad sz K) 0 0 (Aw ad sz) := by
  refine Met.ofW (cc := cX5_isEmpty) (maxL := 1) (ret := (some .boolean)) (by decide) rfl ?_
  intro p e s m args below meth c s₁ B hml hv
  obtain ⟨rfl, rfl, C, w⟩ := x_start B hml hv
  obtain ⟨hx, hb, hml, -, hts, hown, -, -, hN⟩ := id C
  have hl := lv_entry ([.ref (ad 287)]) (n := 1) (Nat.le_of_ble_eq_true rfl)
  rw [lg_entry_eq]
  generalize (lg_sl ([.ref (ad 287)]) ++ List.replicate (1 - (lg_sl ([.ref (ad 287)])).length) Slot.unset).toArray = ls at hl ⊢
  have hl : lv_has ls 1 [(0, .ref (ad 287))] := hl
  show W p l e rm_X5_isEmpty s m _ below meth c s.heap [] 0 0 _ _
  unfold wp_X5_isEmpty at h
  refine lv_aload_n hx hb dX5_isEmpty_0 rfl (lv_at hl 0 rfl) ?_
  refine lv_iconst (v := 0) hx hb dX5_isEmpty_1 (by decide) ?_
  refine x_calli C w (x_runV (i := 287) (As := [.int 0]) (rest := []) C w (rfl : kd 287 = 7) (by decide) (ci := 5) rfl rfl rfl me_X5_thatAre ml_StairBowsModel_129 (c_X5_thatAre l g ad μ _ 0 h) ⟨rfl, rfl⟩ ⟨Nat.le_of_ble_eq_true rfl, Nat.le_of_ble_eq_true rfl⟩ rfl hl.1 rfl (Nat.le_of_ble_eq_true rfl) dX5_isEmpty_2 ⟨Nat.le_of_ble_eq_true rfl, Nat.le_of_ble_eq_true rfl⟩) (fun r_2 m_1 h H locs w => ?_)
  refine lv_aload_n hx hb dX5_isEmpty_5 rfl (lv_at hl 0 rfl) ?_
  refine lv_iconst (v := 1) hx hb dX5_isEmpty_6 (by decide) ?_
  refine x_calli C w (x_runV (i := 287) (As := [.int 1]) (rest := [.int r_2]) C w (rfl : kd 287 = 7) (by decide) (ci := 5) rfl rfl rfl me_X5_thatAre ml_StairBowsModel_129 (c_X5_thatAre l g ad m_1 _ 1 h) ⟨rfl, rfl⟩ ⟨Nat.le_of_ble_eq_true rfl, Nat.le_of_ble_eq_true rfl⟩ rfl hl.1 rfl (Nat.le_of_ble_eq_true rfl) dX5_isEmpty_7 ⟨Nat.le_of_ble_eq_true rfl, Nat.le_of_ble_eq_true rfl⟩) (fun r_4 m_3 h H locs w => ?_)
  refine lv_iadd hx hb dX5_isEmpty_10 ?_
  refine lv_if_ne (tgt := 18) hx hb dX5_isEmpty_11 (by decide) (fun c_5 => ?_) (fun c_5 => ?_)
  · have h := h.1 c_5
    refine lv_iconst (v := 0) hx hb dX5_isEmpty_18 (by decide) ?_
    exact x_zret C w (show bz 0 from Or.inl rfl) h dX5_isEmpty_19
  · have h := h.2 c_5
    refine lv_iconst (v := 1) hx hb dX5_isEmpty_14 (by decide) ?_
    refine lv_goto (tgt := 19) hx hb dX5_isEmpty_15 (by decide) ?_
    exact x_zret C w (show bz 1 from Or.inr rfl) h dX5_isEmpty_19
abbrev rm_X5_until : Room := { frames := 7, cells := 0, slots := 0, locals := 158 }
noncomputable def wp_X5_until_L6 (v1 : Int32) (K : Int32 → Mem → Prop) (n : Nat) : Int32 → Mem → Prop :=
  Nat.rec (motive := fun _ => Int32 → Mem → Prop) (fun _ _ => False) (fun _ ih v2 μ =>
    ((200 < v2 → (wp_X5_comesBack μ (fun m_3 => ((v2 ≤ 200 → K v2 m_3) ∧ (¬ v2 ≤ 200 → K (-6) m_3))))) ∧ (¬ 200 < v2 → ((¬ v1 = (-6) → (wp_X5_get v1 2 μ (fun r_7 m_6 => ((r_7 = 2 → (wp_X5_comesBack m_6 (fun m_9 => ((v2 ≤ 200 → K v2 m_9) ∧ (¬ v2 ≤ 200 → K (-6) m_9))))) ∧ (¬ r_7 = 2 → (wp_X5_ticks m_6 (fun m_11 => ih (v2 + 1) m_11))))))) ∧ (v1 = (-6) → (wp_X5_isEmpty μ (fun r_13 m_12 => ((r_13 = 0 → (wp_X5_ticks m_12 (fun m_15 => ih (v2 + 1) m_15))) ∧ (¬ r_13 = 0 → (wp_X5_comesBack m_12 (fun m_16 => ((v2 ≤ 200 → K v2 m_16) ∧ (¬ v2 ≤ 200 → K (-6) m_16))))))))))))) n
theorem wp_X5_until_L6_s (v1 : Int32) (K : Int32 → Mem → Prop) (n : Nat) (v2 : Int32) (μ : Mem) : wp_X5_until_L6 v1 K (n + 1) v2 μ = (
    let ih := wp_X5_until_L6 v1 K n
    ((200 < v2 → (wp_X5_comesBack μ (fun m_3 => ((v2 ≤ 200 → K v2 m_3) ∧ (¬ v2 ≤ 200 → K (-6) m_3))))) ∧ (¬ 200 < v2 → ((¬ v1 = (-6) → (wp_X5_get v1 2 μ (fun r_7 m_6 => ((r_7 = 2 → (wp_X5_comesBack m_6 (fun m_9 => ((v2 ≤ 200 → K v2 m_9) ∧ (¬ v2 ≤ 200 → K (-6) m_9))))) ∧ (¬ r_7 = 2 → (wp_X5_ticks m_6 (fun m_11 => ih (v2 + 1) m_11))))))) ∧ (v1 = (-6) → (wp_X5_isEmpty μ (fun r_13 m_12 => ((r_13 = 0 → (wp_X5_ticks m_12 (fun m_15 => ih (v2 + 1) m_15))) ∧ (¬ r_13 = 0 → (wp_X5_comesBack m_12 (fun m_16 => ((v2 ≤ 200 → K v2 m_16) ∧ (¬ v2 ≤ 200 → K (-6) m_16))))))))))))) := rfl
noncomputable def wp_X5_until (a1 : Int32) (μ : Mem) (K : Int32 → Mem → Prop) : Prop :=
    (wp_X5_keeps μ (fun m_1 => (∃ n, wp_X5_until_L6 a1 K n 0 m_1)))
set_option maxHeartbeats 4000000 in
set_option maxRecDepth 100000 in
theorem t_X5_until_L6 {g : Gv} {ad : Nat → Nat} {l : Launch} {p : Program} {e : Env} {s : State} {m : MethodId} {args : Array Value} {below : List Frame} {meth : Method} {c : Code} (C : Cx g p s m args meth c "StairBowsModel" cX5_until 3 (some .int)) {v1 : Int32}  {K : Int32 → Mem → Prop}    : ∀ (n : Nat) (v2 : Int32) (μ : Mem) (H : Heap) (locs : List Loc) (ls : Array Slot), wp_X5_until_L6 v1 K n v2 μ → Wd g ad μ (Aw ad s.heap.size) s H locs → lv_has ls 3 [(0, .ref (ad 287)), (1, .int v1), (2, .int v2)] → W p l e rm_X5_until s m args below meth c H locs 0 0 (MQ below (PostI g ad s.heap.size K) args s 0 0 (Aw ad s.heap.size)) (F0 m 6 ls []) := by
  obtain ⟨hx, hb, hml, -, hts, hown, -, -, hN⟩ := id C
  intro n
  induction n with
  | zero =>
    intro v2 μ H locs ls h w hl
    exact (show False from h).elim
  | succ n ih =>
    intro v2 μ H locs ls h w hl
    rw [wp_X5_until_L6_s] at h
    dsimp only at h
    refine lv_iload_n hx hb dX5_until_6 rfl (lv_at hl 2 rfl) ?_
    refine lv_sipush (v := 200) hx hb dX5_until_7 (by decide) ?_
    refine lv_icmp_gt (tgt := 49) hx hb dX5_until_10 (by decide) (fun c_2 => ?_) (fun c_2 => ?_)
    · have h := h.1 c_2
      refine lv_aload_n hx hb dX5_until_49 rfl (lv_at hl 0 rfl) ?_
      refine x_callv C w (x_runV (i := 287) (As := []) (rest := []) C w (rfl : kd 287 = 7) (by decide) (ci := 5) rfl rfl rfl me_X5_comesBack ml_StairBowsModel_143 (c_X5_comesBack l g ad μ _  h) ⟨rfl, rfl⟩ ⟨Nat.le_of_ble_eq_true rfl, Nat.le_of_ble_eq_true rfl⟩ rfl hl.1 rfl (Nat.le_of_ble_eq_true rfl) dX5_until_50 ⟨Nat.le_of_ble_eq_true rfl, Nat.le_of_ble_eq_true rfl⟩) (fun m_3 h H locs w => ?_)
      refine lv_iload_n hx hb dX5_until_53 rfl (lv_at hl 2 rfl) ?_
      refine lv_sipush (v := 200) hx hb dX5_until_54 (by decide) ?_
      refine lv_icmp_le (tgt := 65) hx hb dX5_until_57 (by decide) (fun c_4 => ?_) (fun c_4 => ?_)
      · have h := h.1 c_4
        refine lv_iload_n hx hb dX5_until_65 rfl (lv_at hl 2 rfl) ?_
        exact x_iret C w h dX5_until_66
      · have h := h.2 c_4
        refine lv_bipush (v := -6) hx hb dX5_until_60 (by decide) ?_
        refine lv_goto (tgt := 66) hx hb dX5_until_62 (by decide) ?_
        exact x_iret C w h dX5_until_66
    · have h := h.2 c_2
      refine lv_iload_n hx hb dX5_until_13 rfl (lv_at hl 1 rfl) ?_
      refine lv_bipush (v := -6) hx hb dX5_until_14 (by decide) ?_
      refine lv_icmp_ne (tgt := 29) hx hb dX5_until_16 (by decide) (fun c_5 => ?_) (fun c_5 => ?_)
      · have h := h.1 c_5
        refine lv_aload_n hx hb dX5_until_29 rfl (lv_at hl 0 rfl) ?_
        refine lv_iload_n hx hb dX5_until_30 rfl (lv_at hl 1 rfl) ?_
        refine lv_iconst (v := 2) hx hb dX5_until_31 (by decide) ?_
        refine x_calli C w (x_runV (i := 287) (As := [.int v1, .int 2]) (rest := []) C w (rfl : kd 287 = 7) (by decide) (ci := 5) rfl rfl rfl me_X5_get ml_StairBowsModel_41 (c_X5_get l g ad μ _ v1 2 h) ⟨rfl, rfl⟩ ⟨Nat.le_of_ble_eq_true rfl, Nat.le_of_ble_eq_true rfl⟩ rfl hl.1 rfl (Nat.le_of_ble_eq_true rfl) dX5_until_32 ⟨Nat.le_of_ble_eq_true rfl, Nat.le_of_ble_eq_true rfl⟩) (fun r_7 m_6 h H locs w => ?_)
        refine lv_iconst (v := 2) hx hb dX5_until_35 (by decide) ?_
        refine lv_icmp_eq (tgt := 49) hx hb dX5_until_36 (by decide) (fun c_8 => ?_) (fun c_8 => ?_)
        · have h := h.1 c_8
          refine lv_aload_n hx hb dX5_until_49 rfl (lv_at hl 0 rfl) ?_
          refine x_callv C w (x_runV (i := 287) (As := []) (rest := []) C w (rfl : kd 287 = 7) (by decide) (ci := 5) rfl rfl rfl me_X5_comesBack ml_StairBowsModel_143 (c_X5_comesBack l g ad m_6 _  h) ⟨rfl, rfl⟩ ⟨Nat.le_of_ble_eq_true rfl, Nat.le_of_ble_eq_true rfl⟩ rfl hl.1 rfl (Nat.le_of_ble_eq_true rfl) dX5_until_50 ⟨Nat.le_of_ble_eq_true rfl, Nat.le_of_ble_eq_true rfl⟩) (fun m_9 h H locs w => ?_)
          refine lv_iload_n hx hb dX5_until_53 rfl (lv_at hl 2 rfl) ?_
          refine lv_sipush (v := 200) hx hb dX5_until_54 (by decide) ?_
          refine lv_icmp_le (tgt := 65) hx hb dX5_until_57 (by decide) (fun c_10 => ?_) (fun c_10 => ?_)
          · have h := h.1 c_10
            refine lv_iload_n hx hb dX5_until_65 rfl (lv_at hl 2 rfl) ?_
            exact x_iret C w h dX5_until_66
          · have h := h.2 c_10
            refine lv_bipush (v := -6) hx hb dX5_until_60 (by decide) ?_
            refine lv_goto (tgt := 66) hx hb dX5_until_62 (by decide) ?_
            exact x_iret C w h dX5_until_66
        · have h := h.2 c_8
          refine lv_aload_n hx hb dX5_until_39 rfl (lv_at hl 0 rfl) ?_
          refine x_callv C w (x_runV (i := 287) (As := []) (rest := []) C w (rfl : kd 287 = 7) (by decide) (ci := 5) rfl rfl rfl me_X5_ticks ml_StairBowsModel_132 (c_X5_ticks l g ad m_6 _  h) ⟨rfl, rfl⟩ ⟨Nat.le_of_ble_eq_true rfl, Nat.le_of_ble_eq_true rfl⟩ rfl hl.1 rfl (Nat.le_of_ble_eq_true rfl) dX5_until_40 ⟨Nat.le_of_ble_eq_true rfl, Nat.le_of_ble_eq_true rfl⟩) (fun m_11 h H locs w => ?_)
          refine lv_iinc (v := (v2 + 1)) (lv' := [(2, .int (v2 + 1)), (0, .ref (ad 287)), (1, .int v1)]) hx hb dX5_until_43 hl (k := 2) rfl rfl (by decide) rfl (fun ls hl => ?_)
          refine lv_goto (tgt := 6) hx hb dX5_until_46 (by decide) ?_
          exact ih (v2 + 1) m_11 _ _ _ h w (lv_sub hl [1, 2, 0] rfl)
      · have h := h.2 c_5
        refine lv_aload_n hx hb dX5_until_19 rfl (lv_at hl 0 rfl) ?_
        refine x_calli C w (x_runV (i := 287) (As := []) (rest := []) C w (rfl : kd 287 = 7) (by decide) (ci := 5) rfl rfl rfl me_X5_isEmpty ml_StairBowsModel_148 (c_X5_isEmpty l g ad μ _  h) ⟨rfl, rfl⟩ ⟨Nat.le_of_ble_eq_true rfl, Nat.le_of_ble_eq_true rfl⟩ rfl hl.1 rfl (Nat.le_of_ble_eq_true rfl) dX5_until_20 ⟨Nat.le_of_ble_eq_true rfl, Nat.le_of_ble_eq_true rfl⟩) (fun r_13 m_12 h H locs w => ?_)
        refine lv_if_eq (tgt := 39) hx hb dX5_until_23 (by decide) (fun c_14 => ?_) (fun c_14 => ?_)
        · have h := h.1 c_14
          refine lv_aload_n hx hb dX5_until_39 rfl (lv_at hl 0 rfl) ?_
          refine x_callv C w (x_runV (i := 287) (As := []) (rest := []) C w (rfl : kd 287 = 7) (by decide) (ci := 5) rfl rfl rfl me_X5_ticks ml_StairBowsModel_132 (c_X5_ticks l g ad m_12 _  h) ⟨rfl, rfl⟩ ⟨Nat.le_of_ble_eq_true rfl, Nat.le_of_ble_eq_true rfl⟩ rfl hl.1 rfl (Nat.le_of_ble_eq_true rfl) dX5_until_40 ⟨Nat.le_of_ble_eq_true rfl, Nat.le_of_ble_eq_true rfl⟩) (fun m_15 h H locs w => ?_)
          refine lv_iinc (v := (v2 + 1)) (lv' := [(2, .int (v2 + 1)), (0, .ref (ad 287)), (1, .int v1)]) hx hb dX5_until_43 hl (k := 2) rfl rfl (by decide) rfl (fun ls hl => ?_)
          refine lv_goto (tgt := 6) hx hb dX5_until_46 (by decide) ?_
          exact ih (v2 + 1) m_15 _ _ _ h w (lv_sub hl [1, 2, 0] rfl)
        · have h := h.2 c_14
          refine lv_goto (tgt := 49) hx hb dX5_until_26 (by decide) ?_
          refine lv_aload_n hx hb dX5_until_49 rfl (lv_at hl 0 rfl) ?_
          refine x_callv C w (x_runV (i := 287) (As := []) (rest := []) C w (rfl : kd 287 = 7) (by decide) (ci := 5) rfl rfl rfl me_X5_comesBack ml_StairBowsModel_143 (c_X5_comesBack l g ad m_12 _  h) ⟨rfl, rfl⟩ ⟨Nat.le_of_ble_eq_true rfl, Nat.le_of_ble_eq_true rfl⟩ rfl hl.1 rfl (Nat.le_of_ble_eq_true rfl) dX5_until_50 ⟨Nat.le_of_ble_eq_true rfl, Nat.le_of_ble_eq_true rfl⟩) (fun m_16 h H locs w => ?_)
          refine lv_iload_n hx hb dX5_until_53 rfl (lv_at hl 2 rfl) ?_
          refine lv_sipush (v := 200) hx hb dX5_until_54 (by decide) ?_
          refine lv_icmp_le (tgt := 65) hx hb dX5_until_57 (by decide) (fun c_17 => ?_) (fun c_17 => ?_)
          · have h := h.1 c_17
            refine lv_iload_n hx hb dX5_until_65 rfl (lv_at hl 2 rfl) ?_
            exact x_iret C w h dX5_until_66
          · have h := h.2 c_17
            refine lv_bipush (v := -6) hx hb dX5_until_60 (by decide) ?_
            refine lv_goto (tgt := 66) hx hb dX5_until_62 (by decide) ?_
            exact x_iret C w h dX5_until_66
set_option maxHeartbeats 4000000 in
set_option maxRecDepth 100000 in
theorem c_X5_until (l : Launch) (g : Gv) (ad : Nat → Nat) (μ : Mem) (sz : Nat) (a1 : Int32) {K : Int32 → Mem → Prop} (h : wp_X5_until a1 μ K) : Met l yX5_until (wX yX5_until cX5_until 3 (some .int)) rm_X5_until (Pre g ad μ sz [.ref (ad 287), .int a1]) (PostI g ad sz K) 0 0 (Aw ad sz) := by
  refine Met.ofW (cc := cX5_until) (maxL := 3) (ret := (some .int)) (by decide) rfl ?_
  intro p e s m args below meth c s₁ B hml hv
  obtain ⟨rfl, rfl, C, w⟩ := x_start B hml hv
  obtain ⟨hx, hb, hml, -, hts, hown, -, -, hN⟩ := id C
  have hl := lv_entry ([.ref (ad 287), .int a1]) (n := 3) (Nat.le_of_ble_eq_true rfl)
  rw [lg_entry_eq]
  generalize (lg_sl ([.ref (ad 287), .int a1]) ++ List.replicate (3 - (lg_sl ([.ref (ad 287), .int a1])).length) Slot.unset).toArray = ls at hl ⊢
  have hl : lv_has ls 3 [(0, .ref (ad 287)), (1, .int a1)] := hl
  show W p l e rm_X5_until s m _ below meth c s.heap [] 0 0 _ _
  unfold wp_X5_until at h
  refine lv_aload_n hx hb dX5_until_0 rfl (lv_at hl 0 rfl) ?_
  refine x_callv C w (x_runV (i := 287) (As := []) (rest := []) C w (rfl : kd 287 = 7) (by decide) (ci := 5) rfl rfl rfl me_X5_keeps ml_StairBowsModel_140 (c_X5_keeps l g ad μ _  h) ⟨rfl, rfl⟩ ⟨Nat.le_of_ble_eq_true rfl, Nat.le_of_ble_eq_true rfl⟩ rfl hl.1 rfl (Nat.le_of_ble_eq_true rfl) dX5_until_1 ⟨Nat.le_of_ble_eq_true rfl, Nat.le_of_ble_eq_true rfl⟩) (fun m_1 h H locs w => ?_)
  refine lv_iconst (v := 0) hx hb dX5_until_4 (by decide) ?_
  refine lv_istore_n (lv' := [(2, .int 0), (0, .ref (ad 287)), (1, .int a1)]) hx hb dX5_until_5 rfl hl (by decide) rfl (fun ls hl => ?_)
  obtain ⟨n_18, h⟩ := h
  exact t_X5_until_L6 C n_18 0 m_1 _ _ _ h w (lv_sub hl [1, 2, 0] rfl)
abbrev rm_X5_untilArrived : Room := { frames := 8, cells := 0, slots := 0, locals := 180 }
noncomputable def wp_X5_untilArrived (a1 : Int32) (μ : Mem) (K : Int32 → Mem → Prop) : Prop :=
    (wp_X5_isPerson a1 μ (fun r_2 m_1 => ((r_2 = 0 → K (-1) m_1) ∧ (¬ r_2 = 0 → (wp_X5_until a1 m_1 (fun r_5 m_4 => K r_5 m_4))))))
set_option maxHeartbeats 4000000 in
set_option maxRecDepth 100000 in
theorem c_X5_untilArrived (l : Launch) (g : Gv) (ad : Nat → Nat) (μ : Mem) (sz : Nat) (a1 : Int32) {K : Int32 → Mem → Prop} (h : wp_X5_untilArrived a1 μ K) : Met l yX5_untilArrived (wX yX5_untilArrived cX5_untilArrived 2 (some .int)) rm_X5_untilArrived (Pre g ad μ sz [.ref (ad 287), .int a1]) (PostI g ad sz K) 0 0 (Aw ad sz) := by
  refine Met.ofW (cc := cX5_untilArrived) (maxL := 2) (ret := (some .int)) (by decide) rfl ?_
  intro p e s m args below meth c s₁ B hml hv
  obtain ⟨rfl, rfl, C, w⟩ := x_start B hml hv
  obtain ⟨hx, hb, hml, -, hts, hown, -, -, hN⟩ := id C
  have hl := lv_entry ([.ref (ad 287), .int a1]) (n := 2) (Nat.le_of_ble_eq_true rfl)
  rw [lg_entry_eq]
  generalize (lg_sl ([.ref (ad 287), .int a1]) ++ List.replicate (2 - (lg_sl ([.ref (ad 287), .int a1])).length) Slot.unset).toArray = ls at hl ⊢
  have hl : lv_has ls 2 [(0, .ref (ad 287)), (1, .int a1)] := hl
  show W p l e rm_X5_untilArrived s m _ below meth c s.heap [] 0 0 _ _
  unfold wp_X5_untilArrived at h
  refine lv_aload_n hx hb dX5_untilArrived_0 rfl (lv_at hl 0 rfl) ?_
  refine lv_iload_n hx hb dX5_untilArrived_1 rfl (lv_at hl 1 rfl) ?_
  refine x_calli C w (x_runV (i := 287) (As := [.int a1]) (rest := []) C w (rfl : kd 287 = 7) (by decide) (ci := 5) rfl rfl rfl me_X5_isPerson ml_StairBowsModel_124 (c_X5_isPerson l g ad μ _ a1 h) ⟨rfl, rfl⟩ ⟨Nat.le_of_ble_eq_true rfl, Nat.le_of_ble_eq_true rfl⟩ rfl hl.1 rfl (Nat.le_of_ble_eq_true rfl) dX5_untilArrived_2 ⟨Nat.le_of_ble_eq_true rfl, Nat.le_of_ble_eq_true rfl⟩) (fun r_2 m_1 h H locs w => ?_)
  refine lv_if_eq (tgt := 16) hx hb dX5_untilArrived_5 (by decide) (fun c_3 => ?_) (fun c_3 => ?_)
  · have h := h.1 c_3
    refine lv_iconst (v := -1) hx hb dX5_untilArrived_16 (by decide) ?_
    exact x_iret C w h dX5_untilArrived_17
  · have h := h.2 c_3
    refine lv_aload_n hx hb dX5_untilArrived_8 rfl (lv_at hl 0 rfl) ?_
    refine lv_iload_n hx hb dX5_untilArrived_9 rfl (lv_at hl 1 rfl) ?_
    refine x_calli C w (x_runV (i := 287) (As := [.int a1]) (rest := []) C w (rfl : kd 287 = 7) (by decide) (ci := 5) rfl rfl rfl me_X5_until ml_StairBowsModel_152 (c_X5_until l g ad m_1 _ a1 h) ⟨rfl, rfl⟩ ⟨Nat.le_of_ble_eq_true rfl, Nat.le_of_ble_eq_true rfl⟩ rfl hl.1 rfl (Nat.le_of_ble_eq_true rfl) dX5_untilArrived_10 ⟨Nat.le_of_ble_eq_true rfl, Nat.le_of_ble_eq_true rfl⟩) (fun r_5 m_4 h H locs w => ?_)
    refine lv_goto (tgt := 17) hx hb dX5_untilArrived_13 (by decide) ?_
    exact x_iret C w h dX5_untilArrived_17
abbrev rm_X5_untilEmpty : Room := { frames := 8, cells := 0, slots := 0, locals := 180 }
noncomputable def wp_X5_untilEmpty  (μ : Mem) (K : Int32 → Mem → Prop) : Prop :=
    (wp_X5_until (-6) μ (fun r_2 m_1 => K r_2 m_1))
set_option maxHeartbeats 4000000 in
set_option maxRecDepth 100000 in
theorem c_X5_untilEmpty (l : Launch) (g : Gv) (ad : Nat → Nat) (μ : Mem) (sz : Nat)  {K : Int32 → Mem → Prop} (h : wp_X5_untilEmpty μ K) : Met l yX5_untilEmpty (wX yX5_untilEmpty cX5_untilEmpty 1 (some .int)) rm_X5_untilEmpty (Pre g ad μ sz [.ref (ad 287)]) (PostI g ad sz K) 0 0 (Aw ad sz) := by
  refine Met.ofW (cc := cX5_untilEmpty) (maxL := 1) (ret := (some .int)) (by decide) rfl ?_
  intro p e s m args below meth c s₁ B hml hv
  obtain ⟨rfl, rfl, C, w⟩ := x_start B hml hv
  obtain ⟨hx, hb, hml, -, hts, hown, -, -, hN⟩ := id C
  have hl := lv_entry ([.ref (ad 287)]) (n := 1) (Nat.le_of_ble_eq_true rfl)
  rw [lg_entry_eq]
  generalize (lg_sl ([.ref (ad 287)]) ++ List.replicate (1 - (lg_sl ([.ref (ad 287)])).length) Slot.unset).toArray = ls at hl ⊢
  have hl : lv_has ls 1 [(0, .ref (ad 287))] := hl
  show W p l e rm_X5_untilEmpty s m _ below meth c s.heap [] 0 0 _ _
  unfold wp_X5_untilEmpty at h
  refine lv_aload_n hx hb dX5_untilEmpty_0 rfl (lv_at hl 0 rfl) ?_
  refine lv_bipush (v := -6) hx hb dX5_untilEmpty_1 (by decide) ?_
  refine x_calli C w (x_runV (i := 287) (As := [.int (-6)]) (rest := []) C w (rfl : kd 287 = 7) (by decide) (ci := 5) rfl rfl rfl me_X5_until ml_StairBowsModel_152 (c_X5_until l g ad μ _ (-6) h) ⟨rfl, rfl⟩ ⟨Nat.le_of_ble_eq_true rfl, Nat.le_of_ble_eq_true rfl⟩ rfl hl.1 rfl (Nat.le_of_ble_eq_true rfl) dX5_untilEmpty_3 ⟨Nat.le_of_ble_eq_true rfl, Nat.le_of_ble_eq_true rfl⟩) (fun r_2 m_1 h H locs w => ?_)
  exact x_iret C w h dX5_untilEmpty_6
abbrev rm_X5_ifPassed : Room := { frames := 7, cells := 0, slots := 0, locals := 158 }
noncomputable def wp_X5_ifPassed_L47 (v1 : Int32) (v2 : Int32) (v3 : Int32) (v4 : Int32) (K : Int32 → Mem → Prop) (n : Nat) : Int32 → Mem → Prop :=
  Nat.rec (motive := fun _ => Int32 → Mem → Prop) (fun _ _ => False) (fun _ ih v5 μ =>
    ((v1 ≤ v5 → ((¬ v2 = 0 → ((¬ v2 = 1 → ((¬ v2 = 2 → (wp_X5_comesBack μ (fun m_16 => K ((μ 288 8) - (μ 289 8)) m_16))) ∧ (v2 = 2 → (wp_X5_comesBack μ (fun m_17 => K ((μ 288 6) - (μ 289 6)) m_17))))) ∧ (v2 = 1 → (wp_X5_thatAre 3 μ (fun r_19 m_18 => (wp_X5_comesBack m_18 (fun m_20 => K (r_19 - v4) m_20))))))) ∧ (v2 = 0 → (wp_X5_thatAre 2 μ (fun r_22 m_21 => (wp_X5_comesBack m_21 (fun m_23 => K (r_22 - v3) m_23))))))) ∧ (¬ v1 ≤ v5 → (wp_X5_ticks μ (fun m_24 => ih (v5 + 1) m_24))))) n
theorem wp_X5_ifPassed_L47_s (v1 : Int32) (v2 : Int32) (v3 : Int32) (v4 : Int32) (K : Int32 → Mem → Prop) (n : Nat) (v5 : Int32) (μ : Mem) : wp_X5_ifPassed_L47 v1 v2 v3 v4 K (n + 1) v5 μ = (
    let ih := wp_X5_ifPassed_L47 v1 v2 v3 v4 K n
    ((v1 ≤ v5 → ((¬ v2 = 0 → ((¬ v2 = 1 → ((¬ v2 = 2 → (wp_X5_comesBack μ (fun m_16 => K ((μ 288 8) - (μ 289 8)) m_16))) ∧ (v2 = 2 → (wp_X5_comesBack μ (fun m_17 => K ((μ 288 6) - (μ 289 6)) m_17))))) ∧ (v2 = 1 → (wp_X5_thatAre 3 μ (fun r_19 m_18 => (wp_X5_comesBack m_18 (fun m_20 => K (r_19 - v4) m_20))))))) ∧ (v2 = 0 → (wp_X5_thatAre 2 μ (fun r_22 m_21 => (wp_X5_comesBack m_21 (fun m_23 => K (r_22 - v3) m_23))))))) ∧ (¬ v1 ≤ v5 → (wp_X5_ticks μ (fun m_24 => ih (v5 + 1) m_24))))) := rfl
noncomputable def wp_X5_ifPassed (a1 : Int32) (a2 : Int32) (μ : Mem) (K : Int32 → Mem → Prop) : Prop :=
    (wp_X5_in (Int32.toInt64 a1) 1 200 μ (fun r_2 m_1 => ((r_2 = 0 → K (-2) m_1) ∧ (¬ r_2 = 0 → (wp_X5_in (Int32.toInt64 a2) 0 3 m_1 (fun r_5 m_4 => ((¬ r_5 = 0 → (wp_X5_thatAre 2 m_4 (fun r_8 m_7 => (wp_X5_thatAre 3 m_7 (fun r_10 m_9 => (wp_X5_keeps m_9 (fun m_11 => (∃ n, wp_X5_ifPassed_L47 a1 a2 r_8 r_10 K n 0 m_11)))))))) ∧ (r_5 = 0 → K (-2) m_4))))))))
set_option maxHeartbeats 4000000 in
set_option maxRecDepth 100000 in
theorem t_X5_ifPassed_L47 {g : Gv} {ad : Nat → Nat} {l : Launch} {p : Program} {e : Env} {s : State} {m : MethodId} {args : Array Value} {below : List Frame} {meth : Method} {c : Code} (C : Cx g p s m args meth c "StairBowsModel" cX5_ifPassed 6 (some .int)) {v1 : Int32} {v2 : Int32} {v3 : Int32} {v4 : Int32}  {K : Int32 → Mem → Prop}    : ∀ (n : Nat) (v5 : Int32) (μ : Mem) (H : Heap) (locs : List Loc) (ls : Array Slot), wp_X5_ifPassed_L47 v1 v2 v3 v4 K n v5 μ → Wd g ad μ (Aw ad s.heap.size) s H locs → lv_has ls 6 [(0, .ref (ad 287)), (1, .int v1), (2, .int v2), (3, .int v3), (4, .int v4), (5, .int v5)] → W p l e rm_X5_ifPassed s m args below meth c H locs 0 0 (MQ below (PostI g ad s.heap.size K) args s 0 0 (Aw ad s.heap.size)) (F0 m 47 ls []) := by
  obtain ⟨hx, hb, hml, -, hts, hown, -, -, hN⟩ := id C
  intro n
  induction n with
  | zero =>
    intro v5 μ H locs ls h w hl
    exact (show False from h).elim
  | succ n ih =>
    intro v5 μ H locs ls h w hl
    rw [wp_X5_ifPassed_L47_s] at h
    dsimp only at h
    refine lv_iload hx hb dX5_ifPassed_47 (lv_at hl 5 rfl) ?_
    refine lv_iload_n hx hb dX5_ifPassed_49 rfl (lv_at hl 1 rfl) ?_
    refine lv_icmp_ge (tgt := 63) hx hb dX5_ifPassed_50 (by decide) (fun c_12 => ?_) (fun c_12 => ?_)
    · have h := h.1 c_12
      refine lv_iload_n hx hb dX5_ifPassed_63 rfl (lv_at hl 2 rfl) ?_
      refine lv_if_ne (tgt := 77) hx hb dX5_ifPassed_64 (by decide) (fun c_13 => ?_) (fun c_13 => ?_)
      · have h := h.1 c_13
        refine lv_iload_n hx hb dX5_ifPassed_77 rfl (lv_at hl 2 rfl) ?_
        refine lv_iconst (v := 1) hx hb dX5_ifPassed_78 (by decide) ?_
        refine lv_icmp_ne (tgt := 93) hx hb dX5_ifPassed_79 (by decide) (fun c_14 => ?_) (fun c_14 => ?_)
        · have h := h.1 c_14
          refine lv_iload_n hx hb dX5_ifPassed_93 rfl (lv_at hl 2 rfl) ?_
          refine lv_iconst (v := 2) hx hb dX5_ifPassed_94 (by decide) ?_
          refine lv_icmp_ne (tgt := 116) hx hb dX5_ifPassed_95 (by decide) (fun c_15 => ?_) (fun c_15 => ?_)
          · have h := h.1 c_15
            refine lv_aload_n hx hb dX5_ifPassed_116 rfl (lv_at hl 0 rfl) ?_
            refine x_getM C w (k := 0) (v := .ref (ad 288)) (by decide) rfl mf_StairBowsModel_7 dX5_ifPassed_117 ?_
            refine lv_bipush (v := 8) hx hb dX5_ifPassed_120 (by decide) ?_
            refine x_iald C w (i := 288) (K := 20) (j := 8) (n := 225) (jn := 8) rfl (rfl : kd 288 = 20) (by decide) rfl (show vp_in 8 225 from vp_lit (by decide) (by decide)) dX5_ifPassed_122 ?_
            refine lv_aload_n hx hb dX5_ifPassed_123 rfl (lv_at hl 0 rfl) ?_
            refine x_getM C w (k := 1) (v := .ref (ad 289)) (by decide) rfl mf_StairBowsModel_13 dX5_ifPassed_124 ?_
            refine lv_bipush (v := 8) hx hb dX5_ifPassed_127 (by decide) ?_
            refine x_iald C w (i := 289) (K := 21) (j := 8) (n := 225) (jn := 8) rfl (rfl : kd 289 = 21) (by decide) rfl (show vp_in 8 225 from vp_lit (by decide) (by decide)) dX5_ifPassed_129 ?_
            refine lv_isub hx hb dX5_ifPassed_130 ?_
            refine lv_istore (lv' := [(5, .int ((μ 288 8) - (μ 289 8))), (0, .ref (ad 287)), (1, .int v1), (2, .int v2), (3, .int v3), (4, .int v4)]) hx hb dX5_ifPassed_131 hl (by decide) rfl (fun ls hl => ?_)
            refine lv_aload_n hx hb dX5_ifPassed_133 rfl (lv_at hl 1 rfl) ?_
            refine x_callv C w (x_runV (i := 287) (As := []) (rest := []) C w (rfl : kd 287 = 7) (by decide) (ci := 5) rfl rfl rfl me_X5_comesBack ml_StairBowsModel_143 (c_X5_comesBack l g ad μ _  h) ⟨rfl, rfl⟩ ⟨Nat.le_of_ble_eq_true rfl, Nat.le_of_ble_eq_true rfl⟩ rfl hl.1 rfl (Nat.le_of_ble_eq_true rfl) dX5_ifPassed_134 ⟨Nat.le_of_ble_eq_true rfl, Nat.le_of_ble_eq_true rfl⟩) (fun m_16 h H locs w => ?_)
            refine lv_iload hx hb dX5_ifPassed_137 (lv_at hl 0 rfl) ?_
            exact x_iret C w h dX5_ifPassed_139
          · have h := h.2 c_15
            refine lv_aload_n hx hb dX5_ifPassed_98 rfl (lv_at hl 0 rfl) ?_
            refine x_getM C w (k := 0) (v := .ref (ad 288)) (by decide) rfl mf_StairBowsModel_7 dX5_ifPassed_99 ?_
            refine lv_bipush (v := 6) hx hb dX5_ifPassed_102 (by decide) ?_
            refine x_iald C w (i := 288) (K := 20) (j := 6) (n := 225) (jn := 6) rfl (rfl : kd 288 = 20) (by decide) rfl (show vp_in 6 225 from vp_lit (by decide) (by decide)) dX5_ifPassed_104 ?_
            refine lv_aload_n hx hb dX5_ifPassed_105 rfl (lv_at hl 0 rfl) ?_
            refine x_getM C w (k := 1) (v := .ref (ad 289)) (by decide) rfl mf_StairBowsModel_13 dX5_ifPassed_106 ?_
            refine lv_bipush (v := 6) hx hb dX5_ifPassed_109 (by decide) ?_
            refine x_iald C w (i := 289) (K := 21) (j := 6) (n := 225) (jn := 6) rfl (rfl : kd 289 = 21) (by decide) rfl (show vp_in 6 225 from vp_lit (by decide) (by decide)) dX5_ifPassed_111 ?_
            refine lv_isub hx hb dX5_ifPassed_112 ?_
            refine lv_goto (tgt := 131) hx hb dX5_ifPassed_113 (by decide) ?_
            refine lv_istore (lv' := [(5, .int ((μ 288 6) - (μ 289 6))), (0, .ref (ad 287)), (1, .int v1), (2, .int v2), (3, .int v3), (4, .int v4)]) hx hb dX5_ifPassed_131 hl (by decide) rfl (fun ls hl => ?_)
            refine lv_aload_n hx hb dX5_ifPassed_133 rfl (lv_at hl 1 rfl) ?_
            refine x_callv C w (x_runV (i := 287) (As := []) (rest := []) C w (rfl : kd 287 = 7) (by decide) (ci := 5) rfl rfl rfl me_X5_comesBack ml_StairBowsModel_143 (c_X5_comesBack l g ad μ _  h) ⟨rfl, rfl⟩ ⟨Nat.le_of_ble_eq_true rfl, Nat.le_of_ble_eq_true rfl⟩ rfl hl.1 rfl (Nat.le_of_ble_eq_true rfl) dX5_ifPassed_134 ⟨Nat.le_of_ble_eq_true rfl, Nat.le_of_ble_eq_true rfl⟩) (fun m_17 h H locs w => ?_)
            refine lv_iload hx hb dX5_ifPassed_137 (lv_at hl 0 rfl) ?_
            exact x_iret C w h dX5_ifPassed_139
        · have h := h.2 c_14
          refine lv_aload_n hx hb dX5_ifPassed_82 rfl (lv_at hl 0 rfl) ?_
          refine lv_iconst (v := 3) hx hb dX5_ifPassed_83 (by decide) ?_
          refine x_calli C w (x_runV (i := 287) (As := [.int 3]) (rest := []) C w (rfl : kd 287 = 7) (by decide) (ci := 5) rfl rfl rfl me_X5_thatAre ml_StairBowsModel_129 (c_X5_thatAre l g ad μ _ 3 h) ⟨rfl, rfl⟩ ⟨Nat.le_of_ble_eq_true rfl, Nat.le_of_ble_eq_true rfl⟩ rfl hl.1 rfl (Nat.le_of_ble_eq_true rfl) dX5_ifPassed_84 ⟨Nat.le_of_ble_eq_true rfl, Nat.le_of_ble_eq_true rfl⟩) (fun r_19 m_18 h H locs w => ?_)
          refine lv_iload hx hb dX5_ifPassed_87 (lv_at hl 4 rfl) ?_
          refine lv_isub hx hb dX5_ifPassed_89 ?_
          refine lv_goto (tgt := 131) hx hb dX5_ifPassed_90 (by decide) ?_
          refine lv_istore (lv' := [(5, .int (r_19 - v4)), (0, .ref (ad 287)), (1, .int v1), (2, .int v2), (3, .int v3), (4, .int v4)]) hx hb dX5_ifPassed_131 hl (by decide) rfl (fun ls hl => ?_)
          refine lv_aload_n hx hb dX5_ifPassed_133 rfl (lv_at hl 1 rfl) ?_
          refine x_callv C w (x_runV (i := 287) (As := []) (rest := []) C w (rfl : kd 287 = 7) (by decide) (ci := 5) rfl rfl rfl me_X5_comesBack ml_StairBowsModel_143 (c_X5_comesBack l g ad m_18 _  h) ⟨rfl, rfl⟩ ⟨Nat.le_of_ble_eq_true rfl, Nat.le_of_ble_eq_true rfl⟩ rfl hl.1 rfl (Nat.le_of_ble_eq_true rfl) dX5_ifPassed_134 ⟨Nat.le_of_ble_eq_true rfl, Nat.le_of_ble_eq_true rfl⟩) (fun m_20 h H locs w => ?_)
          refine lv_iload hx hb dX5_ifPassed_137 (lv_at hl 0 rfl) ?_
          exact x_iret C w h dX5_ifPassed_139
      · have h := h.2 c_13
        refine lv_aload_n hx hb dX5_ifPassed_67 rfl (lv_at hl 0 rfl) ?_
        refine lv_iconst (v := 2) hx hb dX5_ifPassed_68 (by decide) ?_
        refine x_calli C w (x_runV (i := 287) (As := [.int 2]) (rest := []) C w (rfl : kd 287 = 7) (by decide) (ci := 5) rfl rfl rfl me_X5_thatAre ml_StairBowsModel_129 (c_X5_thatAre l g ad μ _ 2 h) ⟨rfl, rfl⟩ ⟨Nat.le_of_ble_eq_true rfl, Nat.le_of_ble_eq_true rfl⟩ rfl hl.1 rfl (Nat.le_of_ble_eq_true rfl) dX5_ifPassed_69 ⟨Nat.le_of_ble_eq_true rfl, Nat.le_of_ble_eq_true rfl⟩) (fun r_22 m_21 h H locs w => ?_)
        refine lv_iload_n hx hb dX5_ifPassed_72 rfl (lv_at hl 3 rfl) ?_
        refine lv_isub hx hb dX5_ifPassed_73 ?_
        refine lv_goto (tgt := 131) hx hb dX5_ifPassed_74 (by decide) ?_
        refine lv_istore (lv' := [(5, .int (r_22 - v3)), (0, .ref (ad 287)), (1, .int v1), (2, .int v2), (3, .int v3), (4, .int v4)]) hx hb dX5_ifPassed_131 hl (by decide) rfl (fun ls hl => ?_)
        refine lv_aload_n hx hb dX5_ifPassed_133 rfl (lv_at hl 1 rfl) ?_
        refine x_callv C w (x_runV (i := 287) (As := []) (rest := []) C w (rfl : kd 287 = 7) (by decide) (ci := 5) rfl rfl rfl me_X5_comesBack ml_StairBowsModel_143 (c_X5_comesBack l g ad m_21 _  h) ⟨rfl, rfl⟩ ⟨Nat.le_of_ble_eq_true rfl, Nat.le_of_ble_eq_true rfl⟩ rfl hl.1 rfl (Nat.le_of_ble_eq_true rfl) dX5_ifPassed_134 ⟨Nat.le_of_ble_eq_true rfl, Nat.le_of_ble_eq_true rfl⟩) (fun m_23 h H locs w => ?_)
        refine lv_iload hx hb dX5_ifPassed_137 (lv_at hl 0 rfl) ?_
        exact x_iret C w h dX5_ifPassed_139
    · have h := h.2 c_12
      refine lv_aload_n hx hb dX5_ifPassed_53 rfl (lv_at hl 0 rfl) ?_
      refine x_callv C w (x_runV (i := 287) (As := []) (rest := []) C w (rfl : kd 287 = 7) (by decide) (ci := 5) rfl rfl rfl me_X5_ticks ml_StairBowsModel_132 (c_X5_ticks l g ad μ _  h) ⟨rfl, rfl⟩ ⟨Nat.le_of_ble_eq_true rfl, Nat.le_of_ble_eq_true rfl⟩ rfl hl.1 rfl (Nat.le_of_ble_eq_true rfl) dX5_ifPassed_54 ⟨Nat.le_of_ble_eq_true rfl, Nat.le_of_ble_eq_true rfl⟩) (fun m_24 h H locs w => ?_)
      refine lv_iinc (v := (v5 + 1)) (lv' := [(5, .int (v5 + 1)), (0, .ref (ad 287)), (1, .int v1), (2, .int v2), (3, .int v3), (4, .int v4)]) hx hb dX5_ifPassed_57 hl (k := 5) rfl rfl (by decide) rfl (fun ls hl => ?_)
      refine lv_goto (tgt := 47) hx hb dX5_ifPassed_60 (by decide) ?_
      exact ih (v5 + 1) m_24 _ _ _ h w (lv_sub hl [1, 2, 3, 4, 5, 0] rfl)
set_option maxHeartbeats 4000000 in
set_option maxRecDepth 100000 in
theorem c_X5_ifPassed (l : Launch) (g : Gv) (ad : Nat → Nat) (μ : Mem) (sz : Nat) (a1 : Int32) (a2 : Int32) {K : Int32 → Mem → Prop} (h : wp_X5_ifPassed a1 a2 μ K) : Met l yX5_ifPassed (wX yX5_ifPassed cX5_ifPassed 6 (some .int)) rm_X5_ifPassed (Pre g ad μ sz [.ref (ad 287), .int a1, .int a2]) (PostI g ad sz K) 0 0 (Aw ad sz) := by
  refine Met.ofW (cc := cX5_ifPassed) (maxL := 6) (ret := (some .int)) (by decide) rfl ?_
  intro p e s m args below meth c s₁ B hml hv
  obtain ⟨rfl, rfl, C, w⟩ := x_start B hml hv
  obtain ⟨hx, hb, hml, -, hts, hown, -, -, hN⟩ := id C
  have hl := lv_entry ([.ref (ad 287), .int a1, .int a2]) (n := 6) (Nat.le_of_ble_eq_true rfl)
  rw [lg_entry_eq]
  generalize (lg_sl ([.ref (ad 287), .int a1, .int a2]) ++ List.replicate (6 - (lg_sl ([.ref (ad 287), .int a1, .int a2])).length) Slot.unset).toArray = ls at hl ⊢
  have hl : lv_has ls 6 [(0, .ref (ad 287)), (1, .int a1), (2, .int a2)] := hl
  show W p l e rm_X5_ifPassed s m _ below meth c s.heap [] 0 0 _ _
  unfold wp_X5_ifPassed at h
  refine lv_iload_n hx hb dX5_ifPassed_0 rfl (lv_at hl 1 rfl) ?_
  refine lv_i2l (v := (Int32.toInt64 a1)) hx hb dX5_ifPassed_1 rfl ?_
  refine lv_lconst (v := 1) hx hb dX5_ifPassed_2 (by decide) ?_
  refine lv_ldc2 (v := 200) hx hb hown (hts _ mk_StairBowsModel_155) dX5_ifPassed_3 ?_
  refine x_calli C w (x_runS (As := [.long (Int32.toInt64 a1), .long 1, .long 200]) (rest := []) C w me_X5_in ml_StairBowsModel_35 (c_X5_in l g ad μ _ (Int32.toInt64 a1) 1 200 h) ⟨rfl, rfl⟩ ⟨Nat.le_of_ble_eq_true rfl, Nat.le_of_ble_eq_true rfl⟩ rfl hl.1 rfl (Nat.le_of_ble_eq_true rfl) dX5_ifPassed_6 ⟨Nat.le_of_ble_eq_true rfl, Nat.le_of_ble_eq_true rfl⟩) (fun r_2 m_1 h H locs w => ?_)
  refine lv_if_eq (tgt := 24) hx hb dX5_ifPassed_9 (by decide) (fun c_3 => ?_) (fun c_3 => ?_)
  · have h := h.1 c_3
    refine lv_bipush (v := -2) hx hb dX5_ifPassed_24 (by decide) ?_
    exact x_iret C w h dX5_ifPassed_26
  · have h := h.2 c_3
    refine lv_iload_n hx hb dX5_ifPassed_12 rfl (lv_at hl 2 rfl) ?_
    refine lv_i2l (v := (Int32.toInt64 a2)) hx hb dX5_ifPassed_13 rfl ?_
    refine lv_lconst (v := 0) hx hb dX5_ifPassed_14 (by decide) ?_
    refine lv_ldc2 (v := 3) hx hb hown (hts _ mk_StairBowsModel_157) dX5_ifPassed_15 ?_
    refine x_calli C w (x_runS (As := [.long (Int32.toInt64 a2), .long 0, .long 3]) (rest := []) C w me_X5_in ml_StairBowsModel_35 (c_X5_in l g ad m_1 _ (Int32.toInt64 a2) 0 3 h) ⟨rfl, rfl⟩ ⟨Nat.le_of_ble_eq_true rfl, Nat.le_of_ble_eq_true rfl⟩ rfl hl.1 rfl (Nat.le_of_ble_eq_true rfl) dX5_ifPassed_18 ⟨Nat.le_of_ble_eq_true rfl, Nat.le_of_ble_eq_true rfl⟩) (fun r_5 m_4 h H locs w => ?_)
    refine lv_if_ne (tgt := 27) hx hb dX5_ifPassed_21 (by decide) (fun c_6 => ?_) (fun c_6 => ?_)
    · have h := h.1 c_6
      refine lv_aload_n hx hb dX5_ifPassed_27 rfl (lv_at hl 0 rfl) ?_
      refine lv_iconst (v := 2) hx hb dX5_ifPassed_28 (by decide) ?_
      refine x_calli C w (x_runV (i := 287) (As := [.int 2]) (rest := []) C w (rfl : kd 287 = 7) (by decide) (ci := 5) rfl rfl rfl me_X5_thatAre ml_StairBowsModel_129 (c_X5_thatAre l g ad m_4 _ 2 h) ⟨rfl, rfl⟩ ⟨Nat.le_of_ble_eq_true rfl, Nat.le_of_ble_eq_true rfl⟩ rfl hl.1 rfl (Nat.le_of_ble_eq_true rfl) dX5_ifPassed_29 ⟨Nat.le_of_ble_eq_true rfl, Nat.le_of_ble_eq_true rfl⟩) (fun r_8 m_7 h H locs w => ?_)
      refine lv_istore_n (lv' := [(3, .int r_8), (0, .ref (ad 287)), (1, .int a1), (2, .int a2)]) hx hb dX5_ifPassed_32 rfl hl (by decide) rfl (fun ls hl => ?_)
      refine lv_aload_n hx hb dX5_ifPassed_33 rfl (lv_at hl 1 rfl) ?_
      refine lv_iconst (v := 3) hx hb dX5_ifPassed_34 (by decide) ?_
      refine x_calli C w (x_runV (i := 287) (As := [.int 3]) (rest := []) C w (rfl : kd 287 = 7) (by decide) (ci := 5) rfl rfl rfl me_X5_thatAre ml_StairBowsModel_129 (c_X5_thatAre l g ad m_7 _ 3 h) ⟨rfl, rfl⟩ ⟨Nat.le_of_ble_eq_true rfl, Nat.le_of_ble_eq_true rfl⟩ rfl hl.1 rfl (Nat.le_of_ble_eq_true rfl) dX5_ifPassed_35 ⟨Nat.le_of_ble_eq_true rfl, Nat.le_of_ble_eq_true rfl⟩) (fun r_10 m_9 h H locs w => ?_)
      refine lv_istore (lv' := [(4, .int r_10), (3, .int r_8), (0, .ref (ad 287)), (1, .int a1), (2, .int a2)]) hx hb dX5_ifPassed_38 hl (by decide) rfl (fun ls hl => ?_)
      refine lv_aload_n hx hb dX5_ifPassed_40 rfl (lv_at hl 2 rfl) ?_
      refine x_callv C w (x_runV (i := 287) (As := []) (rest := []) C w (rfl : kd 287 = 7) (by decide) (ci := 5) rfl rfl rfl me_X5_keeps ml_StairBowsModel_140 (c_X5_keeps l g ad m_9 _  h) ⟨rfl, rfl⟩ ⟨Nat.le_of_ble_eq_true rfl, Nat.le_of_ble_eq_true rfl⟩ rfl hl.1 rfl (Nat.le_of_ble_eq_true rfl) dX5_ifPassed_41 ⟨Nat.le_of_ble_eq_true rfl, Nat.le_of_ble_eq_true rfl⟩) (fun m_11 h H locs w => ?_)
      refine lv_iconst (v := 0) hx hb dX5_ifPassed_44 (by decide) ?_
      refine lv_istore (lv' := [(5, .int 0), (4, .int r_10), (3, .int r_8), (0, .ref (ad 287)), (1, .int a1), (2, .int a2)]) hx hb dX5_ifPassed_45 hl (by decide) rfl (fun ls hl => ?_)
      obtain ⟨n_25, h⟩ := h
      exact t_X5_ifPassed_L47 C n_25 0 m_11 _ _ _ h w (lv_sub hl [3, 4, 5, 2, 1, 0] rfl)
    · have h := h.2 c_6
      refine lv_bipush (v := -2) hx hb dX5_ifPassed_24 (by decide) ?_
      exact x_iret C w h dX5_ifPassed_26
abbrev rm_X5_bestLanding : Room := { frames := 8, cells := 0, slots := 0, locals := 183 }
noncomputable def wp_X5_bestLanding_B76 (v1 : Int32) (v2 : Int32) (v3 : Int32) (v4 : Int32) (v5 : Int32) (s0 : Int32) (K : Int32 → Mem → Prop) (E15 : Int32 → Int32 → Int32 → Mem → Prop) (μ : Mem) : Prop :=
    ((s0 = 0 → ((s0 = 0 → E15 v1 v2 (v4 + 1) μ) ∧ (¬ s0 = 0 → E15 v1 v5 (v4 + 1) μ))) ∧ (¬ s0 = 0 → ((s0 = 0 → E15 v4 v2 (v4 + 1) μ) ∧ (¬ s0 = 0 → E15 v4 v5 (v4 + 1) μ))))
noncomputable def wp_X5_bestLanding_L15 (v3 : Int32) (K : Int32 → Mem → Prop) (n : Nat) : Int32 → Int32 → Int32 → Mem → Prop :=
  Nat.rec (motive := fun _ => Int32 → Int32 → Int32 → Mem → Prop) (fun _ _ _ _ => False) (fun _ ih v1 v2 v4 μ =>
    ((12 ≤ v4 → K v1 μ) ∧ (¬ 12 ≤ v4 → (wp_X5_isLanding v4 μ (fun r_3 m_2 => ((¬ r_3 = 0 → ih v1 v2 (v4 + 1) m_2) ∧ (r_3 = 0 → (∀ m_5, m_5 = up2 m_2 288 5 (v3 ||| (1 <<< (v4 &&& 31))) → (wp_X5_ifPassed 50 2 m_5 (fun r_8 m_7 => (∀ m_9, m_9 = up2 m_7 288 5 v3 → ((v1 = (-6) → wp_X5_bestLanding_B76 v1 v2 v3 v4 r_8 1 K ih m_9) ∧ (¬ v1 = (-6) → ((v2 ≤ r_8 → wp_X5_bestLanding_B76 v1 v2 v3 v4 r_8 0 K ih m_9) ∧ (¬ v2 ≤ r_8 → wp_X5_bestLanding_B76 v1 v2 v3 v4 r_8 1 K ih m_9))))))))))))))) n
theorem wp_X5_bestLanding_L15_s (v3 : Int32) (K : Int32 → Mem → Prop) (n : Nat) (v1 : Int32) (v2 : Int32) (v4 : Int32) (μ : Mem) : wp_X5_bestLanding_L15 v3 K (n + 1) v1 v2 v4 μ = (
    let ih := wp_X5_bestLanding_L15 v3 K n
    ((12 ≤ v4 → K v1 μ) ∧ (¬ 12 ≤ v4 → (wp_X5_isLanding v4 μ (fun r_3 m_2 => ((¬ r_3 = 0 → ih v1 v2 (v4 + 1) m_2) ∧ (r_3 = 0 → (∀ m_5, m_5 = up2 m_2 288 5 (v3 ||| (1 <<< (v4 &&& 31))) → (wp_X5_ifPassed 50 2 m_5 (fun r_8 m_7 => (∀ m_9, m_9 = up2 m_7 288 5 v3 → ((v1 = (-6) → wp_X5_bestLanding_B76 v1 v2 v3 v4 r_8 1 K ih m_9) ∧ (¬ v1 = (-6) → ((v2 ≤ r_8 → wp_X5_bestLanding_B76 v1 v2 v3 v4 r_8 0 K ih m_9) ∧ (¬ v2 ≤ r_8 → wp_X5_bestLanding_B76 v1 v2 v3 v4 r_8 1 K ih m_9))))))))))))))) := rfl
noncomputable def wp_X5_bestLanding  (μ : Mem) (K : Int32 → Mem → Prop) : Prop :=
    (∃ n, wp_X5_bestLanding_L15 (μ 288 5) K n (-6) 0 0 μ)
set_option maxHeartbeats 4000000 in
set_option maxRecDepth 100000 in
theorem t_X5_bestLanding_B76 {g : Gv} {ad : Nat → Nat} {l : Launch} {p : Program} {e : Env} {s : State} {m : MethodId} {args : Array Value} {below : List Frame} {meth : Method} {c : Code} (C : Cx g p s m args meth c "StairBowsModel" cX5_bestLanding 7 (some .int)) {v1 : Int32} {v2 : Int32} {v3 : Int32} {v4 : Int32} {v5 : Int32} {s0 : Int32}  {K : Int32 → Mem → Prop} {E15 : Int32 → Int32 → Int32 → Mem → Prop}  (hE15 : ∀ (v1 : Int32) (v2 : Int32) (v4 : Int32) (μ : Mem) (H : Heap) (locs : List Loc) (ls : Array Slot), E15 v1 v2 v4 μ → Wd g ad μ (Aw ad s.heap.size) s H locs → lv_has ls 7 [(0, .ref (ad 287)), (1, .int v1), (2, .int v2), (3, .int v3), (4, .int v4)] → W p l e rm_X5_bestLanding s m args below meth c H locs 0 0 (MQ below (PostI g ad s.heap.size K) args s 0 0 (Aw ad s.heap.size)) (F0 m 15 ls [])) (μ : Mem) (H : Heap) (locs : List Loc) (ls : Array Slot) (h : wp_X5_bestLanding_B76 v1 v2 v3 v4 v5 s0 K E15 μ) (w : Wd g ad μ (Aw ad s.heap.size) s H locs) (hl : lv_has ls 7 [(0, .ref (ad 287)), (1, .int v1), (2, .int v2), (3, .int v3), (4, .int v4), (5, .int v5)]) : W p l e rm_X5_bestLanding s m args below meth c H locs 0 0 (MQ below (PostI g ad s.heap.size K) args s 0 0 (Aw ad s.heap.size)) (F0 m 76 ls [.int s0]) := by
  obtain ⟨hx, hb, hml, -, hts, hown, -, -, hN⟩ := id C
  unfold wp_X5_bestLanding_B76 at h
  refine lv_istore (lv' := [(6, .int s0), (0, .ref (ad 287)), (1, .int v1), (2, .int v2), (3, .int v3), (4, .int v4), (5, .int v5)]) hx hb dX5_bestLanding_76 hl (by decide) rfl (fun ls hl => ?_)
  refine lv_iload hx hb dX5_bestLanding_78 (lv_at hl 0 rfl) ?_
  refine lv_if_eq (tgt := 88) hx hb dX5_bestLanding_80 (by decide) (fun c_12 => ?_) (fun c_12 => ?_)
  · have h := h.1 c_12
    refine lv_iload_n hx hb dX5_bestLanding_88 rfl (lv_at hl 2 rfl) ?_
    refine lv_istore_n (lv' := [(1, .int v1), (6, .int s0), (0, .ref (ad 287)), (2, .int v2), (3, .int v3), (4, .int v4), (5, .int v5)]) hx hb dX5_bestLanding_89 rfl hl (by decide) rfl (fun ls hl => ?_)
    refine lv_iload hx hb dX5_bestLanding_90 (lv_at hl 1 rfl) ?_
    refine lv_if_eq (tgt := 100) hx hb dX5_bestLanding_92 (by decide) (fun c_13 => ?_) (fun c_13 => ?_)
    · have h := h.1 c_13
      refine lv_iload_n hx hb dX5_bestLanding_100 rfl (lv_at hl 3 rfl) ?_
      refine lv_istore_n (lv' := [(2, .int v2), (1, .int v1), (6, .int s0), (0, .ref (ad 287)), (3, .int v3), (4, .int v4), (5, .int v5)]) hx hb dX5_bestLanding_101 rfl hl (by decide) rfl (fun ls hl => ?_)
      refine lv_iinc (v := (v4 + 1)) (lv' := [(4, .int (v4 + 1)), (2, .int v2), (1, .int v1), (6, .int s0), (0, .ref (ad 287)), (3, .int v3), (5, .int v5)]) hx hb dX5_bestLanding_102 hl (k := 5) rfl rfl (by decide) rfl (fun ls hl => ?_)
      refine lv_goto (tgt := 15) hx hb dX5_bestLanding_105 (by decide) ?_
      exact hE15 v1 v2 (v4 + 1) μ _ _ _ h w (lv_sub hl [4, 2, 1, 5, 0] rfl)
    · have h := h.2 c_13
      refine lv_iload hx hb dX5_bestLanding_95 (lv_at hl 6 rfl) ?_
      refine lv_goto (tgt := 101) hx hb dX5_bestLanding_97 (by decide) ?_
      refine lv_istore_n (lv' := [(2, .int v5), (1, .int v1), (6, .int s0), (0, .ref (ad 287)), (3, .int v3), (4, .int v4), (5, .int v5)]) hx hb dX5_bestLanding_101 rfl hl (by decide) rfl (fun ls hl => ?_)
      refine lv_iinc (v := (v4 + 1)) (lv' := [(4, .int (v4 + 1)), (2, .int v5), (1, .int v1), (6, .int s0), (0, .ref (ad 287)), (3, .int v3), (5, .int v5)]) hx hb dX5_bestLanding_102 hl (k := 5) rfl rfl (by decide) rfl (fun ls hl => ?_)
      refine lv_goto (tgt := 15) hx hb dX5_bestLanding_105 (by decide) ?_
      exact hE15 v1 v5 (v4 + 1) μ _ _ _ h w (lv_sub hl [4, 2, 1, 5, 0] rfl)
  · have h := h.2 c_12
    refine lv_iload hx hb dX5_bestLanding_83 (lv_at hl 5 rfl) ?_
    refine lv_goto (tgt := 89) hx hb dX5_bestLanding_85 (by decide) ?_
    refine lv_istore_n (lv' := [(1, .int v4), (6, .int s0), (0, .ref (ad 287)), (2, .int v2), (3, .int v3), (4, .int v4), (5, .int v5)]) hx hb dX5_bestLanding_89 rfl hl (by decide) rfl (fun ls hl => ?_)
    refine lv_iload hx hb dX5_bestLanding_90 (lv_at hl 1 rfl) ?_
    refine lv_if_eq (tgt := 100) hx hb dX5_bestLanding_92 (by decide) (fun c_14 => ?_) (fun c_14 => ?_)
    · have h := h.1 c_14
      refine lv_iload_n hx hb dX5_bestLanding_100 rfl (lv_at hl 3 rfl) ?_
      refine lv_istore_n (lv' := [(2, .int v2), (1, .int v4), (6, .int s0), (0, .ref (ad 287)), (3, .int v3), (4, .int v4), (5, .int v5)]) hx hb dX5_bestLanding_101 rfl hl (by decide) rfl (fun ls hl => ?_)
      refine lv_iinc (v := (v4 + 1)) (lv' := [(4, .int (v4 + 1)), (2, .int v2), (1, .int v4), (6, .int s0), (0, .ref (ad 287)), (3, .int v3), (5, .int v5)]) hx hb dX5_bestLanding_102 hl (k := 5) rfl rfl (by decide) rfl (fun ls hl => ?_)
      refine lv_goto (tgt := 15) hx hb dX5_bestLanding_105 (by decide) ?_
      exact hE15 v4 v2 (v4 + 1) μ _ _ _ h w (lv_sub hl [4, 2, 1, 5, 0] rfl)
    · have h := h.2 c_14
      refine lv_iload hx hb dX5_bestLanding_95 (lv_at hl 6 rfl) ?_
      refine lv_goto (tgt := 101) hx hb dX5_bestLanding_97 (by decide) ?_
      refine lv_istore_n (lv' := [(2, .int v5), (1, .int v4), (6, .int s0), (0, .ref (ad 287)), (3, .int v3), (4, .int v4), (5, .int v5)]) hx hb dX5_bestLanding_101 rfl hl (by decide) rfl (fun ls hl => ?_)
      refine lv_iinc (v := (v4 + 1)) (lv' := [(4, .int (v4 + 1)), (2, .int v5), (1, .int v4), (6, .int s0), (0, .ref (ad 287)), (3, .int v3), (5, .int v5)]) hx hb dX5_bestLanding_102 hl (k := 5) rfl rfl (by decide) rfl (fun ls hl => ?_)
      refine lv_goto (tgt := 15) hx hb dX5_bestLanding_105 (by decide) ?_
      exact hE15 v4 v5 (v4 + 1) μ _ _ _ h w (lv_sub hl [4, 2, 1, 5, 0] rfl)
set_option maxHeartbeats 4000000 in
set_option maxRecDepth 100000 in
theorem t_X5_bestLanding_L15 {g : Gv} {ad : Nat → Nat} {l : Launch} {p : Program} {e : Env} {s : State} {m : MethodId} {args : Array Value} {below : List Frame} {meth : Method} {c : Code} (C : Cx g p s m args meth c "StairBowsModel" cX5_bestLanding 7 (some .int)) {v3 : Int32}  {K : Int32 → Mem → Prop}    : ∀ (n : Nat) (v1 : Int32) (v2 : Int32) (v4 : Int32) (μ : Mem) (H : Heap) (locs : List Loc) (ls : Array Slot), wp_X5_bestLanding_L15 v3 K n v1 v2 v4 μ → Wd g ad μ (Aw ad s.heap.size) s H locs → lv_has ls 7 [(0, .ref (ad 287)), (1, .int v1), (2, .int v2), (3, .int v3), (4, .int v4)] → W p l e rm_X5_bestLanding s m args below meth c H locs 0 0 (MQ below (PostI g ad s.heap.size K) args s 0 0 (Aw ad s.heap.size)) (F0 m 15 ls []) := by
  obtain ⟨hx, hb, hml, -, hts, hown, -, -, hN⟩ := id C
  intro n
  induction n with
  | zero =>
    intro v1 v2 v4 μ H locs ls h w hl
    exact (show False from h).elim
  | succ n ih =>
    intro v1 v2 v4 μ H locs ls h w hl
    rw [wp_X5_bestLanding_L15_s] at h
    dsimp only at h
    refine lv_iload hx hb dX5_bestLanding_15 (lv_at hl 4 rfl) ?_
    refine lv_bipush (v := 12) hx hb dX5_bestLanding_17 (by decide) ?_
    refine lv_icmp_ge (tgt := 108) hx hb dX5_bestLanding_19 (by decide) (fun c_1 => ?_) (fun c_1 => ?_)
    · have h := h.1 c_1
      refine lv_iload_n hx hb dX5_bestLanding_108 rfl (lv_at hl 1 rfl) ?_
      exact x_iret C w h dX5_bestLanding_109
    · have h := h.2 c_1
      refine lv_aload_n hx hb dX5_bestLanding_22 rfl (lv_at hl 0 rfl) ?_
      refine lv_iload hx hb dX5_bestLanding_23 (lv_at hl 4 rfl) ?_
      refine x_calli C w (x_runV (i := 287) (As := [.int v4]) (rest := []) C w (rfl : kd 287 = 7) (by decide) (ci := 5) rfl rfl rfl me_X5_isLanding ml_StairBowsModel_49 (c_X5_isLanding l g ad μ _ v4 h) ⟨rfl, rfl⟩ ⟨Nat.le_of_ble_eq_true rfl, Nat.le_of_ble_eq_true rfl⟩ rfl hl.1 rfl (Nat.le_of_ble_eq_true rfl) dX5_bestLanding_25 ⟨Nat.le_of_ble_eq_true rfl, Nat.le_of_ble_eq_true rfl⟩) (fun r_3 m_2 h H locs w => ?_)
      refine lv_if_ne (tgt := 102) hx hb dX5_bestLanding_28 (by decide) (fun c_4 => ?_) (fun c_4 => ?_)
      · have h := h.1 c_4
        refine lv_iinc (v := (v4 + 1)) (lv' := [(4, .int (v4 + 1)), (0, .ref (ad 287)), (1, .int v1), (2, .int v2), (3, .int v3)]) hx hb dX5_bestLanding_102 hl (k := 4) rfl rfl (by decide) rfl (fun ls hl => ?_)
        refine lv_goto (tgt := 15) hx hb dX5_bestLanding_105 (by decide) ?_
        exact ih v1 v2 (v4 + 1) m_2 _ _ _ h w (lv_sub hl [1, 2, 3, 4, 0] rfl)
      · have h := h.2 c_4
        refine lv_aload_n hx hb dX5_bestLanding_31 rfl (lv_at hl 0 rfl) ?_
        refine x_getM C w (k := 0) (v := .ref (ad 288)) (by decide) rfl mf_StairBowsModel_7 dX5_bestLanding_32 ?_
        refine lv_iconst (v := 5) hx hb dX5_bestLanding_35 (by decide) ?_
        refine lv_iload_n hx hb dX5_bestLanding_36 rfl (lv_at hl 3 rfl) ?_
        refine lv_iconst (v := 1) hx hb dX5_bestLanding_37 (by decide) ?_
        refine lv_iload hx hb dX5_bestLanding_38 (lv_at hl 4 rfl) ?_
        refine lv_ishl hx hb dX5_bestLanding_40 ?_
        refine lv_ior hx hb dX5_bestLanding_41 ?_
        refine x_iast C w (i := 288) (K := 20) (n := 225) (jn := 5) rfl (rfl : kd 288 = 20) (by decide) (fun _ => rfl) (show vp_in 5 225 from vp_lit (by decide) (by decide)) dX5_bestLanding_42 (fun m_5 e_6 H locs w => ?_)
        have h := h m_5 e_6
        refine lv_aload_n hx hb dX5_bestLanding_43 rfl (lv_at hl 0 rfl) ?_
        refine lv_bipush (v := 50) hx hb dX5_bestLanding_44 (by decide) ?_
        refine lv_iconst (v := 2) hx hb dX5_bestLanding_46 (by decide) ?_
        refine x_calli C w (x_runV (i := 287) (As := [.int 50, .int 2]) (rest := []) C w (rfl : kd 287 = 7) (by decide) (ci := 5) rfl rfl rfl me_X5_ifPassed ml_StairBowsModel_159 (c_X5_ifPassed l g ad m_5 _ 50 2 h) ⟨rfl, rfl⟩ ⟨Nat.le_of_ble_eq_true rfl, Nat.le_of_ble_eq_true rfl⟩ rfl hl.1 rfl (Nat.le_of_ble_eq_true rfl) dX5_bestLanding_47 ⟨Nat.le_of_ble_eq_true rfl, Nat.le_of_ble_eq_true rfl⟩) (fun r_8 m_7 h H locs w => ?_)
        refine lv_istore (lv' := [(5, .int r_8), (0, .ref (ad 287)), (1, .int v1), (2, .int v2), (3, .int v3), (4, .int v4)]) hx hb dX5_bestLanding_50 hl (by decide) rfl (fun ls hl => ?_)
        refine lv_aload_n hx hb dX5_bestLanding_52 rfl (lv_at hl 1 rfl) ?_
        refine x_getM C w (k := 0) (v := .ref (ad 288)) (by decide) rfl mf_StairBowsModel_7 dX5_bestLanding_53 ?_
        refine lv_iconst (v := 5) hx hb dX5_bestLanding_56 (by decide) ?_
        refine lv_iload_n hx hb dX5_bestLanding_57 rfl (lv_at hl 4 rfl) ?_
        refine x_iast C w (i := 288) (K := 20) (n := 225) (jn := 5) rfl (rfl : kd 288 = 20) (by decide) (fun _ => rfl) (show vp_in 5 225 from vp_lit (by decide) (by decide)) dX5_bestLanding_58 (fun m_9 e_10 H locs w => ?_)
        have h := h m_9 e_10
        refine lv_iload_n hx hb dX5_bestLanding_59 rfl (lv_at hl 2 rfl) ?_
        refine lv_bipush (v := -6) hx hb dX5_bestLanding_60 (by decide) ?_
        refine lv_icmp_eq (tgt := 71) hx hb dX5_bestLanding_62 (by decide) (fun c_11 => ?_) (fun c_11 => ?_)
        · have h := h.1 c_11
          refine lv_iconst (v := 1) hx hb dX5_bestLanding_71 (by decide) ?_
          refine lv_goto (tgt := 76) hx hb dX5_bestLanding_72 (by decide) ?_
          exact t_X5_bestLanding_B76 C ih m_9 _ _ _ h w (lv_sub hl [1, 2, 3, 4, 5, 0] rfl)
        · have h := h.2 c_11
          refine lv_iload hx hb dX5_bestLanding_65 (lv_at hl 0 rfl) ?_
          refine lv_iload_n hx hb dX5_bestLanding_67 rfl (lv_at hl 3 rfl) ?_
          refine lv_icmp_ge (tgt := 75) hx hb dX5_bestLanding_68 (by decide) (fun c_15 => ?_) (fun c_15 => ?_)
          · have h := h.1 c_15
            refine lv_iconst (v := 0) hx hb dX5_bestLanding_75 (by decide) ?_
            exact t_X5_bestLanding_B76 C ih m_9 _ _ _ h w (lv_sub hl [1, 2, 3, 4, 5, 0] rfl)
          · have h := h.2 c_15
            refine lv_iconst (v := 1) hx hb dX5_bestLanding_71 (by decide) ?_
            refine lv_goto (tgt := 76) hx hb dX5_bestLanding_72 (by decide) ?_
            exact t_X5_bestLanding_B76 C ih m_9 _ _ _ h w (lv_sub hl [1, 2, 3, 4, 5, 0] rfl)
set_option maxHeartbeats 4000000 in
set_option maxRecDepth 100000 in
theorem c_X5_bestLanding (l : Launch) (g : Gv) (ad : Nat → Nat) (μ : Mem) (sz : Nat)  {K : Int32 → Mem → Prop} (h : wp_X5_bestLanding μ K) : Met l yX5_bestLanding (wX yX5_bestLanding cX5_bestLanding 7 (some .int)) rm_X5_bestLanding (Pre g ad μ sz [.ref (ad 287)]) (PostI g ad sz K) 0 0 (Aw ad sz) := by
  refine Met.ofW (cc := cX5_bestLanding) (maxL := 7) (ret := (some .int)) (by decide) rfl ?_
  intro p e s m args below meth c s₁ B hml hv
  obtain ⟨rfl, rfl, C, w⟩ := x_start B hml hv
  obtain ⟨hx, hb, hml, -, hts, hown, -, -, hN⟩ := id C
  have hl := lv_entry ([.ref (ad 287)]) (n := 7) (Nat.le_of_ble_eq_true rfl)
  rw [lg_entry_eq]
  generalize (lg_sl ([.ref (ad 287)]) ++ List.replicate (7 - (lg_sl ([.ref (ad 287)])).length) Slot.unset).toArray = ls at hl ⊢
  have hl : lv_has ls 7 [(0, .ref (ad 287))] := hl
  show W p l e rm_X5_bestLanding s m _ below meth c s.heap [] 0 0 _ _
  unfold wp_X5_bestLanding at h
  refine lv_bipush (v := -6) hx hb dX5_bestLanding_0 (by decide) ?_
  refine lv_istore_n (lv' := [(1, .int (-6)), (0, .ref (ad 287))]) hx hb dX5_bestLanding_2 rfl hl (by decide) rfl (fun ls hl => ?_)
  refine lv_iconst (v := 0) hx hb dX5_bestLanding_3 (by decide) ?_
  refine lv_istore_n (lv' := [(2, .int 0), (1, .int (-6)), (0, .ref (ad 287))]) hx hb dX5_bestLanding_4 rfl hl (by decide) rfl (fun ls hl => ?_)
  refine lv_aload_n hx hb dX5_bestLanding_5 rfl (lv_at hl 2 rfl) ?_
  refine x_getM C w (k := 0) (v := .ref (ad 288)) (by decide) rfl mf_StairBowsModel_7 dX5_bestLanding_6 ?_
  refine lv_iconst (v := 5) hx hb dX5_bestLanding_9 (by decide) ?_
  refine x_iald C w (i := 288) (K := 20) (j := 5) (n := 225) (jn := 5) rfl (rfl : kd 288 = 20) (by decide) rfl (show vp_in 5 225 from vp_lit (by decide) (by decide)) dX5_bestLanding_10 ?_
  refine lv_istore_n (lv' := [(3, .int (μ 288 5)), (2, .int 0), (1, .int (-6)), (0, .ref (ad 287))]) hx hb dX5_bestLanding_11 rfl hl (by decide) rfl (fun ls hl => ?_)
  refine lv_iconst (v := 0) hx hb dX5_bestLanding_12 (by decide) ?_
  refine lv_istore (lv' := [(4, .int 0), (3, .int (μ 288 5)), (2, .int 0), (1, .int (-6)), (0, .ref (ad 287))]) hx hb dX5_bestLanding_13 hl (by decide) rfl (fun ls hl => ?_)
  obtain ⟨n_16, h⟩ := h
  exact t_X5_bestLanding_L15 C n_16 (-6) 0 0 μ _ _ _ h w (lv_sub hl [4, 3, 2, 1, 0] rfl)
abbrev rm_X5_charactersOf : Room := { frames := 1, cells := 0, slots := 0, locals := 25 }
noncomputable def wp_X5_charactersOf_L5 (K : Int32 → Mem → Prop) (n : Nat) : Int64 → Int32 → Mem → Prop :=
  Nat.rec (motive := fun _ => Int64 → Int32 → Mem → Prop) (fun _ _ _ => False) (fun _ ih v2 v4 μ =>
    ((8 ≤ v4 → ((¬ (lg_cmp v2 0) = 0 → K 0 μ) ∧ ((lg_cmp v2 0) = 0 → K v4 μ))) ∧ (¬ 8 ≤ v4 → (wp_X5_in (v2 &&& 255) 33 126 μ (fun r_4 m_3 => ((r_4 = 0 → ((¬ (lg_cmp v2 0) = 0 → K 0 m_3) ∧ ((lg_cmp v2 0) = 0 → K v4 m_3))) ∧ (¬ r_4 = 0 → ih (lsr v2 8) (v4 + 1) m_3))))))) n
theorem wp_X5_charactersOf_L5_s (K : Int32 → Mem → Prop) (n : Nat) (v2 : Int64) (v4 : Int32) (μ : Mem) : wp_X5_charactersOf_L5 K (n + 1) v2 v4 μ = (
    let ih := wp_X5_charactersOf_L5 K n
    ((8 ≤ v4 → ((¬ (lg_cmp v2 0) = 0 → K 0 μ) ∧ ((lg_cmp v2 0) = 0 → K v4 μ))) ∧ (¬ 8 ≤ v4 → (wp_X5_in (v2 &&& 255) 33 126 μ (fun r_4 m_3 => ((r_4 = 0 → ((¬ (lg_cmp v2 0) = 0 → K 0 m_3) ∧ ((lg_cmp v2 0) = 0 → K v4 m_3))) ∧ (¬ r_4 = 0 → ih (lsr v2 8) (v4 + 1) m_3))))))) := rfl
noncomputable def wp_X5_charactersOf (a0 : Int64) (μ : Mem) (K : Int32 → Mem → Prop) : Prop :=
    (∃ n, wp_X5_charactersOf_L5 K n a0 0 μ)
set_option maxHeartbeats 4000000 in
set_option maxRecDepth 100000 in
theorem t_X5_charactersOf_L5 {g : Gv} {ad : Nat → Nat} {l : Launch} {p : Program} {e : Env} {s : State} {m : MethodId} {args : Array Value} {below : List Frame} {meth : Method} {c : Code} (C : Cx g p s m args meth c "StairBowsModel" cX5_charactersOf 5 (some .int))   {K : Int32 → Mem → Prop}    : ∀ (n : Nat) (v2 : Int64) (v4 : Int32) (μ : Mem) (H : Heap) (locs : List Loc) (ls : Array Slot), wp_X5_charactersOf_L5 K n v2 v4 μ → Wd g ad μ (Aw ad s.heap.size) s H locs → lv_has ls 5 [(2, .long v2), (4, .int v4)] → W p l e rm_X5_charactersOf s m args below meth c H locs 0 0 (MQ below (PostI g ad s.heap.size K) args s 0 0 (Aw ad s.heap.size)) (F0 m 5 ls []) := by
  obtain ⟨hx, hb, hml, -, hts, hown, -, -, hN⟩ := id C
  intro n
  induction n with
  | zero =>
    intro v2 v4 μ H locs ls h w hl
    exact (show False from h).elim
  | succ n ih =>
    intro v2 v4 μ H locs ls h w hl
    rw [wp_X5_charactersOf_L5_s] at h
    dsimp only at h
    refine lv_iload hx hb dX5_charactersOf_5 (lv_at hl 1 rfl) ?_
    refine lv_bipush (v := 8) hx hb dX5_charactersOf_7 (by decide) ?_
    refine lv_icmp_ge (tgt := 40) hx hb dX5_charactersOf_9 (by decide) (fun c_1 => ?_) (fun c_1 => ?_)
    · have h := h.1 c_1
      refine lv_lload_n hx hb dX5_charactersOf_40 rfl (lv_at hl 0 rfl) ?_
      refine lv_lconst (v := 0) hx hb dX5_charactersOf_41 (by decide) ?_
      refine W.lcmp hx hb dX5_charactersOf_42 ?_
      refine lv_if_ne (tgt := 51) hx hb dX5_charactersOf_43 (by decide) (fun c_2 => ?_) (fun c_2 => ?_)
      · have h := h.1 c_2
        refine lv_iconst (v := 0) hx hb dX5_charactersOf_51 (by decide) ?_
        exact x_iret C w h dX5_charactersOf_52
      · have h := h.2 c_2
        refine lv_iload hx hb dX5_charactersOf_46 (lv_at hl 1 rfl) ?_
        refine lv_goto (tgt := 52) hx hb dX5_charactersOf_48 (by decide) ?_
        exact x_iret C w h dX5_charactersOf_52
    · have h := h.2 c_1
      refine lv_lload_n hx hb dX5_charactersOf_12 rfl (lv_at hl 0 rfl) ?_
      refine lv_ldc2 (v := 255) hx hb hown (hts _ mk_StairBowsModel_162) dX5_charactersOf_13 ?_
      refine lv_land hx hb dX5_charactersOf_16 ?_
      refine lv_ldc2 (v := 33) hx hb hown (hts _ mk_StairBowsModel_164) dX5_charactersOf_17 ?_
      refine lv_ldc2 (v := 126) hx hb hown (hts _ mk_StairBowsModel_166) dX5_charactersOf_20 ?_
      refine x_calli C w (x_runS (As := [.long (v2 &&& 255), .long 33, .long 126]) (rest := []) C w me_X5_in ml_StairBowsModel_35 (c_X5_in l g ad μ _ (v2 &&& 255) 33 126 h) ⟨rfl, rfl⟩ ⟨Nat.le_of_ble_eq_true rfl, Nat.le_of_ble_eq_true rfl⟩ rfl hl.1 rfl (Nat.le_of_ble_eq_true rfl) dX5_charactersOf_23 ⟨Nat.le_of_ble_eq_true rfl, Nat.le_of_ble_eq_true rfl⟩) (fun r_4 m_3 h H locs w => ?_)
      refine lv_if_eq (tgt := 40) hx hb dX5_charactersOf_26 (by decide) (fun c_5 => ?_) (fun c_5 => ?_)
      · have h := h.1 c_5
        refine lv_lload_n hx hb dX5_charactersOf_40 rfl (lv_at hl 0 rfl) ?_
        refine lv_lconst (v := 0) hx hb dX5_charactersOf_41 (by decide) ?_
        refine W.lcmp hx hb dX5_charactersOf_42 ?_
        refine lv_if_ne (tgt := 51) hx hb dX5_charactersOf_43 (by decide) (fun c_6 => ?_) (fun c_6 => ?_)
        · have h := h.1 c_6
          refine lv_iconst (v := 0) hx hb dX5_charactersOf_51 (by decide) ?_
          exact x_iret C w h dX5_charactersOf_52
        · have h := h.2 c_6
          refine lv_iload hx hb dX5_charactersOf_46 (lv_at hl 1 rfl) ?_
          refine lv_goto (tgt := 52) hx hb dX5_charactersOf_48 (by decide) ?_
          exact x_iret C w h dX5_charactersOf_52
      · have h := h.2 c_5
        refine lv_lload_n hx hb dX5_charactersOf_29 rfl (lv_at hl 0 rfl) ?_
        refine lv_bipush (v := 8) hx hb dX5_charactersOf_30 (by decide) ?_
        refine lv_lushr (v := (lsr v2 8)) hx hb dX5_charactersOf_32 rfl ?_
        refine lv_lstore_n (lv' := [(2, .long (lsr v2 8)), (4, .int v4)]) hx hb dX5_charactersOf_33 rfl hl (by decide) rfl (fun ls hl => ?_)
        refine lv_iinc (v := (v4 + 1)) (lv' := [(4, .int (v4 + 1)), (2, .long (lsr v2 8))]) hx hb dX5_charactersOf_34 hl (k := 1) rfl rfl (by decide) rfl (fun ls hl => ?_)
        refine lv_goto (tgt := 5) hx hb dX5_charactersOf_37 (by decide) ?_
        exact ih (lsr v2 8) (v4 + 1) m_3 _ _ _ h w (lv_sub hl [1, 0] rfl)
set_option maxHeartbeats 4000000 in
set_option maxRecDepth 100000 in
theorem c_X5_charactersOf (l : Launch) (g : Gv) (ad : Nat → Nat) (μ : Mem) (sz : Nat) (a0 : Int64) {K : Int32 → Mem → Prop} (h : wp_X5_charactersOf a0 μ K) : Met l yX5_charactersOf (wX yX5_charactersOf cX5_charactersOf 5 (some .int)) rm_X5_charactersOf (Pre g ad μ sz [.long a0]) (PostI g ad sz K) 0 0 (Aw ad sz) := by
  refine Met.ofW (cc := cX5_charactersOf) (maxL := 5) (ret := (some .int)) (by decide) rfl ?_
  intro p e s m args below meth c s₁ B hml hv
  obtain ⟨rfl, rfl, C, w⟩ := x_start B hml hv
  obtain ⟨hx, hb, hml, -, hts, hown, -, -, hN⟩ := id C
  have hl := lv_entry ([.long a0]) (n := 5) (Nat.le_of_ble_eq_true rfl)
  rw [lg_entry_eq]
  generalize (lg_sl ([.long a0]) ++ List.replicate (5 - (lg_sl ([.long a0])).length) Slot.unset).toArray = ls at hl ⊢
  have hl : lv_has ls 5 [(0, .long a0)] := hl
  show W p l e rm_X5_charactersOf s m _ below meth c s.heap [] 0 0 _ _
  unfold wp_X5_charactersOf at h
  refine lv_lload_n hx hb dX5_charactersOf_0 rfl (lv_at hl 0 rfl) ?_
  refine lv_lstore_n (lv' := [(2, .long a0), (0, .long a0)]) hx hb dX5_charactersOf_1 rfl hl (by decide) rfl (fun ls hl => ?_)
  refine lv_iconst (v := 0) hx hb dX5_charactersOf_2 (by decide) ?_
  refine lv_istore (lv' := [(4, .int 0), (2, .long a0), (0, .long a0)]) hx hb dX5_charactersOf_3 hl (by decide) rfl (fun ls hl => ?_)
  obtain ⟨n_7, h⟩ := h
  exact t_X5_charactersOf_L5 C n_7 a0 0 μ _ _ _ h w (lv_sub hl [1, 0] rfl)
abbrev rm_X5_put : Room := { frames := 2, cells := 0, slots := 0, locals := 49 }
noncomputable def wp_X5_put_L29 (v1 : Int64) (v3 : Int32) (K : Int32 → Mem → Prop) (n : Nat) : Int32 → Mem → Prop :=
  Nat.rec (motive := fun _ => Int32 → Mem → Prop) (fun _ _ => False) (fun _ ih v4 μ =>
    ((v3 ≤ v4 → (∀ m_6, m_6 = up2 μ 287 8 ((μ 287 8) + v3) → K (m_6 287 8) m_6)) ∧ (¬ v3 ≤ v4 → (vp_in ((μ 287 8) + v4) 60 ∧ (∀ m_8, m_8 = up2 μ 294 (((μ 287 8) + v4).toNatClampNeg) (Int64.toInt32 ((lsr v1 (8 * ((v3 - 1) - v4))) &&& 255)) → ih (v4 + 1) m_8))))) n
theorem wp_X5_put_L29_s (v1 : Int64) (v3 : Int32) (K : Int32 → Mem → Prop) (n : Nat) (v4 : Int32) (μ : Mem) : wp_X5_put_L29 v1 v3 K (n + 1) v4 μ = (
    let ih := wp_X5_put_L29 v1 v3 K n
    ((v3 ≤ v4 → (∀ m_6, m_6 = up2 μ 287 8 ((μ 287 8) + v3) → K (m_6 287 8) m_6)) ∧ (¬ v3 ≤ v4 → (vp_in ((μ 287 8) + v4) 60 ∧ (∀ m_8, m_8 = up2 μ 294 (((μ 287 8) + v4).toNatClampNeg) (Int64.toInt32 ((lsr v1 (8 * ((v3 - 1) - v4))) &&& 255)) → ih (v4 + 1) m_8))))) := rfl
noncomputable def wp_X5_put (a1 : Int64) (μ : Mem) (K : Int32 → Mem → Prop) : Prop :=
    (wp_X5_charactersOf a1 μ (fun r_2 m_1 => ((¬ r_2 = 0 → ((((m_1 287 8) + r_2) ≤ 60 → (∃ n, wp_X5_put_L29 a1 r_2 K n 0 m_1)) ∧ (¬ ((m_1 287 8) + r_2) ≤ 60 → K (-4) m_1))) ∧ (r_2 = 0 → K (-2) m_1))))
set_option maxHeartbeats 4000000 in
set_option maxRecDepth 100000 in
theorem t_X5_put_L29 {g : Gv} {ad : Nat → Nat} {l : Launch} {p : Program} {e : Env} {s : State} {m : MethodId} {args : Array Value} {below : List Frame} {meth : Method} {c : Code} (C : Cx g p s m args meth c "StairBowsModel" cX5_put 5 (some .int)) {v1 : Int64} {v3 : Int32}  {K : Int32 → Mem → Prop}    : ∀ (n : Nat) (v4 : Int32) (μ : Mem) (H : Heap) (locs : List Loc) (ls : Array Slot), wp_X5_put_L29 v1 v3 K n v4 μ → Wd g ad μ (Aw ad s.heap.size) s H locs → lv_has ls 5 [(0, .ref (ad 287)), (1, .long v1), (3, .int v3), (4, .int v4)] → W p l e rm_X5_put s m args below meth c H locs 0 0 (MQ below (PostI g ad s.heap.size K) args s 0 0 (Aw ad s.heap.size)) (F0 m 29 ls []) := by
  obtain ⟨hx, hb, hml, -, hts, hown, -, -, hN⟩ := id C
  intro n
  induction n with
  | zero =>
    intro v4 μ H locs ls h w hl
    exact (show False from h).elim
  | succ n ih =>
    intro v4 μ H locs ls h w hl
    rw [wp_X5_put_L29_s] at h
    dsimp only at h
    refine lv_iload hx hb dX5_put_29 (lv_at hl 3 rfl) ?_
    refine lv_iload_n hx hb dX5_put_31 rfl (lv_at hl 2 rfl) ?_
    refine lv_icmp_ge (tgt := 69) hx hb dX5_put_32 (by decide) (fun c_5 => ?_) (fun c_5 => ?_)
    · have h := h.1 c_5
      refine lv_aload_n hx hb dX5_put_69 rfl (lv_at hl 0 rfl) ?_
      refine lv_dup hx hb dX5_put_70 rfl ?_
      refine x_getM C w (k := 8) (v := .int (μ 287 8)) (by decide) rfl mf_StairBowsModel_121 dX5_put_71 ?_
      refine lv_iload_n hx hb dX5_put_74 rfl (lv_at hl 2 rfl) ?_
      refine lv_iadd hx hb dX5_put_75 ?_
      refine x_putM C w (k := 8) (by decide) rfl mf_StairBowsModel_121 rfl rfl dX5_put_76 (fun m_6 e_7 H locs w => ?_)
      have h := h m_6 e_7
      refine lv_aload_n hx hb dX5_put_79 rfl (lv_at hl 0 rfl) ?_
      refine x_getM C w (k := 8) (v := .int (m_6 287 8)) (by decide) rfl mf_StairBowsModel_121 dX5_put_80 ?_
      exact x_iret C w h dX5_put_83
    · have h := h.2 c_5
      refine lv_aload_n hx hb dX5_put_35 rfl (lv_at hl 0 rfl) ?_
      refine x_getM C w (k := 7) (v := .ref (ad 294)) (by decide) rfl mf_StairBowsModel_28 dX5_put_36 ?_
      refine lv_aload_n hx hb dX5_put_39 rfl (lv_at hl 0 rfl) ?_
      refine x_getM C w (k := 8) (v := .int (μ 287 8)) (by decide) rfl mf_StairBowsModel_121 dX5_put_40 ?_
      refine lv_iload hx hb dX5_put_43 (lv_at hl 3 rfl) ?_
      refine lv_iadd hx hb dX5_put_45 ?_
      refine lv_lload_n hx hb dX5_put_46 rfl (lv_at hl 1 rfl) ?_
      refine lv_bipush (v := 8) hx hb dX5_put_47 (by decide) ?_
      refine lv_iload_n hx hb dX5_put_49 rfl (lv_at hl 2 rfl) ?_
      refine lv_iconst (v := 1) hx hb dX5_put_50 (by decide) ?_
      refine lv_isub hx hb dX5_put_51 ?_
      refine lv_iload hx hb dX5_put_52 (lv_at hl 3 rfl) ?_
      refine lv_isub hx hb dX5_put_54 ?_
      refine lv_imul hx hb dX5_put_55 ?_
      refine lv_lushr (v := (lsr v1 (8 * ((v3 - 1) - v4)))) hx hb dX5_put_56 rfl ?_
      refine lv_ldc2 (v := 255) hx hb hown (hts _ mk_StairBowsModel_162) dX5_put_57 ?_
      refine lv_land hx hb dX5_put_60 ?_
      refine lv_l2i (v := (Int64.toInt32 ((lsr v1 (8 * ((v3 - 1) - v4))) &&& 255))) hx hb dX5_put_61 rfl ?_
      refine x_iast C w (i := 294) (K := 26) (n := 60) (jn := ((μ 287 8) + v4).toNatClampNeg) rfl (rfl : kd 294 = 26) (by decide) (fun _ => rfl) (show vp_in ((μ 287 8) + v4) 60 from h.1) dX5_put_62 (fun m_8 e_9 H locs w => ?_)
      have h := h.2 m_8 e_9
      refine lv_iinc (v := (v4 + 1)) (lv' := [(4, .int (v4 + 1)), (0, .ref (ad 287)), (1, .long v1), (3, .int v3)]) hx hb dX5_put_63 hl (k := 3) rfl rfl (by decide) rfl (fun ls hl => ?_)
      refine lv_goto (tgt := 29) hx hb dX5_put_66 (by decide) ?_
      exact ih (v4 + 1) m_8 _ _ _ h w (lv_sub hl [1, 2, 3, 0] rfl)
set_option maxHeartbeats 4000000 in
set_option maxRecDepth 100000 in
theorem c_X5_put (l : Launch) (g : Gv) (ad : Nat → Nat) (μ : Mem) (sz : Nat) (a1 : Int64) {K : Int32 → Mem → Prop} (h : wp_X5_put a1 μ K) : Met l yX5_put (wX yX5_put cX5_put 5 (some .int)) rm_X5_put (Pre g ad μ sz [.ref (ad 287), .long a1]) (PostI g ad sz K) 0 0 (Aw ad sz) := by
  refine Met.ofW (cc := cX5_put) (maxL := 5) (ret := (some .int)) (by decide) rfl ?_
  intro p e s m args below meth c s₁ B hml hv
  obtain ⟨rfl, rfl, C, w⟩ := x_start B hml hv
  obtain ⟨hx, hb, hml, -, hts, hown, -, -, hN⟩ := id C
  have hl := lv_entry ([.ref (ad 287), .long a1]) (n := 5) (Nat.le_of_ble_eq_true rfl)
  rw [lg_entry_eq]
  generalize (lg_sl ([.ref (ad 287), .long a1]) ++ List.replicate (5 - (lg_sl ([.ref (ad 287), .long a1])).length) Slot.unset).toArray = ls at hl ⊢
  have hl : lv_has ls 5 [(0, .ref (ad 287)), (1, .long a1)] := hl
  show W p l e rm_X5_put s m _ below meth c s.heap [] 0 0 _ _
  unfold wp_X5_put at h
  refine lv_lload_n hx hb dX5_put_0 rfl (lv_at hl 1 rfl) ?_
  refine x_calli C w (x_runS (As := [.long a1]) (rest := []) C w me_X5_charactersOf ml_StairBowsModel_168 (c_X5_charactersOf l g ad μ _ a1 h) ⟨rfl, rfl⟩ ⟨Nat.le_of_ble_eq_true rfl, Nat.le_of_ble_eq_true rfl⟩ rfl hl.1 rfl (Nat.le_of_ble_eq_true rfl) dX5_put_1 ⟨Nat.le_of_ble_eq_true rfl, Nat.le_of_ble_eq_true rfl⟩) (fun r_2 m_1 h H locs w => ?_)
  refine lv_istore_n (lv' := [(3, .int r_2), (0, .ref (ad 287)), (1, .long a1)]) hx hb dX5_put_4 rfl hl (by decide) rfl (fun ls hl => ?_)
  refine lv_iload_n hx hb dX5_put_5 rfl (lv_at hl 0 rfl) ?_
  refine lv_if_ne (tgt := 12) hx hb dX5_put_6 (by decide) (fun c_3 => ?_) (fun c_3 => ?_)
  · have h := h.1 c_3
    refine lv_aload_n hx hb dX5_put_12 rfl (lv_at hl 1 rfl) ?_
    refine x_getM C w (k := 8) (v := .int (m_1 287 8)) (by decide) rfl mf_StairBowsModel_121 dX5_put_13 ?_
    refine lv_iload_n hx hb dX5_put_16 rfl (lv_at hl 0 rfl) ?_
    refine lv_iadd hx hb dX5_put_17 ?_
    refine lv_bipush (v := 60) hx hb dX5_put_18 (by decide) ?_
    refine lv_icmp_le (tgt := 26) hx hb dX5_put_20 (by decide) (fun c_4 => ?_) (fun c_4 => ?_)
    · have h := h.1 c_4
      refine lv_iconst (v := 0) hx hb dX5_put_26 (by decide) ?_
      refine lv_istore (lv' := [(4, .int 0), (3, .int r_2), (0, .ref (ad 287)), (1, .long a1)]) hx hb dX5_put_27 hl (by decide) rfl (fun ls hl => ?_)
      obtain ⟨n_10, h⟩ := h
      exact t_X5_put_L29 C n_10 0 m_1 _ _ _ h w (lv_sub hl [2, 3, 1, 0] rfl)
    · have h := h.2 c_4
      refine lv_bipush (v := -4) hx hb dX5_put_23 (by decide) ?_
      exact x_iret C w h dX5_put_25
  · have h := h.2 c_3
    refine lv_bipush (v := -2) hx hb dX5_put_9 (by decide) ?_
    exact x_iret C w h dX5_put_11
abbrev rm_X5_wipe : Room := { frames := 0, cells := 0, slots := 0, locals := 0 }
noncomputable def wp_X5_wipe  (μ : Mem) (K : Int32 → Mem → Prop) : Prop :=
    (∀ m_1, m_1 = up2 μ 287 8 0 → K (μ 287 8) m_1)
set_option maxHeartbeats 4000000 in
set_option maxRecDepth 100000 in
theorem c_X5_wipe (l : Launch) (g : Gv) (ad : Nat → Nat) (μ : Mem) (sz : Nat)  {K : Int32 → Mem → Prop} (h : wp_X5_wipe μ K) : Met l yX5_wipe (wX yX5_wipe cX5_wipe 2 (some .int)) rm_X5_wipe (Pre g ad μ sz [.ref (ad 287)]) (PostI g ad sz K) 0 0 (Aw ad sz) := by
  refine Met.ofW (cc := cX5_wipe) (maxL := 2) (ret := (some .int)) (by decide) rfl ?_
  intro p e s m args below meth c s₁ B hml hv
  obtain ⟨rfl, rfl, C, w⟩ := x_start B hml hv
  obtain ⟨hx, hb, hml, -, hts, hown, -, -, hN⟩ := id C
  have hl := lv_entry ([.ref (ad 287)]) (n := 2) (Nat.le_of_ble_eq_true rfl)
  rw [lg_entry_eq]
  generalize (lg_sl ([.ref (ad 287)]) ++ List.replicate (2 - (lg_sl ([.ref (ad 287)])).length) Slot.unset).toArray = ls at hl ⊢
  have hl : lv_has ls 2 [(0, .ref (ad 287))] := hl
  show W p l e rm_X5_wipe s m _ below meth c s.heap [] 0 0 _ _
  unfold wp_X5_wipe at h
  refine lv_aload_n hx hb dX5_wipe_0 rfl (lv_at hl 0 rfl) ?_
  refine x_getM C w (k := 8) (v := .int (μ 287 8)) (by decide) rfl mf_StairBowsModel_121 dX5_wipe_1 ?_
  refine lv_istore_n (lv' := [(1, .int (μ 287 8)), (0, .ref (ad 287))]) hx hb dX5_wipe_4 rfl hl (by decide) rfl (fun ls hl => ?_)
  refine lv_aload_n hx hb dX5_wipe_5 rfl (lv_at hl 1 rfl) ?_
  refine lv_iconst (v := 0) hx hb dX5_wipe_6 (by decide) ?_
  refine x_putM C w (k := 8) (by decide) rfl mf_StairBowsModel_121 rfl rfl dX5_wipe_7 (fun m_1 e_2 H locs w => ?_)
  have h := h m_1 e_2
  refine lv_iload_n hx hb dX5_wipe_10 rfl (lv_at hl 0 rfl) ?_
  exact x_iret C w h dX5_wipe_11
abbrev rm_X5_undo : Room := { frames := 0, cells := 0, slots := 0, locals := 0 }
noncomputable def wp_X5_undo_L22 (K : Int32 → Mem → Prop) (n : Nat) : Int32 → Mem → Prop :=
  Nat.rec (motive := fun _ => Int32 → Mem → Prop) (fun _ _ => False) (fun _ ih v1 μ =>
    ((225 ≤ v1 → K (μ 287 3) μ) ∧ (¬ 225 ≤ v1 → (vp_in ((225 * (μ 287 3)) + v1) 1350 ∧ (vp_in v1 225 ∧ (∀ m_5, m_5 = up2 μ 288 v1.toNatClampNeg (μ 290 ((225 * (μ 287 3)) + v1).toNatClampNeg) → ih (v1 + 1) m_5)))))) n
theorem wp_X5_undo_L22_s (K : Int32 → Mem → Prop) (n : Nat) (v1 : Int32) (μ : Mem) : wp_X5_undo_L22 K (n + 1) v1 μ = (
    let ih := wp_X5_undo_L22 K n
    ((225 ≤ v1 → K (μ 287 3) μ) ∧ (¬ 225 ≤ v1 → (vp_in ((225 * (μ 287 3)) + v1) 1350 ∧ (vp_in v1 225 ∧ (∀ m_5, m_5 = up2 μ 288 v1.toNatClampNeg (μ 290 ((225 * (μ 287 3)) + v1).toNatClampNeg) → ih (v1 + 1) m_5)))))) := rfl
noncomputable def wp_X5_undo  (μ : Mem) (K : Int32 → Mem → Prop) : Prop :=
    ((¬ (μ 287 3) = 0 → (∀ m_2, m_2 = up2 μ 287 3 ((μ 287 3) - 1) → (∃ n, wp_X5_undo_L22 K n 0 m_2))) ∧ ((μ 287 3) = 0 → K (-5) μ))
set_option maxHeartbeats 4000000 in
set_option maxRecDepth 100000 in
theorem t_X5_undo_L22 {g : Gv} {ad : Nat → Nat} {l : Launch} {p : Program} {e : Env} {s : State} {m : MethodId} {args : Array Value} {below : List Frame} {meth : Method} {c : Code} (C : Cx g p s m args meth c "StairBowsModel" cX5_undo 2 (some .int))   {K : Int32 → Mem → Prop}    : ∀ (n : Nat) (v1 : Int32) (μ : Mem) (H : Heap) (locs : List Loc) (ls : Array Slot), wp_X5_undo_L22 K n v1 μ → Wd g ad μ (Aw ad s.heap.size) s H locs → lv_has ls 2 [(0, .ref (ad 287)), (1, .int v1)] → W p l e rm_X5_undo s m args below meth c H locs 0 0 (MQ below (PostI g ad s.heap.size K) args s 0 0 (Aw ad s.heap.size)) (F0 m 22 ls []) := by
  obtain ⟨hx, hb, hml, -, hts, hown, -, -, hN⟩ := id C
  intro n
  induction n with
  | zero =>
    intro v1 μ H locs ls h w hl
    exact (show False from h).elim
  | succ n ih =>
    intro v1 μ H locs ls h w hl
    rw [wp_X5_undo_L22_s] at h
    dsimp only at h
    refine lv_iload_n hx hb dX5_undo_22 rfl (lv_at hl 1 rfl) ?_
    refine lv_sipush (v := 225) hx hb dX5_undo_23 (by decide) ?_
    refine lv_icmp_ge (tgt := 56) hx hb dX5_undo_26 (by decide) (fun c_4 => ?_) (fun c_4 => ?_)
    · have h := h.1 c_4
      refine lv_aload_n hx hb dX5_undo_56 rfl (lv_at hl 0 rfl) ?_
      refine x_getM C w (k := 3) (v := .int (μ 287 3)) (by decide) rfl mf_StairBowsModel_31 dX5_undo_57 ?_
      exact x_iret C w h dX5_undo_60
    · have h := h.2 c_4
      refine lv_aload_n hx hb dX5_undo_29 rfl (lv_at hl 0 rfl) ?_
      refine x_getM C w (k := 0) (v := .ref (ad 288)) (by decide) rfl mf_StairBowsModel_7 dX5_undo_30 ?_
      refine lv_iload_n hx hb dX5_undo_33 rfl (lv_at hl 1 rfl) ?_
      refine lv_aload_n hx hb dX5_undo_34 rfl (lv_at hl 0 rfl) ?_
      refine x_getM C w (k := 2) (v := .ref (ad 290)) (by decide) rfl mf_StairBowsModel_16 dX5_undo_35 ?_
      refine lv_sipush (v := 225) hx hb dX5_undo_38 (by decide) ?_
      refine lv_aload_n hx hb dX5_undo_41 rfl (lv_at hl 0 rfl) ?_
      refine x_getM C w (k := 3) (v := .int (μ 287 3)) (by decide) rfl mf_StairBowsModel_31 dX5_undo_42 ?_
      refine lv_imul hx hb dX5_undo_45 ?_
      refine lv_iload_n hx hb dX5_undo_46 rfl (lv_at hl 1 rfl) ?_
      refine lv_iadd hx hb dX5_undo_47 ?_
      refine x_iald C w (i := 290) (K := 22) (j := ((225 * (μ 287 3)) + v1)) (n := 1350) (jn := ((225 * (μ 287 3)) + v1).toNatClampNeg) rfl (rfl : kd 290 = 22) (by decide) rfl (show vp_in ((225 * (μ 287 3)) + v1) 1350 from h.1) dX5_undo_48 ?_
      have h := h.2
      refine x_iast C w (i := 288) (K := 20) (n := 225) (jn := v1.toNatClampNeg) rfl (rfl : kd 288 = 20) (by decide) (fun _ => rfl) (show vp_in v1 225 from h.1) dX5_undo_49 (fun m_5 e_6 H locs w => ?_)
      have h := h.2 m_5 e_6
      refine lv_iinc (v := (v1 + 1)) (lv' := [(1, .int (v1 + 1)), (0, .ref (ad 287))]) hx hb dX5_undo_50 hl (k := 1) rfl rfl (by decide) rfl (fun ls hl => ?_)
      refine lv_goto (tgt := 22) hx hb dX5_undo_53 (by decide) ?_
      exact ih (v1 + 1) m_5 _ _ _ h w (lv_sub hl [1, 0] rfl)
set_option maxHeartbeats 4000000 in
set_option maxRecDepth 100000 in
theorem c_X5_undo (l : Launch) (g : Gv) (ad : Nat → Nat) (μ : Mem) (sz : Nat)  {K : Int32 → Mem → Prop} (h : wp_X5_undo μ K) : Met l yX5_undo (wX yX5_undo cX5_undo 2 (some .int)) rm_X5_undo (Pre g ad μ sz [.ref (ad 287)]) (PostI g ad sz K) 0 0 (Aw ad sz) := by
  refine Met.ofW (cc := cX5_undo) (maxL := 2) (ret := (some .int)) (by decide) rfl ?_
  intro p e s m args below meth c s₁ B hml hv
  obtain ⟨rfl, rfl, C, w⟩ := x_start B hml hv
  obtain ⟨hx, hb, hml, -, hts, hown, -, -, hN⟩ := id C
  have hl := lv_entry ([.ref (ad 287)]) (n := 2) (Nat.le_of_ble_eq_true rfl)
  rw [lg_entry_eq]
  generalize (lg_sl ([.ref (ad 287)]) ++ List.replicate (2 - (lg_sl ([.ref (ad 287)])).length) Slot.unset).toArray = ls at hl ⊢
  have hl : lv_has ls 2 [(0, .ref (ad 287))] := hl
  show W p l e rm_X5_undo s m _ below meth c s.heap [] 0 0 _ _
  unfold wp_X5_undo at h
  refine lv_aload_n hx hb dX5_undo_0 rfl (lv_at hl 0 rfl) ?_
  refine x_getM C w (k := 3) (v := .int (μ 287 3)) (by decide) rfl mf_StairBowsModel_31 dX5_undo_1 ?_
  refine lv_if_ne (tgt := 10) hx hb dX5_undo_4 (by decide) (fun c_1 => ?_) (fun c_1 => ?_)
  · have h := h.1 c_1
    refine lv_aload_n hx hb dX5_undo_10 rfl (lv_at hl 0 rfl) ?_
    refine lv_dup hx hb dX5_undo_11 rfl ?_
    refine x_getM C w (k := 3) (v := .int (μ 287 3)) (by decide) rfl mf_StairBowsModel_31 dX5_undo_12 ?_
    refine lv_iconst (v := 1) hx hb dX5_undo_15 (by decide) ?_
    refine lv_isub hx hb dX5_undo_16 ?_
    refine x_putM C w (k := 3) (by decide) rfl mf_StairBowsModel_31 rfl rfl dX5_undo_17 (fun m_2 e_3 H locs w => ?_)
    have h := h m_2 e_3
    refine lv_iconst (v := 0) hx hb dX5_undo_20 (by decide) ?_
    refine lv_istore_n (lv' := [(1, .int 0), (0, .ref (ad 287))]) hx hb dX5_undo_21 rfl hl (by decide) rfl (fun ls hl => ?_)
    obtain ⟨n_7, h⟩ := h
    exact t_X5_undo_L22 C n_7 0 m_2 _ _ _ h w (lv_sub hl [1, 0] rfl)
  · have h := h.2 c_1
    refine lv_bipush (v := -5) hx hb dX5_undo_7 (by decide) ?_
    exact x_iret C w h dX5_undo_9
abbrev rm_X5_isSlot : Room := { frames := 0, cells := 0, slots := 0, locals := 0 }
noncomputable def wp_X5_isSlot (a0 : Int32) (μ : Mem) (K : Int32 → Mem → Prop) : Prop :=
    ((a0 = 0 → K 1 μ) ∧ (¬ a0 = 0 → ((¬ a0 = 1 → K 0 μ) ∧ (a0 = 1 → K 1 μ))))
set_option maxHeartbeats 4000000 in
set_option maxRecDepth 100000 in
theorem c_X5_isSlot (l : Launch) (g : Gv) (ad : Nat → Nat) (μ : Mem) (sz : Nat) (a0 : Int32) {K : Int32 → Mem → Prop} (h : wp_X5_isSlot a0 μ K) : Met l yX5_isSlot (wX yX5_isSlot cX5_isSlot 1 (some .boolean)) rm_X5_isSlot (Pre g ad μ sz [.int a0]) (PostI g ad sz K) 0 0 (Aw ad sz) := by
  refine Met.ofW (cc := cX5_isSlot) (maxL := 1) (ret := (some .boolean)) (by decide) rfl ?_
  intro p e s m args below meth c s₁ B hml hv
  obtain ⟨rfl, rfl, C, w⟩ := x_start B hml hv
  obtain ⟨hx, hb, hml, -, hts, hown, -, -, hN⟩ := id C
  have hl := lv_entry ([.int a0]) (n := 1) (Nat.le_of_ble_eq_true rfl)
  rw [lg_entry_eq]
  generalize (lg_sl ([.int a0]) ++ List.replicate (1 - (lg_sl ([.int a0])).length) Slot.unset).toArray = ls at hl ⊢
  have hl : lv_has ls 1 [(0, .int a0)] := hl
  show W p l e rm_X5_isSlot s m _ below meth c s.heap [] 0 0 _ _
  unfold wp_X5_isSlot at h
  refine lv_iload_n hx hb dX5_isSlot_0 rfl (lv_at hl 0 rfl) ?_
  refine lv_if_eq (tgt := 9) hx hb dX5_isSlot_1 (by decide) (fun c_1 => ?_) (fun c_1 => ?_)
  · have h := h.1 c_1
    refine lv_iconst (v := 1) hx hb dX5_isSlot_9 (by decide) ?_
    refine lv_goto (tgt := 14) hx hb dX5_isSlot_10 (by decide) ?_
    exact x_zret C w (show bz 1 from Or.inr rfl) h dX5_isSlot_14
  · have h := h.2 c_1
    refine lv_iload_n hx hb dX5_isSlot_4 rfl (lv_at hl 0 rfl) ?_
    refine lv_iconst (v := 1) hx hb dX5_isSlot_5 (by decide) ?_
    refine lv_icmp_ne (tgt := 13) hx hb dX5_isSlot_6 (by decide) (fun c_2 => ?_) (fun c_2 => ?_)
    · have h := h.1 c_2
      refine lv_iconst (v := 0) hx hb dX5_isSlot_13 (by decide) ?_
      exact x_zret C w (show bz 0 from Or.inl rfl) h dX5_isSlot_14
    · have h := h.2 c_2
      refine lv_iconst (v := 1) hx hb dX5_isSlot_9 (by decide) ?_
      refine lv_goto (tgt := 14) hx hb dX5_isSlot_10 (by decide) ?_
      exact x_zret C w (show bz 1 from Or.inr rfl) h dX5_isSlot_14
abbrev rm_X5_save : Room := { frames := 1, cells := 0, slots := 0, locals := 20 }
noncomputable def wp_X5_save_L12 (v1 : Int32) (K : Int32 → Mem → Prop) (n : Nat) : Int32 → Mem → Prop :=
  Nat.rec (motive := fun _ => Int32 → Mem → Prop) (fun _ _ => False) (fun _ ih v2 μ =>
    ((225 ≤ v2 → (vp_in v1 2 ∧ (∀ m_5, m_5 = up2 μ 292 v1.toNatClampNeg 1 → K (m_5 288 3) m_5))) ∧ (¬ 225 ≤ v2 → (vp_in v2 225 ∧ (vp_in ((225 * v1) + v2) 450 ∧ (∀ m_7, m_7 = up2 μ 291 (((225 * v1) + v2).toNatClampNeg) (μ 288 v2.toNatClampNeg) → ih (v2 + 1) m_7)))))) n
theorem wp_X5_save_L12_s (v1 : Int32) (K : Int32 → Mem → Prop) (n : Nat) (v2 : Int32) (μ : Mem) : wp_X5_save_L12 v1 K (n + 1) v2 μ = (
    let ih := wp_X5_save_L12 v1 K n
    ((225 ≤ v2 → (vp_in v1 2 ∧ (∀ m_5, m_5 = up2 μ 292 v1.toNatClampNeg 1 → K (m_5 288 3) m_5))) ∧ (¬ 225 ≤ v2 → (vp_in v2 225 ∧ (vp_in ((225 * v1) + v2) 450 ∧ (∀ m_7, m_7 = up2 μ 291 (((225 * v1) + v2).toNatClampNeg) (μ 288 v2.toNatClampNeg) → ih (v2 + 1) m_7)))))) := rfl
noncomputable def wp_X5_save (a1 : Int32) (μ : Mem) (K : Int32 → Mem → Prop) : Prop :=
    (wp_X5_isSlot a1 μ (fun r_2 m_1 => ((¬ r_2 = 0 → (∃ n, wp_X5_save_L12 a1 K n 0 m_1)) ∧ (r_2 = 0 → K (-2) m_1))))
set_option maxHeartbeats 4000000 in
set_option maxRecDepth 100000 in
theorem t_X5_save_L12 {g : Gv} {ad : Nat → Nat} {l : Launch} {p : Program} {e : Env} {s : State} {m : MethodId} {args : Array Value} {below : List Frame} {meth : Method} {c : Code} (C : Cx g p s m args meth c "StairBowsModel" cX5_save 3 (some .int)) {v1 : Int32}  {K : Int32 → Mem → Prop}    : ∀ (n : Nat) (v2 : Int32) (μ : Mem) (H : Heap) (locs : List Loc) (ls : Array Slot), wp_X5_save_L12 v1 K n v2 μ → Wd g ad μ (Aw ad s.heap.size) s H locs → lv_has ls 3 [(0, .ref (ad 287)), (1, .int v1), (2, .int v2)] → W p l e rm_X5_save s m args below meth c H locs 0 0 (MQ below (PostI g ad s.heap.size K) args s 0 0 (Aw ad s.heap.size)) (F0 m 12 ls []) := by
  obtain ⟨hx, hb, hml, -, hts, hown, -, -, hN⟩ := id C
  intro n
  induction n with
  | zero =>
    intro v2 μ H locs ls h w hl
    exact (show False from h).elim
  | succ n ih =>
    intro v2 μ H locs ls h w hl
    rw [wp_X5_save_L12_s] at h
    dsimp only at h
    refine lv_iload_n hx hb dX5_save_12 rfl (lv_at hl 2 rfl) ?_
    refine lv_sipush (v := 225) hx hb dX5_save_13 (by decide) ?_
    refine lv_icmp_ge (tgt := 43) hx hb dX5_save_16 (by decide) (fun c_4 => ?_) (fun c_4 => ?_)
    · have h := h.1 c_4
      refine lv_aload_n hx hb dX5_save_43 rfl (lv_at hl 0 rfl) ?_
      refine x_getM C w (k := 5) (v := .ref (ad 292)) (by decide) rfl mf_StairBowsModel_22 dX5_save_44 ?_
      refine lv_iload_n hx hb dX5_save_47 rfl (lv_at hl 1 rfl) ?_
      refine lv_iconst (v := 1) hx hb dX5_save_48 (by decide) ?_
      refine x_iast C w (i := 292) (K := 24) (n := 2) (jn := v1.toNatClampNeg) rfl (rfl : kd 292 = 24) (by decide) (fun _ => rfl) (show vp_in v1 2 from h.1) dX5_save_49 (fun m_5 e_6 H locs w => ?_)
      have h := h.2 m_5 e_6
      refine lv_aload_n hx hb dX5_save_50 rfl (lv_at hl 0 rfl) ?_
      refine x_getM C w (k := 0) (v := .ref (ad 288)) (by decide) rfl mf_StairBowsModel_7 dX5_save_51 ?_
      refine lv_iconst (v := 3) hx hb dX5_save_54 (by decide) ?_
      refine x_iald C w (i := 288) (K := 20) (j := 3) (n := 225) (jn := 3) rfl (rfl : kd 288 = 20) (by decide) rfl (show vp_in 3 225 from vp_lit (by decide) (by decide)) dX5_save_55 ?_
      exact x_iret C w h dX5_save_56
    · have h := h.2 c_4
      refine lv_aload_n hx hb dX5_save_19 rfl (lv_at hl 0 rfl) ?_
      refine x_getM C w (k := 4) (v := .ref (ad 291)) (by decide) rfl mf_StairBowsModel_19 dX5_save_20 ?_
      refine lv_sipush (v := 225) hx hb dX5_save_23 (by decide) ?_
      refine lv_iload_n hx hb dX5_save_26 rfl (lv_at hl 1 rfl) ?_
      refine lv_imul hx hb dX5_save_27 ?_
      refine lv_iload_n hx hb dX5_save_28 rfl (lv_at hl 2 rfl) ?_
      refine lv_iadd hx hb dX5_save_29 ?_
      refine lv_aload_n hx hb dX5_save_30 rfl (lv_at hl 0 rfl) ?_
      refine x_getM C w (k := 0) (v := .ref (ad 288)) (by decide) rfl mf_StairBowsModel_7 dX5_save_31 ?_
      refine lv_iload_n hx hb dX5_save_34 rfl (lv_at hl 2 rfl) ?_
      refine x_iald C w (i := 288) (K := 20) (j := v2) (n := 225) (jn := v2.toNatClampNeg) rfl (rfl : kd 288 = 20) (by decide) rfl (show vp_in v2 225 from h.1) dX5_save_35 ?_
      have h := h.2
      refine x_iast C w (i := 291) (K := 23) (n := 450) (jn := ((225 * v1) + v2).toNatClampNeg) rfl (rfl : kd 291 = 23) (by decide) (fun _ => rfl) (show vp_in ((225 * v1) + v2) 450 from h.1) dX5_save_36 (fun m_7 e_8 H locs w => ?_)
      have h := h.2 m_7 e_8
      refine lv_iinc (v := (v2 + 1)) (lv' := [(2, .int (v2 + 1)), (0, .ref (ad 287)), (1, .int v1)]) hx hb dX5_save_37 hl (k := 2) rfl rfl (by decide) rfl (fun ls hl => ?_)
      refine lv_goto (tgt := 12) hx hb dX5_save_40 (by decide) ?_
      exact ih (v2 + 1) m_7 _ _ _ h w (lv_sub hl [1, 2, 0] rfl)
set_option maxHeartbeats 4000000 in
set_option maxRecDepth 100000 in
theorem c_X5_save (l : Launch) (g : Gv) (ad : Nat → Nat) (μ : Mem) (sz : Nat) (a1 : Int32) {K : Int32 → Mem → Prop} (h : wp_X5_save a1 μ K) : Met l yX5_save (wX yX5_save cX5_save 3 (some .int)) rm_X5_save (Pre g ad μ sz [.ref (ad 287), .int a1]) (PostI g ad sz K) 0 0 (Aw ad sz) := by
  refine Met.ofW (cc := cX5_save) (maxL := 3) (ret := (some .int)) (by decide) rfl ?_
  intro p e s m args below meth c s₁ B hml hv
  obtain ⟨rfl, rfl, C, w⟩ := x_start B hml hv
  obtain ⟨hx, hb, hml, -, hts, hown, -, -, hN⟩ := id C
  have hl := lv_entry ([.ref (ad 287), .int a1]) (n := 3) (Nat.le_of_ble_eq_true rfl)
  rw [lg_entry_eq]
  generalize (lg_sl ([.ref (ad 287), .int a1]) ++ List.replicate (3 - (lg_sl ([.ref (ad 287), .int a1])).length) Slot.unset).toArray = ls at hl ⊢
  have hl : lv_has ls 3 [(0, .ref (ad 287)), (1, .int a1)] := hl
  show W p l e rm_X5_save s m _ below meth c s.heap [] 0 0 _ _
  unfold wp_X5_save at h
  refine lv_iload_n hx hb dX5_save_0 rfl (lv_at hl 1 rfl) ?_
  refine x_calli C w (x_runS (As := [.int a1]) (rest := []) C w me_X5_isSlot ml_StairBowsModel_179 (c_X5_isSlot l g ad μ _ a1 h) ⟨rfl, rfl⟩ ⟨Nat.le_of_ble_eq_true rfl, Nat.le_of_ble_eq_true rfl⟩ rfl hl.1 rfl (Nat.le_of_ble_eq_true rfl) dX5_save_1 ⟨Nat.le_of_ble_eq_true rfl, Nat.le_of_ble_eq_true rfl⟩) (fun r_2 m_1 h H locs w => ?_)
  refine lv_if_ne (tgt := 10) hx hb dX5_save_4 (by decide) (fun c_3 => ?_) (fun c_3 => ?_)
  · have h := h.1 c_3
    refine lv_iconst (v := 0) hx hb dX5_save_10 (by decide) ?_
    refine lv_istore_n (lv' := [(2, .int 0), (0, .ref (ad 287)), (1, .int a1)]) hx hb dX5_save_11 rfl hl (by decide) rfl (fun ls hl => ?_)
    obtain ⟨n_9, h⟩ := h
    exact t_X5_save_L12 C n_9 0 m_1 _ _ _ h w (lv_sub hl [1, 2, 0] rfl)
  · have h := h.2 c_3
    refine lv_bipush (v := -2) hx hb dX5_save_7 (by decide) ?_
    exact x_iret C w h dX5_save_9
abbrev rm_X5_restore : Room := { frames := 1, cells := 0, slots := 0, locals := 21 }
noncomputable def wp_X5_restore_L28 (v1 : Int32) (K : Int32 → Mem → Prop) (n : Nat) : Int32 → Mem → Prop :=
  Nat.rec (motive := fun _ => Int32 → Mem → Prop) (fun _ _ => False) (fun _ ih v2 μ =>
    ((225 ≤ v2 → K (μ 288 3) μ) ∧ (¬ 225 ≤ v2 → (vp_in ((225 * v1) + v2) 450 ∧ (vp_in v2 225 ∧ (∀ m_7, m_7 = up2 μ 288 v2.toNatClampNeg (μ 291 ((225 * v1) + v2).toNatClampNeg) → ih (v2 + 1) m_7)))))) n
theorem wp_X5_restore_L28_s (v1 : Int32) (K : Int32 → Mem → Prop) (n : Nat) (v2 : Int32) (μ : Mem) : wp_X5_restore_L28 v1 K (n + 1) v2 μ = (
    let ih := wp_X5_restore_L28 v1 K n
    ((225 ≤ v2 → K (μ 288 3) μ) ∧ (¬ 225 ≤ v2 → (vp_in ((225 * v1) + v2) 450 ∧ (vp_in v2 225 ∧ (∀ m_7, m_7 = up2 μ 288 v2.toNatClampNeg (μ 291 ((225 * v1) + v2).toNatClampNeg) → ih (v2 + 1) m_7)))))) := rfl
noncomputable def wp_X5_restore (a1 : Int32) (μ : Mem) (K : Int32 → Mem → Prop) : Prop :=
    (wp_X5_isSlot a1 μ (fun r_2 m_1 => ((¬ r_2 = 0 → (vp_in a1 2 ∧ ((¬ (m_1 292 a1.toNatClampNeg) = 0 → (wp_X5_changes m_1 (fun m_5 => (∃ n, wp_X5_restore_L28 a1 K n 0 m_5)))) ∧ ((m_1 292 a1.toNatClampNeg) = 0 → K (-5) m_1)))) ∧ (r_2 = 0 → K (-2) m_1))))
set_option maxHeartbeats 4000000 in
set_option maxRecDepth 100000 in
theorem t_X5_restore_L28 {g : Gv} {ad : Nat → Nat} {l : Launch} {p : Program} {e : Env} {s : State} {m : MethodId} {args : Array Value} {below : List Frame} {meth : Method} {c : Code} (C : Cx g p s m args meth c "StairBowsModel" cX5_restore 3 (some .int)) {v1 : Int32}  {K : Int32 → Mem → Prop}    : ∀ (n : Nat) (v2 : Int32) (μ : Mem) (H : Heap) (locs : List Loc) (ls : Array Slot), wp_X5_restore_L28 v1 K n v2 μ → Wd g ad μ (Aw ad s.heap.size) s H locs → lv_has ls 3 [(0, .ref (ad 287)), (1, .int v1), (2, .int v2)] → W p l e rm_X5_restore s m args below meth c H locs 0 0 (MQ below (PostI g ad s.heap.size K) args s 0 0 (Aw ad s.heap.size)) (F0 m 28 ls []) := by
  obtain ⟨hx, hb, hml, -, hts, hown, -, -, hN⟩ := id C
  intro n
  induction n with
  | zero =>
    intro v2 μ H locs ls h w hl
    exact (show False from h).elim
  | succ n ih =>
    intro v2 μ H locs ls h w hl
    rw [wp_X5_restore_L28_s] at h
    dsimp only at h
    refine lv_iload_n hx hb dX5_restore_28 rfl (lv_at hl 2 rfl) ?_
    refine lv_sipush (v := 225) hx hb dX5_restore_29 (by decide) ?_
    refine lv_icmp_ge (tgt := 59) hx hb dX5_restore_32 (by decide) (fun c_6 => ?_) (fun c_6 => ?_)
    · have h := h.1 c_6
      refine lv_aload_n hx hb dX5_restore_59 rfl (lv_at hl 0 rfl) ?_
      refine x_getM C w (k := 0) (v := .ref (ad 288)) (by decide) rfl mf_StairBowsModel_7 dX5_restore_60 ?_
      refine lv_iconst (v := 3) hx hb dX5_restore_63 (by decide) ?_
      refine x_iald C w (i := 288) (K := 20) (j := 3) (n := 225) (jn := 3) rfl (rfl : kd 288 = 20) (by decide) rfl (show vp_in 3 225 from vp_lit (by decide) (by decide)) dX5_restore_64 ?_
      exact x_iret C w h dX5_restore_65
    · have h := h.2 c_6
      refine lv_aload_n hx hb dX5_restore_35 rfl (lv_at hl 0 rfl) ?_
      refine x_getM C w (k := 0) (v := .ref (ad 288)) (by decide) rfl mf_StairBowsModel_7 dX5_restore_36 ?_
      refine lv_iload_n hx hb dX5_restore_39 rfl (lv_at hl 2 rfl) ?_
      refine lv_aload_n hx hb dX5_restore_40 rfl (lv_at hl 0 rfl) ?_
      refine x_getM C w (k := 4) (v := .ref (ad 291)) (by decide) rfl mf_StairBowsModel_19 dX5_restore_41 ?_
      refine lv_sipush (v := 225) hx hb dX5_restore_44 (by decide) ?_
      refine lv_iload_n hx hb dX5_restore_47 rfl (lv_at hl 1 rfl) ?_
      refine lv_imul hx hb dX5_restore_48 ?_
      refine lv_iload_n hx hb dX5_restore_49 rfl (lv_at hl 2 rfl) ?_
      refine lv_iadd hx hb dX5_restore_50 ?_
      refine x_iald C w (i := 291) (K := 23) (j := ((225 * v1) + v2)) (n := 450) (jn := ((225 * v1) + v2).toNatClampNeg) rfl (rfl : kd 291 = 23) (by decide) rfl (show vp_in ((225 * v1) + v2) 450 from h.1) dX5_restore_51 ?_
      have h := h.2
      refine x_iast C w (i := 288) (K := 20) (n := 225) (jn := v2.toNatClampNeg) rfl (rfl : kd 288 = 20) (by decide) (fun _ => rfl) (show vp_in v2 225 from h.1) dX5_restore_52 (fun m_7 e_8 H locs w => ?_)
      have h := h.2 m_7 e_8
      refine lv_iinc (v := (v2 + 1)) (lv' := [(2, .int (v2 + 1)), (0, .ref (ad 287)), (1, .int v1)]) hx hb dX5_restore_53 hl (k := 2) rfl rfl (by decide) rfl (fun ls hl => ?_)
      refine lv_goto (tgt := 28) hx hb dX5_restore_56 (by decide) ?_
      exact ih (v2 + 1) m_7 _ _ _ h w (lv_sub hl [1, 2, 0] rfl)
set_option maxHeartbeats 4000000 in
set_option maxRecDepth 100000 in
theorem c_X5_restore (l : Launch) (g : Gv) (ad : Nat → Nat) (μ : Mem) (sz : Nat) (a1 : Int32) {K : Int32 → Mem → Prop} (h : wp_X5_restore a1 μ K) : Met l yX5_restore (wX yX5_restore cX5_restore 3 (some .int)) rm_X5_restore (Pre g ad μ sz [.ref (ad 287), .int a1]) (PostI g ad sz K) 0 0 (Aw ad sz) := by
  refine Met.ofW (cc := cX5_restore) (maxL := 3) (ret := (some .int)) (by decide) rfl ?_
  intro p e s m args below meth c s₁ B hml hv
  obtain ⟨rfl, rfl, C, w⟩ := x_start B hml hv
  obtain ⟨hx, hb, hml, -, hts, hown, -, -, hN⟩ := id C
  have hl := lv_entry ([.ref (ad 287), .int a1]) (n := 3) (Nat.le_of_ble_eq_true rfl)
  rw [lg_entry_eq]
  generalize (lg_sl ([.ref (ad 287), .int a1]) ++ List.replicate (3 - (lg_sl ([.ref (ad 287), .int a1])).length) Slot.unset).toArray = ls at hl ⊢
  have hl : lv_has ls 3 [(0, .ref (ad 287)), (1, .int a1)] := hl
  show W p l e rm_X5_restore s m _ below meth c s.heap [] 0 0 _ _
  unfold wp_X5_restore at h
  refine lv_iload_n hx hb dX5_restore_0 rfl (lv_at hl 1 rfl) ?_
  refine x_calli C w (x_runS (As := [.int a1]) (rest := []) C w me_X5_isSlot ml_StairBowsModel_179 (c_X5_isSlot l g ad μ _ a1 h) ⟨rfl, rfl⟩ ⟨Nat.le_of_ble_eq_true rfl, Nat.le_of_ble_eq_true rfl⟩ rfl hl.1 rfl (Nat.le_of_ble_eq_true rfl) dX5_restore_1 ⟨Nat.le_of_ble_eq_true rfl, Nat.le_of_ble_eq_true rfl⟩) (fun r_2 m_1 h H locs w => ?_)
  refine lv_if_ne (tgt := 10) hx hb dX5_restore_4 (by decide) (fun c_3 => ?_) (fun c_3 => ?_)
  · have h := h.1 c_3
    refine lv_aload_n hx hb dX5_restore_10 rfl (lv_at hl 0 rfl) ?_
    refine x_getM C w (k := 5) (v := .ref (ad 292)) (by decide) rfl mf_StairBowsModel_22 dX5_restore_11 ?_
    refine lv_iload_n hx hb dX5_restore_14 rfl (lv_at hl 1 rfl) ?_
    refine x_iald C w (i := 292) (K := 24) (j := a1) (n := 2) (jn := a1.toNatClampNeg) rfl (rfl : kd 292 = 24) (by decide) rfl (show vp_in a1 2 from h.1) dX5_restore_15 ?_
    have h := h.2
    refine lv_if_ne (tgt := 22) hx hb dX5_restore_16 (by decide) (fun c_4 => ?_) (fun c_4 => ?_)
    · have h := h.1 c_4
      refine lv_aload_n hx hb dX5_restore_22 rfl (lv_at hl 0 rfl) ?_
      refine x_callv C w (x_runV (i := 287) (As := []) (rest := []) C w (rfl : kd 287 = 7) (by decide) (ci := 5) rfl rfl rfl me_X5_changes ml_StairBowsModel_108 (c_X5_changes l g ad m_1 _  h) ⟨rfl, rfl⟩ ⟨Nat.le_of_ble_eq_true rfl, Nat.le_of_ble_eq_true rfl⟩ rfl hl.1 rfl (Nat.le_of_ble_eq_true rfl) dX5_restore_23 ⟨Nat.le_of_ble_eq_true rfl, Nat.le_of_ble_eq_true rfl⟩) (fun m_5 h H locs w => ?_)
      refine lv_iconst (v := 0) hx hb dX5_restore_26 (by decide) ?_
      refine lv_istore_n (lv' := [(2, .int 0), (0, .ref (ad 287)), (1, .int a1)]) hx hb dX5_restore_27 rfl hl (by decide) rfl (fun ls hl => ?_)
      obtain ⟨n_9, h⟩ := h
      exact t_X5_restore_L28 C n_9 0 m_5 _ _ _ h w (lv_sub hl [1, 2, 0] rfl)
    · have h := h.2 c_4
      refine lv_bipush (v := -5) hx hb dX5_restore_19 (by decide) ?_
      exact x_iret C w h dX5_restore_21
  · have h := h.2 c_3
    refine lv_bipush (v := -2) hx hb dX5_restore_7 (by decide) ?_
    exact x_iret C w h dX5_restore_9

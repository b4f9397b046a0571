/-! METHODS, by program: conditions and contracts -/
abbrev rm_X0_dropOldest : Room := { frames := 0, cells := 0, slots := 0, locals := 0 }
noncomputable def wp_X0_dropOldest_L9 (v1 : Int32) (K : Mem → Prop) (n : Nat) : Int32 → Mem → Prop :=
  Nat.rec (motive := fun _ => Int32 → Mem → Prop) (fun _ _ => False) (fun _ ih v2 μ =>
    ((6 ≤ v2 → (∀ m_3, m_3 = up2 μ 58 5 v1 → (∀ m_5, m_5 = up2 m_3 57 1 ((m_3 57 1) - 1) → K m_5))) ∧ (¬ 6 ≤ v2 → (vp_in v2 6 ∧ ((μ 58 v2.toNatClampNeg).toNatClampNeg < 6 ∧ (vp_in (v2 - 1) 6 ∧ (∀ m_8, m_8 = up2 μ 58 ((v2 - 1).toNatClampNeg) (μ 58 v2.toNatClampNeg) → ih (v2 + 1) m_8))))))) n
theorem wp_X0_dropOldest_L9_s (v1 : Int32) (K : Mem → Prop) (n : Nat) (v2 : Int32) (μ : Mem) : wp_X0_dropOldest_L9 v1 K (n + 1) v2 μ = (
    let ih := wp_X0_dropOldest_L9 v1 K n
    ((6 ≤ v2 → (∀ m_3, m_3 = up2 μ 58 5 v1 → (∀ m_5, m_5 = up2 m_3 57 1 ((m_3 57 1) - 1) → K m_5))) ∧ (¬ 6 ≤ v2 → (vp_in v2 6 ∧ ((μ 58 v2.toNatClampNeg).toNatClampNeg < 6 ∧ (vp_in (v2 - 1) 6 ∧ (∀ m_8, m_8 = up2 μ 58 ((v2 - 1).toNatClampNeg) (μ 58 v2.toNatClampNeg) → ih (v2 + 1) m_8))))))) := rfl
noncomputable def wp_X0_dropOldest  (μ : Mem) (K : Mem → Prop) : Prop :=
    ((μ 58 0).toNatClampNeg < 6 ∧ (∃ n, wp_X0_dropOldest_L9 (μ 58 0) K n 1 μ))
set_option maxHeartbeats 4000000 in
set_option maxRecDepth 100000 in
theorem t_X0_dropOldest_L9 {g : Gv} {ad : Nat → Nat} {l : Launch} {p : Program} {e : Env} {s : State} {m : MethodId} {args : Array Value} {below : List Frame} {meth : Method} {c : Code} (C : Cx g p s m args meth c "StairBows$History" cX0_dropOldest 3 none) {v1 : Int32}  {K : Mem → Prop}  (kv1 : kd (59 + 28 * v1.toNatClampNeg) = 9)  : ∀ (n : Nat) (v2 : Int32) (μ : Mem) (H : Heap) (locs : List Loc) (ls : Array Slot), wp_X0_dropOldest_L9 v1 K n v2 μ → Wd g ad μ (Aw ad s.heap.size) s H locs → lv_has ls 3 [(0, .ref (ad 57)), (1, .ref (ad (59 + 28 * v1.toNatClampNeg))), (2, .int v2)] → W p l e rm_X0_dropOldest s m args below meth c H locs 0 0 (MQ below (PostV g ad s.heap.size K) args s 0 0 (Aw ad s.heap.size)) (F0 m 9 ls []) := by
  obtain ⟨hx, hb, hml, -, hts, hown, -, -, hN⟩ := id C
  intro n
  induction n with
  | zero =>
    intro v2 μ H locs ls h w hl
    exact (show False from h).elim
  | succ n ih =>
    intro v2 μ H locs ls h w hl
    rw [wp_X0_dropOldest_L9_s] at h
    dsimp only at h
    refine lv_iload_n hx hb dX0_dropOldest_9 rfl (lv_at hl 2 rfl) ?_
    refine lv_bipush (v := 6) hx hb dX0_dropOldest_10 (by decide) ?_
    refine lv_icmp_ge (tgt := 35) hx hb dX0_dropOldest_12 (by decide) (fun c_2 => ?_) (fun c_2 => ?_)
    · have h := h.1 c_2
      refine lv_aload_n hx hb dX0_dropOldest_35 rfl (lv_at hl 0 rfl) ?_
      refine x_getH C w (k := 0) (v := .ref (ad 58)) (by decide) rfl mf_History_11 dX0_dropOldest_36 ?_
      refine lv_iconst (v := 5) hx hb dX0_dropOldest_39 (by decide) ?_
      refine lv_aload_n hx hb dX0_dropOldest_40 rfl (lv_at hl 1 rfl) ?_
      have hi : vp_in 5 6 := vp_lit (by decide) (by decide)
      refine x_astH C w (v := v1) (jn := 5) rfl hi kv1 dX0_dropOldest_41 (fun m_3 e_4 H locs w => ?_)
      have h := h m_3 e_4
      refine lv_aload_n hx hb dX0_dropOldest_42 rfl (lv_at hl 0 rfl) ?_
      refine lv_dup hx hb dX0_dropOldest_43 rfl ?_
      refine x_getH C w (k := 1) (v := .int (m_3 57 1)) (by decide) rfl mf_History_18 dX0_dropOldest_44 ?_
      refine lv_iconst (v := 1) hx hb dX0_dropOldest_47 (by decide) ?_
      refine lv_isub hx hb dX0_dropOldest_48 ?_
      refine x_putH C w mf_History_18 dX0_dropOldest_49 (fun m_5 e_6 H locs w => ?_)
      have h := h m_5 e_6
      exact x_vret C w h dX0_dropOldest_52
    · have h := h.2 c_2
      refine lv_aload_n hx hb dX0_dropOldest_15 rfl (lv_at hl 0 rfl) ?_
      refine x_getH C w (k := 0) (v := .ref (ad 58)) (by decide) rfl mf_History_11 dX0_dropOldest_16 ?_
      refine lv_iload_n hx hb dX0_dropOldest_19 rfl (lv_at hl 2 rfl) ?_
      refine lv_iconst (v := 1) hx hb dX0_dropOldest_20 (by decide) ?_
      refine lv_isub hx hb dX0_dropOldest_21 ?_
      refine lv_aload_n hx hb dX0_dropOldest_22 rfl (lv_at hl 0 rfl) ?_
      refine x_getH C w (k := 0) (v := .ref (ad 58)) (by decide) rfl mf_History_11 dX0_dropOldest_23 ?_
      refine lv_iload_n hx hb dX0_dropOldest_26 rfl (lv_at hl 2 rfl) ?_
      have hi := h.1
      have h := h.2
      have k_7 := kd_H _ h.1
      have h := h.2
      refine x_aldH C w (jn := v2.toNatClampNeg) rfl hi dX0_dropOldest_27 ?_
      have hi := h.1
      have h := h.2
      refine x_astH C w (v := (μ 58 v2.toNatClampNeg)) (jn := (v2 - 1).toNatClampNeg) rfl hi k_7 dX0_dropOldest_28 (fun m_8 e_9 H locs w => ?_)
      have h := h m_8 e_9
      refine lv_iinc (v := (v2 + 1)) (lv' := [(2, .int (v2 + 1)), (0, .ref (ad 57)), (1, .ref (ad (59 + 28 * v1.toNatClampNeg)))]) hx hb dX0_dropOldest_29 hl (k := 2) rfl rfl (by decide) rfl (fun ls hl => ?_)
      refine lv_goto (tgt := 9) hx hb dX0_dropOldest_32 (by decide) ?_
      exact ih (v2 + 1) m_8 _ _ _ h w (lv_sub hl [1, 2, 0] rfl)
set_option maxHeartbeats 4000000 in
set_option maxRecDepth 100000 in
theorem c_X0_dropOldest (l : Launch) (g : Gv) (ad : Nat → Nat) (μ : Mem) (sz : Nat)  {K : Mem → Prop} (h : wp_X0_dropOldest μ K) : Met l yX0_dropOldest (wX yX0_dropOldest cX0_dropOldest 3 none) rm_X0_dropOldest (Pre g ad μ sz [.ref (ad 57)]) (PostV g ad sz K) 0 0 (Aw ad sz) := by
  refine Met.ofW (cc := cX0_dropOldest) (maxL := 3) (ret := none) (by decide) rfl ?_
  intro p e s m args below meth c s₁ B hml hv
  obtain ⟨rfl, rfl, C, w⟩ := x_start B hml hv
  obtain ⟨hx, hb, hml, -, hts, hown, -, -, hN⟩ := id C
  have hl := lv_entry ([.ref (ad 57)]) (n := 3) (Nat.le_of_ble_eq_true rfl)
  rw [lg_entry_eq]
  generalize (lg_sl ([.ref (ad 57)]) ++ List.replicate (3 - (lg_sl ([.ref (ad 57)])).length) Slot.unset).toArray = ls at hl ⊢
  have hl : lv_has ls 3 [(0, .ref (ad 57))] := hl
  show W p l e rm_X0_dropOldest s m _ below meth c s.heap [] 0 0 _ _
  unfold wp_X0_dropOldest at h
  refine lv_aload_n hx hb dX0_dropOldest_0 rfl (lv_at hl 0 rfl) ?_
  refine x_getH C w (k := 0) (v := .ref (ad 58)) (by decide) rfl mf_History_11 dX0_dropOldest_1 ?_
  refine lv_iconst (v := 0) hx hb dX0_dropOldest_4 (by decide) ?_
  have hi : vp_in 0 6 := vp_lit (by decide) (by decide)
  have k_1 := kd_H _ h.1
  have h := h.2
  refine x_aldH C w (jn := 0) rfl hi dX0_dropOldest_5 ?_
  refine lv_astore_n (lv' := [(1, .ref (ad (59 + 28 * (μ 58 0).toNatClampNeg))), (0, .ref (ad 57))]) hx hb dX0_dropOldest_6 rfl hl (by decide) rfl (fun ls hl => ?_)
  refine lv_iconst (v := 1) hx hb dX0_dropOldest_7 (by decide) ?_
  refine lv_istore_n (lv' := [(2, .int 1), (1, .ref (ad (59 + 28 * (μ 58 0).toNatClampNeg))), (0, .ref (ad 57))]) hx hb dX0_dropOldest_8 rfl hl (by decide) rfl (fun ls hl => ?_)
  obtain ⟨n_10, h⟩ := h
  exact t_X0_dropOldest_L9 C k_1 n_10 1 μ _ _ _ h w (lv_sub hl [2, 1, 0] rfl)
abbrev rm_X0_keep : Room := { frames := 2, cells := 0, slots := 0, locals := 52 }
noncomputable def wp_X0_keep_B13 (v1 : Nat) (K : Mem → Prop) (μ : Mem) : Prop :=
    (((μ 57 1) < 0 → K μ) ∧ (¬ (μ 57 1) < 0 → ((6 ≤ (μ 57 1) → K μ) ∧ (¬ 6 ≤ (μ 57 1) → (vp_in (μ 57 1) 6 ∧ ((μ 58 ((μ 57 1).toNatClampNeg)).toNatClampNeg < 6 ∧ (wp_X3_takeFrom (59 + 28 * (μ 58 ((μ 57 1).toNatClampNeg)).toNatClampNeg) v1 μ (fun m_5 => (∀ m_6, m_6 = up2 m_5 57 1 ((m_5 57 1) + 1) → K m_6)))))))))
noncomputable def wp_X0_keep (a1 : Nat) (μ : Mem) (K : Mem → Prop) : Prop :=
    ((¬ (μ 57 1) = 6 → wp_X0_keep_B13 a1 K μ) ∧ ((μ 57 1) = 6 → (wp_X0_dropOldest μ (fun m_8 => wp_X0_keep_B13 a1 K m_8))))
set_option maxHeartbeats 4000000 in
set_option maxRecDepth 100000 in
theorem t_X0_keep_B13 {g : Gv} {ad : Nat → Nat} {l : Launch} {p : Program} {e : Env} {s : State} {m : MethodId} {args : Array Value} {below : List Frame} {meth : Method} {c : Code} (C : Cx g p s m args meth c "StairBows$History" cX0_keep 2 none) {v1 : Nat}  {K : Mem → Prop}  (kv1 : kd v1 = 9)  (μ : Mem) (H : Heap) (locs : List Loc) (ls : Array Slot) (h : wp_X0_keep_B13 v1 K μ) (w : Wd g ad μ (Aw ad s.heap.size) s H locs) (hl : lv_has ls 2 [(0, .ref (ad 57)), (1, .ref (ad v1))]) : W p l e rm_X0_keep s m args below meth c H locs 0 0 (MQ below (PostV g ad s.heap.size K) args s 0 0 (Aw ad s.heap.size)) (F0 m 13 ls []) := by
  obtain ⟨hx, hb, hml, -, hts, hown, -, -, hN⟩ := id C
  unfold wp_X0_keep_B13 at h
  refine lv_aload_n hx hb dX0_keep_13 rfl (lv_at hl 0 rfl) ?_
  refine x_getH C w (k := 1) (v := .int (μ 57 1)) (by decide) rfl mf_History_18 dX0_keep_14 ?_
  refine lv_if_lt (tgt := 52) hx hb dX0_keep_17 (by decide) (fun c_2 => ?_) (fun c_2 => ?_)
  · have h := h.1 c_2
    exact x_vret C w h dX0_keep_52
  · have h := h.2 c_2
    refine lv_aload_n hx hb dX0_keep_20 rfl (lv_at hl 0 rfl) ?_
    refine x_getH C w (k := 1) (v := .int (μ 57 1)) (by decide) rfl mf_History_18 dX0_keep_21 ?_
    refine lv_bipush (v := 6) hx hb dX0_keep_24 (by decide) ?_
    refine lv_icmp_ge (tgt := 52) hx hb dX0_keep_26 (by decide) (fun c_3 => ?_) (fun c_3 => ?_)
    · have h := h.1 c_3
      exact x_vret C w h dX0_keep_52
    · have h := h.2 c_3
      refine lv_aload_n hx hb dX0_keep_29 rfl (lv_at hl 0 rfl) ?_
      refine x_getH C w (k := 0) (v := .ref (ad 58)) (by decide) rfl mf_History_11 dX0_keep_30 ?_
      refine lv_aload_n hx hb dX0_keep_33 rfl (lv_at hl 0 rfl) ?_
      refine x_getH C w (k := 1) (v := .int (μ 57 1)) (by decide) rfl mf_History_18 dX0_keep_34 ?_
      have hi := h.1
      have h := h.2
      have k_4 := kd_H _ h.1
      have h := h.2
      refine x_aldH C w (jn := (μ 57 1).toNatClampNeg) rfl hi dX0_keep_37 ?_
      refine lv_aload_n hx hb dX0_keep_38 rfl (lv_at hl 1 rfl) ?_
      refine x_callv C w (x_runV (i := (59 + 28 * (μ 58 ((μ 57 1).toNatClampNeg)).toNatClampNeg)) (As := [.ref (ad v1)]) (rest := []) C w k_4 (by decide) (ci := 3) rfl rfl rfl me_X3_takeFrom ml_History_25 (c_X3_takeFrom l g ad μ _ (59 + 28 * (μ 58 ((μ 57 1).toNatClampNeg)).toNatClampNeg) k_4 v1 kv1 h) ⟨rfl, rfl⟩ ⟨Nat.le_of_ble_eq_true rfl, Nat.le_of_ble_eq_true rfl⟩ rfl hl.1 rfl (Nat.le_of_ble_eq_true rfl) dX0_keep_39 ⟨Nat.le_of_ble_eq_true rfl, Nat.le_of_ble_eq_true rfl⟩) (fun m_5 h H locs w => ?_)
      refine lv_aload_n hx hb dX0_keep_42 rfl (lv_at hl 0 rfl) ?_
      refine lv_dup hx hb dX0_keep_43 rfl ?_
      refine x_getH C w (k := 1) (v := .int (m_5 57 1)) (by decide) rfl mf_History_18 dX0_keep_44 ?_
      refine lv_iconst (v := 1) hx hb dX0_keep_47 (by decide) ?_
      refine lv_iadd hx hb dX0_keep_48 ?_
      refine x_putH C w mf_History_18 dX0_keep_49 (fun m_6 e_7 H locs w => ?_)
      have h := h m_6 e_7
      exact x_vret C w h dX0_keep_52
set_option maxHeartbeats 4000000 in
set_option maxRecDepth 100000 in
theorem c_X0_keep (l : Launch) (g : Gv) (ad : Nat → Nat) (μ : Mem) (sz : Nat) (a1 : Nat) (k1 : kd a1 = 9) {K : Mem → Prop} (h : wp_X0_keep a1 μ K) : Met l yX0_keep (wX yX0_keep cX0_keep 2 none) rm_X0_keep (Pre g ad μ sz [.ref (ad 57), .ref (ad a1)]) (PostV g ad sz K) 0 0 (Aw ad sz) := by
  refine Met.ofW (cc := cX0_keep) (maxL := 2) (ret := none) (by decide) rfl ?_
  intro p e s m args below meth c s₁ B hml hv
  obtain ⟨rfl, rfl, C, w⟩ := x_start B hml hv
  obtain ⟨hx, hb, hml, -, hts, hown, -, -, hN⟩ := id C
  have hl := lv_entry ([.ref (ad 57), .ref (ad a1)]) (n := 2) (Nat.le_of_ble_eq_true rfl)
  rw [lg_entry_eq]
  generalize (lg_sl ([.ref (ad 57), .ref (ad a1)]) ++ List.replicate (2 - (lg_sl ([.ref (ad 57), .ref (ad a1)])).length) Slot.unset).toArray = ls at hl ⊢
  have hl : lv_has ls 2 [(0, .ref (ad 57)), (1, .ref (ad a1))] := hl
  show W p l e rm_X0_keep s m _ below meth c s.heap [] 0 0 _ _
  unfold wp_X0_keep at h
  refine lv_aload_n hx hb dX0_keep_0 rfl (lv_at hl 0 rfl) ?_
  refine x_getH C w (k := 1) (v := .int (μ 57 1)) (by decide) rfl mf_History_18 dX0_keep_1 ?_
  refine lv_bipush (v := 6) hx hb dX0_keep_4 (by decide) ?_
  refine lv_icmp_ne (tgt := 13) hx hb dX0_keep_6 (by decide) (fun c_1 => ?_) (fun c_1 => ?_)
  · have h := h.1 c_1
    exact t_X0_keep_B13 C k1 μ _ _ _ h w (lv_sub hl [0, 1] rfl)
  · have h := h.2 c_1
    refine lv_aload_n hx hb dX0_keep_9 rfl (lv_at hl 0 rfl) ?_
    refine x_callv C w (x_runV (i := 57) (As := []) (rest := []) C w (rfl : kd 57 = 1) (by decide) (ci := 0) rfl rfl rfl me_X0_dropOldest ml_History_22 (c_X0_dropOldest l g ad μ _  h) ⟨rfl, rfl⟩ ⟨Nat.le_of_ble_eq_true rfl, Nat.le_of_ble_eq_true rfl⟩ rfl hl.1 rfl (Nat.le_of_ble_eq_true rfl) dX0_keep_10 ⟨Nat.le_of_ble_eq_true rfl, Nat.le_of_ble_eq_true rfl⟩) (fun m_8 h H locs w => ?_)
    exact t_X0_keep_B13 C k1 m_8 _ _ _ h w (lv_sub hl [0, 1] rfl)
abbrev rm_X1_charactersIn : Room := { frames := 0, cells := 0, slots := 0, locals := 0 }
noncomputable def wp_X1_charactersIn_L4 (K : Int32 → Mem → Prop) (n : Nat) : Int32 → Int64 → Mem → Prop :=
  Nat.rec (motive := fun _ => Int32 → Int64 → Mem → Prop) (fun _ _ _ => False) (fun _ ih v2 v3 μ =>
    (((lg_cmp v3 0) = 0 → K v2 μ) ∧ (¬ (lg_cmp v3 0) = 0 → ((8 ≤ v2 → K v2 μ) ∧ (¬ 8 ≤ v2 → (((lg_cmp (v3 &&& 255) 33) < 0 → K 0 μ) ∧ (¬ (lg_cmp (v3 &&& 255) 33) < 0 → (((lg_cmp (v3 &&& 255) 126) ≤ 0 → ih (v2 + 1) (lsr v3 8) μ) ∧ (¬ (lg_cmp (v3 &&& 255) 126) ≤ 0 → K 0 μ))))))))) n
theorem wp_X1_charactersIn_L4_s (K : Int32 → Mem → Prop) (n : Nat) (v2 : Int32) (v3 : Int64) (μ : Mem) : wp_X1_charactersIn_L4 K (n + 1) v2 v3 μ = (
    let ih := wp_X1_charactersIn_L4 K n
    (((lg_cmp v3 0) = 0 → K v2 μ) ∧ (¬ (lg_cmp v3 0) = 0 → ((8 ≤ v2 → K v2 μ) ∧ (¬ 8 ≤ v2 → (((lg_cmp (v3 &&& 255) 33) < 0 → K 0 μ) ∧ (¬ (lg_cmp (v3 &&& 255) 33) < 0 → (((lg_cmp (v3 &&& 255) 126) ≤ 0 → ih (v2 + 1) (lsr v3 8) μ) ∧ (¬ (lg_cmp (v3 &&& 255) 126) ≤ 0 → K 0 μ))))))))) := rfl
noncomputable def wp_X1_charactersIn (a0 : Int64) (μ : Mem) (K : Int32 → Mem → Prop) : Prop :=
    (∃ n, wp_X1_charactersIn_L4 K n 0 a0 μ)
set_option maxHeartbeats 4000000 in
set_option maxRecDepth 100000 in
theorem t_X1_charactersIn_L4 {g : Gv} {ad : Nat → Nat} {l : Launch} {p : Program} {e : Env} {s : State} {m : MethodId} {args : Array Value} {below : List Frame} {meth : Method} {c : Code} (C : Cx g p s m args meth c "StairBows$Pad" cX1_charactersIn 7 (some .int))   {K : Int32 → Mem → Prop}    : ∀ (n : Nat) (v2 : Int32) (v3 : Int64) (μ : Mem) (H : Heap) (locs : List Loc) (ls : Array Slot), wp_X1_charactersIn_L4 K n v2 v3 μ → Wd g ad μ (Aw ad s.heap.size) s H locs → lv_has ls 7 [(2, .int v2), (3, .long v3)] → W p l e rm_X1_charactersIn s m args below meth c H locs 0 0 (MQ below (PostI g ad s.heap.size K) args s 0 0 (Aw ad s.heap.size)) (F0 m 4 ls []) := by
  obtain ⟨hx, hb, hml, -, hts, hown, -, -, hN⟩ := id C
  intro n
  induction n with
  | zero =>
    intro v2 v3 μ H locs ls h w hl
    exact (show False from h).elim
  | succ n ih =>
    intro v2 v3 μ H locs ls h w hl
    rw [wp_X1_charactersIn_L4_s] at h
    dsimp only at h
    refine lv_lload_n hx hb dX1_charactersIn_4 rfl (lv_at hl 1 rfl) ?_
    refine lv_lconst (v := 0) hx hb dX1_charactersIn_5 (by decide) ?_
    refine W.lcmp hx hb dX1_charactersIn_6 ?_
    refine lv_if_eq (tgt := 54) hx hb dX1_charactersIn_7 (by decide) (fun c_1 => ?_) (fun c_1 => ?_)
    · have h := h.1 c_1
      refine lv_iload_n hx hb dX1_charactersIn_54 rfl (lv_at hl 0 rfl) ?_
      exact x_iret C w h dX1_charactersIn_55
    · have h := h.2 c_1
      refine lv_iload_n hx hb dX1_charactersIn_10 rfl (lv_at hl 0 rfl) ?_
      refine lv_bipush (v := 8) hx hb dX1_charactersIn_11 (by decide) ?_
      refine lv_icmp_ge (tgt := 54) hx hb dX1_charactersIn_13 (by decide) (fun c_2 => ?_) (fun c_2 => ?_)
      · have h := h.1 c_2
        refine lv_iload_n hx hb dX1_charactersIn_54 rfl (lv_at hl 0 rfl) ?_
        exact x_iret C w h dX1_charactersIn_55
      · have h := h.2 c_2
        refine lv_lload_n hx hb dX1_charactersIn_16 rfl (lv_at hl 1 rfl) ?_
        refine lv_ldc2 (v := 255) hx hb hown (hts _ mk_Pad_23) dX1_charactersIn_17 ?_
        refine lv_land hx hb dX1_charactersIn_20 ?_
        refine lv_lstore (lv' := [(5, .long (v3 &&& 255)), (2, .int v2), (3, .long v3)]) hx hb dX1_charactersIn_21 hl (by decide) rfl (fun ls hl => ?_)
        refine lv_lload hx hb dX1_charactersIn_23 (lv_at hl 0 rfl) ?_
        refine lv_ldc2 (v := 33) hx hb hown (hts _ mk_Pad_25) dX1_charactersIn_25 ?_
        refine W.lcmp hx hb dX1_charactersIn_28 ?_
        refine lv_if_lt (tgt := 41) hx hb dX1_charactersIn_29 (by decide) (fun c_3 => ?_) (fun c_3 => ?_)
        · have h := h.1 c_3
          refine lv_iconst (v := 0) hx hb dX1_charactersIn_41 (by decide) ?_
          exact x_iret C w h dX1_charactersIn_42
        · have h := h.2 c_3
          refine lv_lload hx hb dX1_charactersIn_32 (lv_at hl 0 rfl) ?_
          refine lv_ldc2 (v := 126) hx hb hown (hts _ mk_Pad_27) dX1_charactersIn_34 ?_
          refine W.lcmp hx hb dX1_charactersIn_37 ?_
          refine lv_if_le (tgt := 43) hx hb dX1_charactersIn_38 (by decide) (fun c_4 => ?_) (fun c_4 => ?_)
          · have h := h.1 c_4
            refine lv_lload_n hx hb dX1_charactersIn_43 rfl (lv_at hl 2 rfl) ?_
            refine lv_bipush (v := 8) hx hb dX1_charactersIn_44 (by decide) ?_
            refine lv_lushr (v := (lsr v3 8)) hx hb dX1_charactersIn_46 rfl ?_
            refine lv_lstore_n (lv' := [(3, .long (lsr v3 8)), (5, .long (v3 &&& 255)), (2, .int v2)]) hx hb dX1_charactersIn_47 rfl hl (by decide) rfl (fun ls hl => ?_)
            refine lv_iinc (v := (v2 + 1)) (lv' := [(2, .int (v2 + 1)), (3, .long (lsr v3 8)), (5, .long (v3 &&& 255))]) hx hb dX1_charactersIn_48 hl (k := 2) rfl rfl (by decide) rfl (fun ls hl => ?_)
            refine lv_goto (tgt := 4) hx hb dX1_charactersIn_51 (by decide) ?_
            exact ih (v2 + 1) (lsr v3 8) μ _ _ _ h w (lv_sub hl [0, 1] rfl)
          · have h := h.2 c_4
            refine lv_iconst (v := 0) hx hb dX1_charactersIn_41 (by decide) ?_
            exact x_iret C w h dX1_charactersIn_42
set_option maxHeartbeats 4000000 in
set_option maxRecDepth 100000 in
theorem c_X1_charactersIn (l : Launch) (g : Gv) (ad : Nat → Nat) (μ : Mem) (sz : Nat) (a0 : Int64) {K : Int32 → Mem → Prop} (h : wp_X1_charactersIn a0 μ K) : Met l yX1_charactersIn (wX yX1_charactersIn cX1_charactersIn 7 (some .int)) rm_X1_charactersIn (Pre g ad μ sz [.long a0]) (PostI g ad sz K) 0 0 (Aw ad sz) := by
  refine Met.ofW (cc := cX1_charactersIn) (maxL := 7) (ret := (some .int)) (by decide) rfl ?_
  intro p e s m args below meth c s₁ B hml hv
  obtain ⟨rfl, rfl, C, w⟩ := x_start B hml hv
  obtain ⟨hx, hb, hml, -, hts, hown, -, -, hN⟩ := id C
  have hl := lv_entry ([.long a0]) (n := 7) (Nat.le_of_ble_eq_true rfl)
  rw [lg_entry_eq]
  generalize (lg_sl ([.long a0]) ++ List.replicate (7 - (lg_sl ([.long a0])).length) Slot.unset).toArray = ls at hl ⊢
  have hl : lv_has ls 7 [(0, .long a0)] := hl
  show W p l e rm_X1_charactersIn s m _ below meth c s.heap [] 0 0 _ _
  unfold wp_X1_charactersIn at h
  refine lv_iconst (v := 0) hx hb dX1_charactersIn_0 (by decide) ?_
  refine lv_istore_n (lv' := [(2, .int 0), (0, .long a0)]) hx hb dX1_charactersIn_1 rfl hl (by decide) rfl (fun ls hl => ?_)
  refine lv_lload_n hx hb dX1_charactersIn_2 rfl (lv_at hl 1 rfl) ?_
  refine lv_lstore_n (lv' := [(3, .long a0), (2, .int 0), (0, .long a0)]) hx hb dX1_charactersIn_3 rfl hl (by decide) rfl (fun ls hl => ?_)
  obtain ⟨n_5, h⟩ := h
  exact t_X1_charactersIn_L4 C n_5 0 a0 μ _ _ _ h w (lv_sub hl [1, 0] rfl)
abbrev rm_X1_append : Room := { frames := 1, cells := 0, slots := 0, locals := 26 }
noncomputable def wp_X1_append_L29 (v1 : Int64) (v3 : Int32) (K : Int32 → Mem → Prop) (n : Nat) : Int32 → Mem → Prop :=
  Nat.rec (motive := fun _ => Int32 → Mem → Prop) (fun _ _ => False) (fun _ ih v4 μ =>
    ((v3 ≤ v4 → (∀ m_6, m_6 = up2 μ 229 1 ((μ 229 1) + v3) → K (m_6 229 1) m_6)) ∧ (¬ v3 ≤ v4 → (vp_in ((((μ 229 1) + v3) - 1) - v4) 60 ∧ (∀ m_8, m_8 = up2 μ 230 (((((μ 229 1) + v3) - 1) - v4).toNatClampNeg) (vp_nar .char ((Int32.toUInt32 (Int64.toInt32 ((lsr v1 (8 * v4)) &&& 255)) % 65536).toInt32)) → ih (v4 + 1) m_8))))) n
theorem wp_X1_append_L29_s (v1 : Int64) (v3 : Int32) (K : Int32 → Mem → Prop) (n : Nat) (v4 : Int32) (μ : Mem) : wp_X1_append_L29 v1 v3 K (n + 1) v4 μ = (
    let ih := wp_X1_append_L29 v1 v3 K n
    ((v3 ≤ v4 → (∀ m_6, m_6 = up2 μ 229 1 ((μ 229 1) + v3) → K (m_6 229 1) m_6)) ∧ (¬ v3 ≤ v4 → (vp_in ((((μ 229 1) + v3) - 1) - v4) 60 ∧ (∀ m_8, m_8 = up2 μ 230 (((((μ 229 1) + v3) - 1) - v4).toNatClampNeg) (vp_nar .char ((Int32.toUInt32 (Int64.toInt32 ((lsr v1 (8 * v4)) &&& 255)) % 65536).toInt32)) → ih (v4 + 1) m_8))))) := rfl
noncomputable def wp_X1_append (a1 : Int64) (μ : Mem) (K : Int32 → Mem → Prop) : Prop :=
    (wp_X1_charactersIn a1 μ (fun r_2 m_1 => ((¬ r_2 = 0 → ((((m_1 229 1) + r_2) ≤ 60 → (∃ n, wp_X1_append_L29 a1 r_2 K n 0 m_1)) ∧ (¬ ((m_1 229 1) + r_2) ≤ 60 → K (-4) m_1))) ∧ (r_2 = 0 → K (-2) m_1))))
set_option maxHeartbeats 4000000 in
set_option maxRecDepth 100000 in
theorem t_X1_append_L29 {g : Gv} {ad : Nat → Nat} {l : Launch} {p : Program} {e : Env} {s : State} {m : MethodId} {args : Array Value} {below : List Frame} {meth : Method} {c : Code} (C : Cx g p s m args meth c "StairBows$Pad" cX1_append 5 (some .int)) {v1 : Int64} {v3 : Int32}  {K : Int32 → Mem → Prop}    : ∀ (n : Nat) (v4 : Int32) (μ : Mem) (H : Heap) (locs : List Loc) (ls : Array Slot), wp_X1_append_L29 v1 v3 K n v4 μ → Wd g ad μ (Aw ad s.heap.size) s H locs → lv_has ls 5 [(0, .ref (ad 229)), (1, .long v1), (3, .int v3), (4, .int v4)] → W p l e rm_X1_append s m args below meth c H locs 0 0 (MQ below (PostI g ad s.heap.size K) args s 0 0 (Aw ad s.heap.size)) (F0 m 29 ls []) := by
  obtain ⟨hx, hb, hml, -, hts, hown, -, -, hN⟩ := id C
  intro n
  induction n with
  | zero =>
    intro v4 μ H locs ls h w hl
    exact (show False from h).elim
  | succ n ih =>
    intro v4 μ H locs ls h w hl
    rw [wp_X1_append_L29_s] at h
    dsimp only at h
    refine lv_iload hx hb dX1_append_29 (lv_at hl 3 rfl) ?_
    refine lv_iload_n hx hb dX1_append_31 rfl (lv_at hl 2 rfl) ?_
    refine lv_icmp_ge (tgt := 70) hx hb dX1_append_32 (by decide) (fun c_5 => ?_) (fun c_5 => ?_)
    · have h := h.1 c_5
      refine lv_aload_n hx hb dX1_append_70 rfl (lv_at hl 0 rfl) ?_
      refine lv_dup hx hb dX1_append_71 rfl ?_
      refine x_getD C w (k := 1) (v := .int (μ 229 1)) (by decide) rfl mf_Pad_19 dX1_append_72 ?_
      refine lv_iload_n hx hb dX1_append_75 rfl (lv_at hl 2 rfl) ?_
      refine lv_iadd hx hb dX1_append_76 ?_
      refine x_putD C w mf_Pad_19 dX1_append_77 (fun m_6 e_7 H locs w => ?_)
      have h := h m_6 e_7
      refine lv_aload_n hx hb dX1_append_80 rfl (lv_at hl 0 rfl) ?_
      refine x_getD C w (k := 1) (v := .int (m_6 229 1)) (by decide) rfl mf_Pad_19 dX1_append_81 ?_
      exact x_iret C w h dX1_append_84
    · have h := h.2 c_5
      refine lv_aload_n hx hb dX1_append_35 rfl (lv_at hl 0 rfl) ?_
      refine x_getD C w (k := 0) (v := .ref (ad 230)) (by decide) rfl mf_Pad_9 dX1_append_36 ?_
      refine lv_aload_n hx hb dX1_append_39 rfl (lv_at hl 0 rfl) ?_
      refine x_getD C w (k := 1) (v := .int (μ 229 1)) (by decide) rfl mf_Pad_19 dX1_append_40 ?_
      refine lv_iload_n hx hb dX1_append_43 rfl (lv_at hl 2 rfl) ?_
      refine lv_iadd hx hb dX1_append_44 ?_
      refine lv_iconst (v := 1) hx hb dX1_append_45 (by decide) ?_
      refine lv_isub hx hb dX1_append_46 ?_
      refine lv_iload hx hb dX1_append_47 (lv_at hl 3 rfl) ?_
      refine lv_isub hx hb dX1_append_49 ?_
      refine lv_lload_n hx hb dX1_append_50 rfl (lv_at hl 1 rfl) ?_
      refine lv_bipush (v := 8) hx hb dX1_append_51 (by decide) ?_
      refine lv_iload hx hb dX1_append_53 (lv_at hl 3 rfl) ?_
      refine lv_imul hx hb dX1_append_55 ?_
      refine lv_lushr (v := (lsr v1 (8 * v4))) hx hb dX1_append_56 rfl ?_
      refine lv_ldc2 (v := 255) hx hb hown (hts _ mk_Pad_23) dX1_append_57 ?_
      refine lv_land hx hb dX1_append_60 ?_
      refine lv_l2i (v := (Int64.toInt32 ((lsr v1 (8 * v4)) &&& 255))) hx hb dX1_append_61 rfl ?_
      refine lv_i2c (v := ((Int32.toUInt32 (Int64.toInt32 ((lsr v1 (8 * v4)) &&& 255)) % 65536).toInt32)) hx hb dX1_append_62 rfl ?_
      refine x_cast C w (show vp_in ((((μ 229 1) + v3) - 1) - v4) 60 from h.1) dX1_append_63 (fun m_8 e_9 H locs w => ?_)
      have h := h.2 m_8 e_9
      refine lv_iinc (v := (v4 + 1)) (lv' := [(4, .int (v4 + 1)), (0, .ref (ad 229)), (1, .long v1), (3, .int v3)]) hx hb dX1_append_64 hl (k := 3) rfl rfl (by decide) rfl (fun ls hl => ?_)
      refine lv_goto (tgt := 29) hx hb dX1_append_67 (by decide) ?_
      exact ih (v4 + 1) m_8 _ _ _ h w (lv_sub hl [1, 2, 3, 0] rfl)
set_option maxHeartbeats 4000000 in
set_option maxRecDepth 100000 in
theorem c_X1_append (l : Launch) (g : Gv) (ad : Nat → Nat) (μ : Mem) (sz : Nat) (a1 : Int64) {K : Int32 → Mem → Prop} (h : wp_X1_append a1 μ K) : Met l yX1_append (wX yX1_append cX1_append 5 (some .int)) rm_X1_append (Pre g ad μ sz [.ref (ad 229), .long a1]) (PostI g ad sz K) 0 0 (Aw ad sz) := by
  refine Met.ofW (cc := cX1_append) (maxL := 5) (ret := (some .int)) (by decide) rfl ?_
  intro p e s m args below meth c s₁ B hml hv
  obtain ⟨rfl, rfl, C, w⟩ := x_start B hml hv
  obtain ⟨hx, hb, hml, -, hts, hown, -, -, hN⟩ := id C
  have hl := lv_entry ([.ref (ad 229), .long a1]) (n := 5) (Nat.le_of_ble_eq_true rfl)
  rw [lg_entry_eq]
  generalize (lg_sl ([.ref (ad 229), .long a1]) ++ List.replicate (5 - (lg_sl ([.ref (ad 229), .long a1])).length) Slot.unset).toArray = ls at hl ⊢
  have hl : lv_has ls 5 [(0, .ref (ad 229)), (1, .long a1)] := hl
  show W p l e rm_X1_append s m _ below meth c s.heap [] 0 0 _ _
  unfold wp_X1_append at h
  refine lv_lload_n hx hb dX1_append_0 rfl (lv_at hl 1 rfl) ?_
  refine x_calli C w (x_runS (As := [.long a1]) (rest := []) C w me_X1_charactersIn ml_Pad_15 (c_X1_charactersIn l g ad μ _ a1 h) ⟨rfl, rfl⟩ ⟨Nat.le_of_ble_eq_true rfl, Nat.le_of_ble_eq_true rfl⟩ rfl hl.1 rfl (Nat.le_of_ble_eq_true rfl) dX1_append_1 ⟨Nat.le_of_ble_eq_true rfl, Nat.le_of_ble_eq_true rfl⟩) (fun r_2 m_1 h H locs w => ?_)
  refine lv_istore_n (lv' := [(3, .int r_2), (0, .ref (ad 229)), (1, .long a1)]) hx hb dX1_append_4 rfl hl (by decide) rfl (fun ls hl => ?_)
  refine lv_iload_n hx hb dX1_append_5 rfl (lv_at hl 0 rfl) ?_
  refine lv_if_ne (tgt := 12) hx hb dX1_append_6 (by decide) (fun c_3 => ?_) (fun c_3 => ?_)
  · have h := h.1 c_3
    refine lv_aload_n hx hb dX1_append_12 rfl (lv_at hl 1 rfl) ?_
    refine x_getD C w (k := 1) (v := .int (m_1 229 1)) (by decide) rfl mf_Pad_19 dX1_append_13 ?_
    refine lv_iload_n hx hb dX1_append_16 rfl (lv_at hl 0 rfl) ?_
    refine lv_iadd hx hb dX1_append_17 ?_
    refine lv_bipush (v := 60) hx hb dX1_append_18 (by decide) ?_
    refine lv_icmp_le (tgt := 26) hx hb dX1_append_20 (by decide) (fun c_4 => ?_) (fun c_4 => ?_)
    · have h := h.1 c_4
      refine lv_iconst (v := 0) hx hb dX1_append_26 (by decide) ?_
      refine lv_istore (lv' := [(4, .int 0), (3, .int r_2), (0, .ref (ad 229)), (1, .long a1)]) hx hb dX1_append_27 hl (by decide) rfl (fun ls hl => ?_)
      obtain ⟨n_10, h⟩ := h
      exact t_X1_append_L29 C n_10 0 m_1 _ _ _ h w (lv_sub hl [2, 3, 1, 0] rfl)
    · have h := h.2 c_4
      refine lv_bipush (v := -4) hx hb dX1_append_23 (by decide) ?_
      exact x_iret C w h dX1_append_25
  · have h := h.2 c_3
    refine lv_bipush (v := -2) hx hb dX1_append_9 (by decide) ?_
    exact x_iret C w h dX1_append_11
abbrev rm_X1_canStandAt : Room := { frames := 0, cells := 0, slots := 0, locals := 0 }
noncomputable def wp_X1_canStandAt (a1 : Int32) (μ : Mem) (K : Int32 → Mem → Prop) : Prop :=
    (vp_in a1 60 ∧ ((¬ (a1 - (a1 / 2) * 2) = 0 → (((μ 230 a1.toNatClampNeg) < 49 → K 0 μ) ∧ (¬ (μ 230 a1.toNatClampNeg) < 49 → ((57 < (μ 230 a1.toNatClampNeg) → K 0 μ) ∧ (¬ 57 < (μ 230 a1.toNatClampNeg) → K 1 μ))))) ∧ ((a1 - (a1 / 2) * 2) = 0 → (((μ 230 a1.toNatClampNeg) = 117 → K 1 μ) ∧ (¬ (μ 230 a1.toNatClampNeg) = 117 → ((¬ (μ 230 a1.toNatClampNeg) = 100 → K 0 μ) ∧ ((μ 230 a1.toNatClampNeg) = 100 → K 1 μ)))))))
set_option maxHeartbeats 4000000 in
set_option maxRecDepth 100000 in
theorem c_X1_canStandAt (l : Launch) (g : Gv) (ad : Nat → Nat) (μ : Mem) (sz : Nat) (a1 : Int32) {K : Int32 → Mem → Prop} (h : wp_X1_canStandAt a1 μ K) : Met l yX1_canStandAt (wX yX1_canStandAt cX1_canStandAt 3 (some .boolean)) rm_X1_canStandAt (Pre g ad μ sz [.ref (ad 229), .int a1]) (PostI g ad sz K) 0 0 (Aw ad sz) := by
  refine Met.ofW (cc := cX1_canStandAt) (maxL := 3) (ret := (some .boolean)) (by decide) rfl ?_
  intro p e s m args below meth c s₁ B hml hv
  obtain ⟨rfl, rfl, C, w⟩ := x_start B hml hv
  obtain ⟨hx, hb, hml, -, hts, hown, -, -, hN⟩ := id C
  have hl := lv_entry ([.ref (ad 229), .int a1]) (n := 3) (Nat.le_of_ble_eq_true rfl)
  rw [lg_entry_eq]
  generalize (lg_sl ([.ref (ad 229), .int a1]) ++ List.replicate (3 - (lg_sl ([.ref (ad 229), .int a1])).length) Slot.unset).toArray = ls at hl ⊢
  have hl : lv_has ls 3 [(0, .ref (ad 229)), (1, .int a1)] := hl
  show W p l e rm_X1_canStandAt s m _ below meth c s.heap [] 0 0 _ _
  unfold wp_X1_canStandAt at h
  refine lv_aload_n hx hb dX1_canStandAt_0 rfl (lv_at hl 0 rfl) ?_
  refine x_getD C w (k := 0) (v := .ref (ad 230)) (by decide) rfl mf_Pad_9 dX1_canStandAt_1 ?_
  refine lv_iload_n hx hb dX1_canStandAt_4 rfl (lv_at hl 1 rfl) ?_
  refine x_cald C w (show vp_in a1 60 from h.1) dX1_canStandAt_5 ?_
  have h := h.2
  refine lv_istore_n (lv' := [(2, .int (μ 230 a1.toNatClampNeg)), (0, .ref (ad 229)), (1, .int a1)]) hx hb dX1_canStandAt_6 rfl hl (by decide) rfl (fun ls hl => ?_)
  refine lv_iload_n hx hb dX1_canStandAt_7 rfl (lv_at hl 2 rfl) ?_
  refine lv_iconst (v := 2) hx hb dX1_canStandAt_8 (by decide) ?_
  refine lv_irem hx hb dX1_canStandAt_9 (by decide) ?_
  refine lv_if_ne (tgt := 31) hx hb dX1_canStandAt_10 (by decide) (fun c_1 => ?_) (fun c_1 => ?_)
  · have h := h.1 c_1
    refine lv_iload_n hx hb dX1_canStandAt_31 rfl (lv_at hl 0 rfl) ?_
    refine lv_bipush (v := 49) hx hb dX1_canStandAt_32 (by decide) ?_
    refine lv_icmp_lt (tgt := 47) hx hb dX1_canStandAt_34 (by decide) (fun c_2 => ?_) (fun c_2 => ?_)
    · have h := h.1 c_2
      refine lv_iconst (v := 0) hx hb dX1_canStandAt_47 (by decide) ?_
      exact x_zret C w (show bz 0 from Or.inl rfl) h dX1_canStandAt_48
    · have h := h.2 c_2
      refine lv_iload_n hx hb dX1_canStandAt_37 rfl (lv_at hl 0 rfl) ?_
      refine lv_bipush (v := 57) hx hb dX1_canStandAt_38 (by decide) ?_
      refine lv_icmp_gt (tgt := 47) hx hb dX1_canStandAt_40 (by decide) (fun c_3 => ?_) (fun c_3 => ?_)
      · have h := h.1 c_3
        refine lv_iconst (v := 0) hx hb dX1_canStandAt_47 (by decide) ?_
        exact x_zret C w (show bz 0 from Or.inl rfl) h dX1_canStandAt_48
      · have h := h.2 c_3
        refine lv_iconst (v := 1) hx hb dX1_canStandAt_43 (by decide) ?_
        refine lv_goto (tgt := 48) hx hb dX1_canStandAt_44 (by decide) ?_
        exact x_zret C w (show bz 1 from Or.inr rfl) h dX1_canStandAt_48
  · have h := h.2 c_1
    refine lv_iload_n hx hb dX1_canStandAt_13 rfl (lv_at hl 0 rfl) ?_
    refine lv_bipush (v := 117) hx hb dX1_canStandAt_14 (by decide) ?_
    refine lv_icmp_eq (tgt := 25) hx hb dX1_canStandAt_16 (by decide) (fun c_4 => ?_) (fun c_4 => ?_)
    · have h := h.1 c_4
      refine lv_iconst (v := 1) hx hb dX1_canStandAt_25 (by decide) ?_
      refine lv_goto (tgt := 30) hx hb dX1_canStandAt_26 (by decide) ?_
      exact x_zret C w (show bz 1 from Or.inr rfl) h dX1_canStandAt_30
    · have h := h.2 c_4
      refine lv_iload_n hx hb dX1_canStandAt_19 rfl (lv_at hl 0 rfl) ?_
      refine lv_bipush (v := 100) hx hb dX1_canStandAt_20 (by decide) ?_
      refine lv_icmp_ne (tgt := 29) hx hb dX1_canStandAt_22 (by decide) (fun c_5 => ?_) (fun c_5 => ?_)
      · have h := h.1 c_5
        refine lv_iconst (v := 0) hx hb dX1_canStandAt_29 (by decide) ?_
        exact x_zret C w (show bz 0 from Or.inl rfl) h dX1_canStandAt_30
      · have h := h.2 c_5
        refine lv_iconst (v := 1) hx hb dX1_canStandAt_25 (by decide) ?_
        refine lv_goto (tgt := 30) hx hb dX1_canStandAt_26 (by decide) ?_
        exact x_zret C w (show bz 1 from Or.inr rfl) h dX1_canStandAt_30
abbrev rm_X1_firstFault : Room := { frames := 1, cells := 0, slots := 0, locals := 22 }
noncomputable def wp_X1_firstFault_L2 (K : Int32 → Mem → Prop) (n : Nat) : Int32 → Mem → Prop :=
  Nat.rec (motive := fun _ => Int32 → Mem → Prop) (fun _ _ => False) (fun _ ih v1 μ =>
    (((μ 229 1) ≤ v1 → (((μ 229 1) = 0 → K (μ 229 1) μ) ∧ (¬ (μ 229 1) = 0 → ((¬ ((μ 229 1) - ((μ 229 1) / 2) * 2) = 1 → K (-6) μ) ∧ (((μ 229 1) - ((μ 229 1) / 2) * 2) = 1 → K (μ 229 1) μ))))) ∧ (¬ (μ 229 1) ≤ v1 → (wp_X1_canStandAt v1 μ (fun r_5 m_4 => ((¬ r_5 = 0 → ih (v1 + 1) m_4) ∧ (r_5 = 0 → K v1 m_4))))))) n
theorem wp_X1_firstFault_L2_s (K : Int32 → Mem → Prop) (n : Nat) (v1 : Int32) (μ : Mem) : wp_X1_firstFault_L2 K (n + 1) v1 μ = (
    let ih := wp_X1_firstFault_L2 K n
    (((μ 229 1) ≤ v1 → (((μ 229 1) = 0 → K (μ 229 1) μ) ∧ (¬ (μ 229 1) = 0 → ((¬ ((μ 229 1) - ((μ 229 1) / 2) * 2) = 1 → K (-6) μ) ∧ (((μ 229 1) - ((μ 229 1) / 2) * 2) = 1 → K (μ 229 1) μ))))) ∧ (¬ (μ 229 1) ≤ v1 → (wp_X1_canStandAt v1 μ (fun r_5 m_4 => ((¬ r_5 = 0 → ih (v1 + 1) m_4) ∧ (r_5 = 0 → K v1 m_4))))))) := rfl
noncomputable def wp_X1_firstFault  (μ : Mem) (K : Int32 → Mem → Prop) : Prop :=
    (∃ n, wp_X1_firstFault_L2 K n 0 μ)
set_option maxHeartbeats 4000000 in
set_option maxRecDepth 100000 in
theorem t_X1_firstFault_L2 {g : Gv} {ad : Nat → Nat} {l : Launch} {p : Program} {e : Env} {s : State} {m : MethodId} {args : Array Value} {below : List Frame} {meth : Method} {c : Code} (C : Cx g p s m args meth c "StairBows$Pad" cX1_firstFault 2 (some .int))   {K : Int32 → Mem → Prop}    : ∀ (n : Nat) (v1 : Int32) (μ : Mem) (H : Heap) (locs : List Loc) (ls : Array Slot), wp_X1_firstFault_L2 K n v1 μ → Wd g ad μ (Aw ad s.heap.size) s H locs → lv_has ls 2 [(0, .ref (ad 229)), (1, .int v1)] → W p l e rm_X1_firstFault s m args below meth c H locs 0 0 (MQ below (PostI g ad s.heap.size K) args s 0 0 (Aw ad s.heap.size)) (F0 m 2 ls []) := by
  obtain ⟨hx, hb, hml, -, hts, hown, -, -, hN⟩ := id C
  intro n
  induction n with
  | zero =>
    intro v1 μ H locs ls h w hl
    exact (show False from h).elim
  | succ n ih =>
    intro v1 μ H locs ls h w hl
    rw [wp_X1_firstFault_L2_s] at h
    dsimp only at h
    refine lv_iload_n hx hb dX1_firstFault_2 rfl (lv_at hl 1 rfl) ?_
    refine lv_aload_n hx hb dX1_firstFault_3 rfl (lv_at hl 0 rfl) ?_
    refine x_getD C w (k := 1) (v := .int (μ 229 1)) (by decide) rfl mf_Pad_19 dX1_firstFault_4 ?_
    refine lv_icmp_ge (tgt := 26) hx hb dX1_firstFault_7 (by decide) (fun c_1 => ?_) (fun c_1 => ?_)
    · have h := h.1 c_1
      refine lv_aload_n hx hb dX1_firstFault_26 rfl (lv_at hl 0 rfl) ?_
      refine x_getD C w (k := 1) (v := .int (μ 229 1)) (by decide) rfl mf_Pad_19 dX1_firstFault_27 ?_
      refine lv_if_eq (tgt := 43) hx hb dX1_firstFault_30 (by decide) (fun c_2 => ?_) (fun c_2 => ?_)
      · have h := h.1 c_2
        refine lv_aload_n hx hb dX1_firstFault_43 rfl (lv_at hl 0 rfl) ?_
        refine x_getD C w (k := 1) (v := .int (μ 229 1)) (by decide) rfl mf_Pad_19 dX1_firstFault_44 ?_
        refine lv_goto (tgt := 52) hx hb dX1_firstFault_47 (by decide) ?_
        exact x_iret C w h dX1_firstFault_52
      · have h := h.2 c_2
        refine lv_aload_n hx hb dX1_firstFault_33 rfl (lv_at hl 0 rfl) ?_
        refine x_getD C w (k := 1) (v := .int (μ 229 1)) (by decide) rfl mf_Pad_19 dX1_firstFault_34 ?_
        refine lv_iconst (v := 2) hx hb dX1_firstFault_37 (by decide) ?_
        refine lv_irem hx hb dX1_firstFault_38 (by decide) ?_
        refine lv_iconst (v := 1) hx hb dX1_firstFault_39 (by decide) ?_
        refine lv_icmp_ne (tgt := 50) hx hb dX1_firstFault_40 (by decide) (fun c_3 => ?_) (fun c_3 => ?_)
        · have h := h.1 c_3
          refine lv_bipush (v := -6) hx hb dX1_firstFault_50 (by decide) ?_
          exact x_iret C w h dX1_firstFault_52
        · have h := h.2 c_3
          refine lv_aload_n hx hb dX1_firstFault_43 rfl (lv_at hl 0 rfl) ?_
          refine x_getD C w (k := 1) (v := .int (μ 229 1)) (by decide) rfl mf_Pad_19 dX1_firstFault_44 ?_
          refine lv_goto (tgt := 52) hx hb dX1_firstFault_47 (by decide) ?_
          exact x_iret C w h dX1_firstFault_52
    · have h := h.2 c_1
      refine lv_aload_n hx hb dX1_firstFault_10 rfl (lv_at hl 0 rfl) ?_
      refine lv_iload_n hx hb dX1_firstFault_11 rfl (lv_at hl 1 rfl) ?_
      refine x_calli C w (x_runV (i := 229) (As := [.int v1]) (rest := []) C w (rfl : kd 229 = 5) (by decide) (ci := 1) rfl rfl rfl me_X1_canStandAt ml_Pad_29 (c_X1_canStandAt l g ad μ _ v1 h) ⟨rfl, rfl⟩ ⟨Nat.le_of_ble_eq_true rfl, Nat.le_of_ble_eq_true rfl⟩ rfl hl.1 rfl (Nat.le_of_ble_eq_true rfl) dX1_firstFault_12 ⟨Nat.le_of_ble_eq_true rfl, Nat.le_of_ble_eq_true rfl⟩) (fun r_5 m_4 h H locs w => ?_)
      refine lv_if_ne (tgt := 20) hx hb dX1_firstFault_15 (by decide) (fun c_6 => ?_) (fun c_6 => ?_)
      · have h := h.1 c_6
        refine lv_iinc (v := (v1 + 1)) (lv' := [(1, .int (v1 + 1)), (0, .ref (ad 229))]) hx hb dX1_firstFault_20 hl (k := 1) rfl rfl (by decide) rfl (fun ls hl => ?_)
        refine lv_goto (tgt := 2) hx hb dX1_firstFault_23 (by decide) ?_
        exact ih (v1 + 1) m_4 _ _ _ h w (lv_sub hl [1, 0] rfl)
      · have h := h.2 c_6
        refine lv_iload_n hx hb dX1_firstFault_18 rfl (lv_at hl 1 rfl) ?_
        exact x_iret C w h dX1_firstFault_19
set_option maxHeartbeats 4000000 in
set_option maxRecDepth 100000 in
theorem c_X1_firstFault (l : Launch) (g : Gv) (ad : Nat → Nat) (μ : Mem) (sz : Nat)  {K : Int32 → Mem → Prop} (h : wp_X1_firstFault μ K) : Met l yX1_firstFault (wX yX1_firstFault cX1_firstFault 2 (some .int)) rm_X1_firstFault (Pre g ad μ sz [.ref (ad 229)]) (PostI g ad sz K) 0 0 (Aw ad sz) := by
  refine Met.ofW (cc := cX1_firstFault) (maxL := 2) (ret := (some .int)) (by decide) rfl ?_
  intro p e s m args below meth c s₁ B hml hv
  obtain ⟨rfl, rfl, C, w⟩ := x_start B hml hv
  obtain ⟨hx, hb, hml, -, hts, hown, -, -, hN⟩ := id C
  have hl := lv_entry ([.ref (ad 229)]) (n := 2) (Nat.le_of_ble_eq_true rfl)
  rw [lg_entry_eq]
  generalize (lg_sl ([.ref (ad 229)]) ++ List.replicate (2 - (lg_sl ([.ref (ad 229)])).length) Slot.unset).toArray = ls at hl ⊢
  have hl : lv_has ls 2 [(0, .ref (ad 229))] := hl
  show W p l e rm_X1_firstFault s m _ below meth c s.heap [] 0 0 _ _
  unfold wp_X1_firstFault at h
  refine lv_iconst (v := 0) hx hb dX1_firstFault_0 (by decide) ?_
  refine lv_istore_n (lv' := [(1, .int 0), (0, .ref (ad 229))]) hx hb dX1_firstFault_1 rfl hl (by decide) rfl (fun ls hl => ?_)
  obtain ⟨n_7, h⟩ := h
  exact t_X1_firstFault_L2 C n_7 0 μ _ _ _ h w (lv_sub hl [1, 0] rfl)
abbrev rm_X1_isUp : Room := { frames := 0, cells := 0, slots := 0, locals := 0 }
noncomputable def wp_X1_isUp (a1 : Int32) (μ : Mem) (K : Int32 → Mem → Prop) : Prop :=
    (((2 * a1) < 0 → K 0 μ) ∧ (¬ (2 * a1) < 0 → (((μ 229 1) ≤ (2 * a1) → K 0 μ) ∧ (¬ (μ 229 1) ≤ (2 * a1) → (vp_in (2 * a1) 60 ∧ ((¬ (μ 230 (2 * a1).toNatClampNeg) = 117 → K 0 μ) ∧ ((μ 230 (2 * a1).toNatClampNeg) = 117 → K 1 μ)))))))
set_option maxHeartbeats 4000000 in
set_option maxRecDepth 100000 in
theorem c_X1_isUp (l : Launch) (g : Gv) (ad : Nat → Nat) (μ : Mem) (sz : Nat) (a1 : Int32) {K : Int32 → Mem → Prop} (h : wp_X1_isUp a1 μ K) : Met l yX1_isUp (wX yX1_isUp cX1_isUp 3 (some .boolean)) rm_X1_isUp (Pre g ad μ sz [.ref (ad 229), .int a1]) (PostI g ad sz K) 0 0 (Aw ad sz) := by
  refine Met.ofW (cc := cX1_isUp) (maxL := 3) (ret := (some .boolean)) (by decide) rfl ?_
  intro p e s m args below meth c s₁ B hml hv
  obtain ⟨rfl, rfl, C, w⟩ := x_start B hml hv
  obtain ⟨hx, hb, hml, -, hts, hown, -, -, hN⟩ := id C
  have hl := lv_entry ([.ref (ad 229), .int a1]) (n := 3) (Nat.le_of_ble_eq_true rfl)
  rw [lg_entry_eq]
  generalize (lg_sl ([.ref (ad 229), .int a1]) ++ List.replicate (3 - (lg_sl ([.ref (ad 229), .int a1])).length) Slot.unset).toArray = ls at hl ⊢
  have hl : lv_has ls 3 [(0, .ref (ad 229)), (1, .int a1)] := hl
  show W p l e rm_X1_isUp s m _ below meth c s.heap [] 0 0 _ _
  unfold wp_X1_isUp at h
  refine lv_iconst (v := 2) hx hb dX1_isUp_0 (by decide) ?_
  refine lv_iload_n hx hb dX1_isUp_1 rfl (lv_at hl 1 rfl) ?_
  refine lv_imul hx hb dX1_isUp_2 ?_
  refine lv_istore_n (lv' := [(2, .int (2 * a1)), (0, .ref (ad 229)), (1, .int a1)]) hx hb dX1_isUp_3 rfl hl (by decide) rfl (fun ls hl => ?_)
  refine lv_iload_n hx hb dX1_isUp_4 rfl (lv_at hl 0 rfl) ?_
  refine lv_if_lt (tgt := 31) hx hb dX1_isUp_5 (by decide) (fun c_1 => ?_) (fun c_1 => ?_)
  · have h := h.1 c_1
    refine lv_iconst (v := 0) hx hb dX1_isUp_31 (by decide) ?_
    exact x_zret C w (show bz 0 from Or.inl rfl) h dX1_isUp_32
  · have h := h.2 c_1
    refine lv_iload_n hx hb dX1_isUp_8 rfl (lv_at hl 0 rfl) ?_
    refine lv_aload_n hx hb dX1_isUp_9 rfl (lv_at hl 1 rfl) ?_
    refine x_getD C w (k := 1) (v := .int (μ 229 1)) (by decide) rfl mf_Pad_19 dX1_isUp_10 ?_
    refine lv_icmp_ge (tgt := 31) hx hb dX1_isUp_13 (by decide) (fun c_2 => ?_) (fun c_2 => ?_)
    · have h := h.1 c_2
      refine lv_iconst (v := 0) hx hb dX1_isUp_31 (by decide) ?_
      exact x_zret C w (show bz 0 from Or.inl rfl) h dX1_isUp_32
    · have h := h.2 c_2
      refine lv_aload_n hx hb dX1_isUp_16 rfl (lv_at hl 1 rfl) ?_
      refine x_getD C w (k := 0) (v := .ref (ad 230)) (by decide) rfl mf_Pad_9 dX1_isUp_17 ?_
      refine lv_iload_n hx hb dX1_isUp_20 rfl (lv_at hl 0 rfl) ?_
      refine x_cald C w (show vp_in (2 * a1) 60 from h.1) dX1_isUp_21 ?_
      have h := h.2
      refine lv_bipush (v := 117) hx hb dX1_isUp_22 (by decide) ?_
      refine lv_icmp_ne (tgt := 31) hx hb dX1_isUp_24 (by decide) (fun c_3 => ?_) (fun c_3 => ?_)
      · have h := h.1 c_3
        refine lv_iconst (v := 0) hx hb dX1_isUp_31 (by decide) ?_
        exact x_zret C w (show bz 0 from Or.inl rfl) h dX1_isUp_32
      · have h := h.2 c_3
        refine lv_iconst (v := 1) hx hb dX1_isUp_27 (by decide) ?_
        refine lv_goto (tgt := 32) hx hb dX1_isUp_28 (by decide) ?_
        exact x_zret C w (show bz 1 from Or.inr rfl) h dX1_isUp_32
abbrev rm_X1_rankOf : Room := { frames := 0, cells := 0, slots := 0, locals := 0 }
noncomputable def wp_X1_rankOf (a1 : Int32) (μ : Mem) (K : Int32 → Mem → Prop) : Prop :=
    ((((2 * a1) + 1) < 1 → K 1 μ) ∧ (¬ ((2 * a1) + 1) < 1 → (((μ 229 1) ≤ ((2 * a1) + 1) → K 1 μ) ∧ (¬ (μ 229 1) ≤ ((2 * a1) + 1) → (vp_in ((2 * a1) + 1) 60 ∧ K ((μ 230 ((2 * a1) + 1).toNatClampNeg) - 48) μ)))))
set_option maxHeartbeats 4000000 in
set_option maxRecDepth 100000 in
theorem c_X1_rankOf (l : Launch) (g : Gv) (ad : Nat → Nat) (μ : Mem) (sz : Nat) (a1 : Int32) {K : Int32 → Mem → Prop} (h : wp_X1_rankOf a1 μ K) : Met l yX1_rankOf (wX yX1_rankOf cX1_rankOf 3 (some .int)) rm_X1_rankOf (Pre g ad μ sz [.ref (ad 229), .int a1]) (PostI g ad sz K) 0 0 (Aw ad sz) := by
  refine Met.ofW (cc := cX1_rankOf) (maxL := 3) (ret := (some .int)) (by decide) rfl ?_
  intro p e s m args below meth c s₁ B hml hv
  obtain ⟨rfl, rfl, C, w⟩ := x_start B hml hv
  obtain ⟨hx, hb, hml, -, hts, hown, -, -, hN⟩ := id C
  have hl := lv_entry ([.ref (ad 229), .int a1]) (n := 3) (Nat.le_of_ble_eq_true rfl)
  rw [lg_entry_eq]
  generalize (lg_sl ([.ref (ad 229), .int a1]) ++ List.replicate (3 - (lg_sl ([.ref (ad 229), .int a1])).length) Slot.unset).toArray = ls at hl ⊢
  have hl : lv_has ls 3 [(0, .ref (ad 229)), (1, .int a1)] := hl
  show W p l e rm_X1_rankOf s m _ below meth c s.heap [] 0 0 _ _
  unfold wp_X1_rankOf at h
  refine lv_iconst (v := 2) hx hb dX1_rankOf_0 (by decide) ?_
  refine lv_iload_n hx hb dX1_rankOf_1 rfl (lv_at hl 1 rfl) ?_
  refine lv_imul hx hb dX1_rankOf_2 ?_
  refine lv_iconst (v := 1) hx hb dX1_rankOf_3 (by decide) ?_
  refine lv_iadd hx hb dX1_rankOf_4 ?_
  refine lv_istore_n (lv' := [(2, .int ((2 * a1) + 1)), (0, .ref (ad 229)), (1, .int a1)]) hx hb dX1_rankOf_5 rfl hl (by decide) rfl (fun ls hl => ?_)
  refine lv_iload_n hx hb dX1_rankOf_6 rfl (lv_at hl 0 rfl) ?_
  refine lv_iconst (v := 1) hx hb dX1_rankOf_7 (by decide) ?_
  refine lv_icmp_lt (tgt := 31) hx hb dX1_rankOf_8 (by decide) (fun c_1 => ?_) (fun c_1 => ?_)
  · have h := h.1 c_1
    refine lv_iconst (v := 1) hx hb dX1_rankOf_31 (by decide) ?_
    exact x_iret C w h dX1_rankOf_32
  · have h := h.2 c_1
    refine lv_iload_n hx hb dX1_rankOf_11 rfl (lv_at hl 0 rfl) ?_
    refine lv_aload_n hx hb dX1_rankOf_12 rfl (lv_at hl 1 rfl) ?_
    refine x_getD C w (k := 1) (v := .int (μ 229 1)) (by decide) rfl mf_Pad_19 dX1_rankOf_13 ?_
    refine lv_icmp_ge (tgt := 31) hx hb dX1_rankOf_16 (by decide) (fun c_2 => ?_) (fun c_2 => ?_)
    · have h := h.1 c_2
      refine lv_iconst (v := 1) hx hb dX1_rankOf_31 (by decide) ?_
      exact x_iret C w h dX1_rankOf_32
    · have h := h.2 c_2
      refine lv_aload_n hx hb dX1_rankOf_19 rfl (lv_at hl 1 rfl) ?_
      refine x_getD C w (k := 0) (v := .ref (ad 230)) (by decide) rfl mf_Pad_9 dX1_rankOf_20 ?_
      refine lv_iload_n hx hb dX1_rankOf_23 rfl (lv_at hl 0 rfl) ?_
      refine x_cald C w (show vp_in ((2 * a1) + 1) 60 from h.1) dX1_rankOf_24 ?_
      have h := h.2
      refine lv_bipush (v := 48) hx hb dX1_rankOf_25 (by decide) ?_
      refine lv_isub hx hb dX1_rankOf_27 ?_
      refine lv_goto (tgt := 32) hx hb dX1_rankOf_28 (by decide) ?_
      exact x_iret C w h dX1_rankOf_32

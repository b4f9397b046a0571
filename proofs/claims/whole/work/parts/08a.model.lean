/-! METHODS of the reference, by program -/
abbrev rm_X5_in : Room := { frames := 0, cells := 0, slots := 0, locals := 0 }
noncomputable def wp_X5_in (a0 : Int64) (a2 : Int64) (a4 : Int64) (μ : Mem) (K : Int32 → Mem → Prop) : Prop :=
    (((lg_cmp a0 a2) < 0 → K 0 μ) ∧ (¬ (lg_cmp a0 a2) < 0 → ((0 < (lg_cmp a0 a4) → K 0 μ) ∧ (¬ 0 < (lg_cmp a0 a4) → K 1 μ))))
set_option maxHeartbeats 4000000 in
set_option maxRecDepth 100000 in
theorem c_X5_in (l : Launch) (g : Gv) (ad : Nat → Nat) (μ : Mem) (sz : Nat) (a0 : Int64) (a2 : Int64) (a4 : Int64) {K : Int32 → Mem → Prop} (h : wp_X5_in a0 a2 a4 μ K) : Met l yX5_in (wX yX5_in cX5_in 6 (some .boolean)) rm_X5_in (Pre g ad μ sz [.long a0, .long a2, .long a4]) (PostI g ad sz K) 0 0 (Aw ad sz) := by
  refine Met.ofW (cc := cX5_in) (maxL := 6) (ret := (some .boolean)) (by decide) rfl ?_
  intro p e s m args below meth c s₁ B hml hv
  obtain ⟨rfl, rfl, C, w⟩ := x_start B hml hv
  obtain ⟨hx, hb, hml, -, hts, hown, -, -, hN⟩ := id C
  have hl := lv_entry ([.long a0, .long a2, .long a4]) (n := 6) (Nat.le_of_ble_eq_true rfl)
  rw [lg_entry_eq]
  generalize (lg_sl ([.long a0, .long a2, .long a4]) ++ List.replicate (6 - (lg_sl ([.long a0, .long a2, .long a4])).length) Slot.unset).toArray = ls at hl ⊢
  have hl : lv_has ls 6 [(0, .long a0), (2, .long a2), (4, .long a4)] := hl
  show W p l e rm_X5_in s m _ below meth c s.heap [] 0 0 _ _
  unfold wp_X5_in at h
  refine lv_lload_n hx hb dX5_in_0 rfl (lv_at hl 0 rfl) ?_
  refine lv_lload_n hx hb dX5_in_1 rfl (lv_at hl 1 rfl) ?_
  refine W.lcmp hx hb dX5_in_2 ?_
  refine lv_if_lt (tgt := 17) hx hb dX5_in_3 (by decide) (fun c_1 => ?_) (fun c_1 => ?_)
  · have h := h.1 c_1
    refine lv_iconst (v := 0) hx hb dX5_in_17 (by decide) ?_
    exact x_zret C w (show bz 0 from Or.inl rfl) h dX5_in_18
  · have h := h.2 c_1
    refine lv_lload_n hx hb dX5_in_6 rfl (lv_at hl 0 rfl) ?_
    refine lv_lload hx hb dX5_in_7 (lv_at hl 2 rfl) ?_
    refine W.lcmp hx hb dX5_in_9 ?_
    refine lv_if_gt (tgt := 17) hx hb dX5_in_10 (by decide) (fun c_2 => ?_) (fun c_2 => ?_)
    · have h := h.1 c_2
      refine lv_iconst (v := 0) hx hb dX5_in_17 (by decide) ?_
      exact x_zret C w (show bz 0 from Or.inl rfl) h dX5_in_18
    · have h := h.2 c_2
      refine lv_iconst (v := 1) hx hb dX5_in_13 (by decide) ?_
      refine lv_goto (tgt := 18) hx hb dX5_in_14 (by decide) ?_
      exact x_zret C w (show bz 1 from Or.inr rfl) h dX5_in_18
abbrev rm_X5_changes : Room := { frames := 0, cells := 0, slots := 0, locals := 0 }
noncomputable def wp_X5_changes_L52 (K : Mem → Prop) (n : Nat) : Int32 → Mem → Prop :=
  Nat.rec (motive := fun _ => Int32 → Mem → Prop) (fun _ _ => False) (fun _ ih v1 μ =>
    ((225 ≤ v1 → (∀ m_3, m_3 = up2 μ 287 3 ((μ 287 3) + 1) → K m_3)) ∧ (¬ 225 ≤ v1 → (vp_in v1 225 ∧ (vp_in ((225 * (μ 287 3)) + v1) 1350 ∧ (∀ m_5, m_5 = up2 μ 290 (((225 * (μ 287 3)) + v1).toNatClampNeg) (μ 288 v1.toNatClampNeg) → ih (v1 + 1) m_5)))))) n
theorem wp_X5_changes_L52_s (K : Mem → Prop) (n : Nat) (v1 : Int32) (μ : Mem) : wp_X5_changes_L52 K (n + 1) v1 μ = (
    let ih := wp_X5_changes_L52 K n
    ((225 ≤ v1 → (∀ m_3, m_3 = up2 μ 287 3 ((μ 287 3) + 1) → K m_3)) ∧ (¬ 225 ≤ v1 → (vp_in v1 225 ∧ (vp_in ((225 * (μ 287 3)) + v1) 1350 ∧ (∀ m_5, m_5 = up2 μ 290 (((225 * (μ 287 3)) + v1).toNatClampNeg) (μ 288 v1.toNatClampNeg) → ih (v1 + 1) m_5)))))) := rfl
noncomputable def wp_X5_changes_L11 (K : Mem → Prop) (n : Nat) : Int32 → Mem → Prop :=
  Nat.rec (motive := fun _ => Int32 → Mem → Prop) (fun _ _ => False) (fun _ ih v1 μ =>
    ((1125 ≤ v1 → (∀ m_9, m_9 = up2 μ 287 3 ((μ 287 3) - 1) → (∃ n, wp_X5_changes_L52 K n 0 m_9))) ∧ (¬ 1125 ≤ v1 → (vp_in (v1 + 225) 1350 ∧ (vp_in v1 1350 ∧ (∀ m_12, m_12 = up2 μ 290 v1.toNatClampNeg (μ 290 (v1 + 225).toNatClampNeg) → ih (v1 + 1) m_12)))))) n
theorem wp_X5_changes_L11_s (K : Mem → Prop) (n : Nat) (v1 : Int32) (μ : Mem) : wp_X5_changes_L11 K (n + 1) v1 μ = (
    let ih := wp_X5_changes_L11 K n
    ((1125 ≤ v1 → (∀ m_9, m_9 = up2 μ 287 3 ((μ 287 3) - 1) → (∃ n, wp_X5_changes_L52 K n 0 m_9))) ∧ (¬ 1125 ≤ v1 → (vp_in (v1 + 225) 1350 ∧ (vp_in v1 1350 ∧ (∀ m_12, m_12 = up2 μ 290 v1.toNatClampNeg (μ 290 (v1 + 225).toNatClampNeg) → ih (v1 + 1) m_12)))))) := rfl
noncomputable def wp_X5_changes  (μ : Mem) (K : Mem → Prop) : Prop :=
    ((¬ (μ 287 3) = 6 → (∃ n, wp_X5_changes_L52 K n 0 μ)) ∧ ((μ 287 3) = 6 → (∃ n, wp_X5_changes_L11 K n 0 μ)))
set_option maxHeartbeats 4000000 in
set_option maxRecDepth 100000 in
theorem t_X5_changes_L52 {g : Gv} {ad : Nat → Nat} {l : Launch} {p : Program} {e : Env} {s : State} {m : MethodId} {args : Array Value} {below : List Frame} {meth : Method} {c : Code} (C : Cx g p s m args meth c "StairBowsModel" cX5_changes 2 none)   {K : Mem → Prop}    : ∀ (n : Nat) (v1 : Int32) (μ : Mem) (H : Heap) (locs : List Loc) (ls : Array Slot), wp_X5_changes_L52 K n v1 μ → Wd g ad μ (Aw ad s.heap.size) s H locs → lv_has ls 2 [(0, .ref (ad 287)), (1, .int v1)] → W p l e rm_X5_changes s m args below meth c H locs 0 0 (MQ below (PostV g ad s.heap.size K) args s 0 0 (Aw ad s.heap.size)) (F0 m 52 ls []) := by
  obtain ⟨hx, hb, hml, -, hts, hown, -, -, hN⟩ := id C
  intro n
  induction n with
  | zero =>
    intro v1 μ H locs ls h w hl
    exact (show False from h).elim
  | succ n ih =>
    intro v1 μ H locs ls h w hl
    rw [wp_X5_changes_L52_s] at h
    dsimp only at h
    refine lv_iload_n hx hb dX5_changes_52 rfl (lv_at hl 1 rfl) ?_
    refine lv_sipush (v := 225) hx hb dX5_changes_53 (by decide) ?_
    refine lv_icmp_ge (tgt := 86) hx hb dX5_changes_56 (by decide) (fun c_2 => ?_) (fun c_2 => ?_)
    · have h := h.1 c_2
      refine lv_aload_n hx hb dX5_changes_86 rfl (lv_at hl 0 rfl) ?_
      refine lv_dup hx hb dX5_changes_87 rfl ?_
      refine x_getM C w (k := 3) (v := .int (μ 287 3)) (by decide) rfl mf_StairBowsModel_31 dX5_changes_88 ?_
      refine lv_iconst (v := 1) hx hb dX5_changes_91 (by decide) ?_
      refine lv_iadd hx hb dX5_changes_92 ?_
      refine x_putM C w (k := 3) (by decide) rfl mf_StairBowsModel_31 rfl rfl dX5_changes_93 (fun m_3 e_4 H locs w => ?_)
      have h := h m_3 e_4
      exact x_vret C w h dX5_changes_96
    · have h := h.2 c_2
      refine lv_aload_n hx hb dX5_changes_59 rfl (lv_at hl 0 rfl) ?_
      refine x_getM C w (k := 2) (v := .ref (ad 290)) (by decide) rfl mf_StairBowsModel_16 dX5_changes_60 ?_
      refine lv_sipush (v := 225) hx hb dX5_changes_63 (by decide) ?_
      refine lv_aload_n hx hb dX5_changes_66 rfl (lv_at hl 0 rfl) ?_
      refine x_getM C w (k := 3) (v := .int (μ 287 3)) (by decide) rfl mf_StairBowsModel_31 dX5_changes_67 ?_
      refine lv_imul hx hb dX5_changes_70 ?_
      refine lv_iload_n hx hb dX5_changes_71 rfl (lv_at hl 1 rfl) ?_
      refine lv_iadd hx hb dX5_changes_72 ?_
      refine lv_aload_n hx hb dX5_changes_73 rfl (lv_at hl 0 rfl) ?_
      refine x_getM C w (k := 0) (v := .ref (ad 288)) (by decide) rfl mf_StairBowsModel_7 dX5_changes_74 ?_
      refine lv_iload_n hx hb dX5_changes_77 rfl (lv_at hl 1 rfl) ?_
      refine x_iald C w (i := 288) (K := 20) (j := v1) (n := 225) (jn := v1.toNatClampNeg) rfl (rfl : kd 288 = 20) (by decide) rfl (show vp_in v1 225 from h.1) dX5_changes_78 ?_
      have h := h.2
      refine x_iast C w (i := 290) (K := 22) (n := 1350) (jn := ((225 * (μ 287 3)) + v1).toNatClampNeg) rfl (rfl : kd 290 = 22) (by decide) (fun _ => rfl) (show vp_in ((225 * (μ 287 3)) + v1) 1350 from h.1) dX5_changes_79 (fun m_5 e_6 H locs w => ?_)
      have h := h.2 m_5 e_6
      refine lv_iinc (v := (v1 + 1)) (lv' := [(1, .int (v1 + 1)), (0, .ref (ad 287))]) hx hb dX5_changes_80 hl (k := 1) rfl rfl (by decide) rfl (fun ls hl => ?_)
      refine lv_goto (tgt := 52) hx hb dX5_changes_83 (by decide) ?_
      exact ih (v1 + 1) m_5 _ _ _ h w (lv_sub hl [1, 0] rfl)
set_option maxHeartbeats 4000000 in
set_option maxRecDepth 100000 in
theorem t_X5_changes_L11 {g : Gv} {ad : Nat → Nat} {l : Launch} {p : Program} {e : Env} {s : State} {m : MethodId} {args : Array Value} {below : List Frame} {meth : Method} {c : Code} (C : Cx g p s m args meth c "StairBowsModel" cX5_changes 2 none)   {K : Mem → Prop}    : ∀ (n : Nat) (v1 : Int32) (μ : Mem) (H : Heap) (locs : List Loc) (ls : Array Slot), wp_X5_changes_L11 K n v1 μ → Wd g ad μ (Aw ad s.heap.size) s H locs → lv_has ls 2 [(0, .ref (ad 287)), (1, .int v1)] → W p l e rm_X5_changes s m args below meth c H locs 0 0 (MQ below (PostV g ad s.heap.size K) args s 0 0 (Aw ad s.heap.size)) (F0 m 11 ls []) := by
  obtain ⟨hx, hb, hml, -, hts, hown, -, -, hN⟩ := id C
  intro n
  induction n with
  | zero =>
    intro v1 μ H locs ls h w hl
    exact (show False from h).elim
  | succ n ih =>
    intro v1 μ H locs ls h w hl
    rw [wp_X5_changes_L11_s] at h
    dsimp only at h
    refine lv_iload_n hx hb dX5_changes_11 rfl (lv_at hl 1 rfl) ?_
    refine lv_sipush (v := 1125) hx hb dX5_changes_12 (by decide) ?_
    refine lv_icmp_ge (tgt := 40) hx hb dX5_changes_15 (by decide) (fun c_8 => ?_) (fun c_8 => ?_)
    · have h := h.1 c_8
      refine lv_aload_n hx hb dX5_changes_40 rfl (lv_at hl 0 rfl) ?_
      refine lv_dup hx hb dX5_changes_41 rfl ?_
      refine x_getM C w (k := 3) (v := .int (μ 287 3)) (by decide) rfl mf_StairBowsModel_31 dX5_changes_42 ?_
      refine lv_iconst (v := 1) hx hb dX5_changes_45 (by decide) ?_
      refine lv_isub hx hb dX5_changes_46 ?_
      refine x_putM C w (k := 3) (by decide) rfl mf_StairBowsModel_31 rfl rfl dX5_changes_47 (fun m_9 e_10 H locs w => ?_)
      have h := h m_9 e_10
      refine lv_iconst (v := 0) hx hb dX5_changes_50 (by decide) ?_
      refine lv_istore_n (lv' := [(1, .int 0), (0, .ref (ad 287))]) hx hb dX5_changes_51 rfl hl (by decide) rfl (fun ls hl => ?_)
      obtain ⟨n_11, h⟩ := h
      exact t_X5_changes_L52 C n_11 0 m_9 _ _ _ h w (lv_sub hl [1, 0] rfl)
    · have h := h.2 c_8
      refine lv_aload_n hx hb dX5_changes_18 rfl (lv_at hl 0 rfl) ?_
      refine x_getM C w (k := 2) (v := .ref (ad 290)) (by decide) rfl mf_StairBowsModel_16 dX5_changes_19 ?_
      refine lv_iload_n hx hb dX5_changes_22 rfl (lv_at hl 1 rfl) ?_
      refine lv_aload_n hx hb dX5_changes_23 rfl (lv_at hl 0 rfl) ?_
      refine x_getM C w (k := 2) (v := .ref (ad 290)) (by decide) rfl mf_StairBowsModel_16 dX5_changes_24 ?_
      refine lv_iload_n hx hb dX5_changes_27 rfl (lv_at hl 1 rfl) ?_
      refine lv_sipush (v := 225) hx hb dX5_changes_28 (by decide) ?_
      refine lv_iadd hx hb dX5_changes_31 ?_
      refine x_iald C w (i := 290) (K := 22) (j := (v1 + 225)) (n := 1350) (jn := (v1 + 225).toNatClampNeg) rfl (rfl : kd 290 = 22) (by decide) rfl (show vp_in (v1 + 225) 1350 from h.1) dX5_changes_32 ?_
      have h := h.2
      refine x_iast C w (i := 290) (K := 22) (n := 1350) (jn := v1.toNatClampNeg) rfl (rfl : kd 290 = 22) (by decide) (fun _ => rfl) (show vp_in v1 1350 from h.1) dX5_changes_33 (fun m_12 e_13 H locs w => ?_)
      have h := h.2 m_12 e_13
      refine lv_iinc (v := (v1 + 1)) (lv' := [(1, .int (v1 + 1)), (0, .ref (ad 287))]) hx hb dX5_changes_34 hl (k := 1) rfl rfl (by decide) rfl (fun ls hl => ?_)
      refine lv_goto (tgt := 11) hx hb dX5_changes_37 (by decide) ?_
      exact ih (v1 + 1) m_12 _ _ _ h w (lv_sub hl [1, 0] rfl)
set_option maxHeartbeats 4000000 in
set_option maxRecDepth 100000 in
theorem c_X5_changes (l : Launch) (g : Gv) (ad : Nat → Nat) (μ : Mem) (sz : Nat)  {K : Mem → Prop} (h : wp_X5_changes μ K) : Met l yX5_changes (wX yX5_changes cX5_changes 2 none) rm_X5_changes (Pre g ad μ sz [.ref (ad 287)]) (PostV g ad sz K) 0 0 (Aw ad sz) := by
  refine Met.ofW (cc := cX5_changes) (maxL := 2) (ret := none) (by decide) rfl ?_
  intro p e s m args below meth c s₁ B hml hv
  obtain ⟨rfl, rfl, C, w⟩ := x_start B hml hv
  obtain ⟨hx, hb, hml, -, hts, hown, -, -, hN⟩ := id C
  have hl := lv_entry ([.ref (ad 287)]) (n := 2) (Nat.le_of_ble_eq_true rfl)
  rw [lg_entry_eq]
  generalize (lg_sl ([.ref (ad 287)]) ++ List.replicate (2 - (lg_sl ([.ref (ad 287)])).length) Slot.unset).toArray = ls at hl ⊢
  have hl : lv_has ls 2 [(0, .ref (ad 287))] := hl
  show W p l e rm_X5_changes s m _ below meth c s.heap [] 0 0 _ _
  unfold wp_X5_changes at h
  refine lv_aload_n hx hb dX5_changes_0 rfl (lv_at hl 0 rfl) ?_
  refine x_getM C w (k := 3) (v := .int (μ 287 3)) (by decide) rfl mf_StairBowsModel_31 dX5_changes_1 ?_
  refine lv_bipush (v := 6) hx hb dX5_changes_4 (by decide) ?_
  refine lv_icmp_ne (tgt := 50) hx hb dX5_changes_6 (by decide) (fun c_1 => ?_) (fun c_1 => ?_)
  · have h := h.1 c_1
    refine lv_iconst (v := 0) hx hb dX5_changes_50 (by decide) ?_
    refine lv_istore_n (lv' := [(1, .int 0), (0, .ref (ad 287))]) hx hb dX5_changes_51 rfl hl (by decide) rfl (fun ls hl => ?_)
    obtain ⟨n_7, h⟩ := h
    exact t_X5_changes_L52 C n_7 0 μ _ _ _ h w (lv_sub hl [1, 0] rfl)
  · have h := h.2 c_1
    refine lv_iconst (v := 0) hx hb dX5_changes_9 (by decide) ?_
    refine lv_istore_n (lv' := [(1, .int 0), (0, .ref (ad 287))]) hx hb dX5_changes_10 rfl hl (by decide) rfl (fun ls hl => ?_)
    obtain ⟨n_14, h⟩ := h
    exact t_X5_changes_L11 C n_14 0 μ _ _ _ h w (lv_sub hl [1, 0] rfl)
abbrev rm_X5_keeps : Room := { frames := 0, cells := 0, slots := 0, locals := 0 }
noncomputable def wp_X5_keeps_L2 (K : Mem → Prop) (n : Nat) : Int32 → Mem → Prop :=
  Nat.rec (motive := fun _ => Int32 → Mem → Prop) (fun _ _ => False) (fun _ ih v1 μ =>
    ((225 ≤ v1 → K μ) ∧ (¬ 225 ≤ v1 → (vp_in v1 225 ∧ (vp_in v1 225 ∧ (∀ m_2, m_2 = up2 μ 289 v1.toNatClampNeg (μ 288 v1.toNatClampNeg) → ih (v1 + 1) m_2)))))) n
theorem wp_X5_keeps_L2_s (K : Mem → Prop) (n : Nat) (v1 : Int32) (μ : Mem) : wp_X5_keeps_L2 K (n + 1) v1 μ = (
    let ih := wp_X5_keeps_L2 K n
    ((225 ≤ v1 → K μ) ∧ (¬ 225 ≤ v1 → (vp_in v1 225 ∧ (vp_in v1 225 ∧ (∀ m_2, m_2 = up2 μ 289 v1.toNatClampNeg (μ 288 v1.toNatClampNeg) → ih (v1 + 1) m_2)))))) := rfl
noncomputable def wp_X5_keeps  (μ : Mem) (K : Mem → Prop) : Prop :=
    (∃ n, wp_X5_keeps_L2 K n 0 μ)
set_option maxHeartbeats 4000000 in
set_option maxRecDepth 100000 in
theorem t_X5_keeps_L2 {g : Gv} {ad : Nat → Nat} {l : Launch} {p : Program} {e : Env} {s : State} {m : MethodId} {args : Array Value} {below : List Frame} {meth : Method} {c : Code} (C : Cx g p s m args meth c "StairBowsModel" cX5_keeps 2 none)   {K : Mem → Prop}    : ∀ (n : Nat) (v1 : Int32) (μ : Mem) (H : Heap) (locs : List Loc) (ls : Array Slot), wp_X5_keeps_L2 K n v1 μ → Wd g ad μ (Aw ad s.heap.size) s H locs → lv_has ls 2 [(0, .ref (ad 287)), (1, .int v1)] → W p l e rm_X5_keeps s m args below meth c H locs 0 0 (MQ below (PostV g ad s.heap.size K) args s 0 0 (Aw ad s.heap.size)) (F0 m 2 ls []) := by
  obtain ⟨hx, hb, hml, -, hts, hown, -, -, hN⟩ := id C
  intro n
  induction n with
  | zero =>
    intro v1 μ H locs ls h w hl
    exact (show False from h).elim
  | succ n ih =>
    intro v1 μ H locs ls h w hl
    rw [wp_X5_keeps_L2_s] at h
    dsimp only at h
    refine lv_iload_n hx hb dX5_keeps_2 rfl (lv_at hl 1 rfl) ?_
    refine lv_sipush (v := 225) hx hb dX5_keeps_3 (by decide) ?_
    refine lv_icmp_ge (tgt := 27) hx hb dX5_keeps_6 (by decide) (fun c_1 => ?_) (fun c_1 => ?_)
    · have h := h.1 c_1
      exact x_vret C w h dX5_keeps_27
    · have h := h.2 c_1
      refine lv_aload_n hx hb dX5_keeps_9 rfl (lv_at hl 0 rfl) ?_
      refine x_getM C w (k := 1) (v := .ref (ad 289)) (by decide) rfl mf_StairBowsModel_13 dX5_keeps_10 ?_
      refine lv_iload_n hx hb dX5_keeps_13 rfl (lv_at hl 1 rfl) ?_
      refine lv_aload_n hx hb dX5_keeps_14 rfl (lv_at hl 0 rfl) ?_
      refine x_getM C w (k := 0) (v := .ref (ad 288)) (by decide) rfl mf_StairBowsModel_7 dX5_keeps_15 ?_
      refine lv_iload_n hx hb dX5_keeps_18 rfl (lv_at hl 1 rfl) ?_
      refine x_iald C w (i := 288) (K := 20) (j := v1) (n := 225) (jn := v1.toNatClampNeg) rfl (rfl : kd 288 = 20) (by decide) rfl (show vp_in v1 225 from h.1) dX5_keeps_19 ?_
      have h := h.2
      refine x_iast C w (i := 289) (K := 21) (n := 225) (jn := v1.toNatClampNeg) rfl (rfl : kd 289 = 21) (by decide) (fun _ => rfl) (show vp_in v1 225 from h.1) dX5_keeps_20 (fun m_2 e_3 H locs w => ?_)
      have h := h.2 m_2 e_3
      refine lv_iinc (v := (v1 + 1)) (lv' := [(1, .int (v1 + 1)), (0, .ref (ad 287))]) hx hb dX5_keeps_21 hl (k := 1) rfl rfl (by decide) rfl (fun ls hl => ?_)
      refine lv_goto (tgt := 2) hx hb dX5_keeps_24 (by decide) ?_
      exact ih (v1 + 1) m_2 _ _ _ h w (lv_sub hl [1, 0] rfl)
set_option maxHeartbeats 4000000 in
set_option maxRecDepth 100000 in
theorem c_X5_keeps (l : Launch) (g : Gv) (ad : Nat → Nat) (μ : Mem) (sz : Nat)  {K : Mem → Prop} (h : wp_X5_keeps μ K) : Met l yX5_keeps (wX yX5_keeps cX5_keeps 2 none) rm_X5_keeps (Pre g ad μ sz [.ref (ad 287)]) (PostV g ad sz K) 0 0 (Aw ad sz) := by
  refine Met.ofW (cc := cX5_keeps) (maxL := 2) (ret := none) (by decide) rfl ?_
  intro p e s m args below meth c s₁ B hml hv
  obtain ⟨rfl, rfl, C, w⟩ := x_start B hml hv
  obtain ⟨hx, hb, hml, -, hts, hown, -, -, hN⟩ := id C
  have hl := lv_entry ([.ref (ad 287)]) (n := 2) (Nat.le_of_ble_eq_true rfl)
  rw [lg_entry_eq]
  generalize (lg_sl ([.ref (ad 287)]) ++ List.replicate (2 - (lg_sl ([.ref (ad 287)])).length) Slot.unset).toArray = ls at hl ⊢
  have hl : lv_has ls 2 [(0, .ref (ad 287))] := hl
  show W p l e rm_X5_keeps s m _ below meth c s.heap [] 0 0 _ _
  unfold wp_X5_keeps at h
  refine lv_iconst (v := 0) hx hb dX5_keeps_0 (by decide) ?_
  refine lv_istore_n (lv' := [(1, .int 0), (0, .ref (ad 287))]) hx hb dX5_keeps_1 rfl hl (by decide) rfl (fun ls hl => ?_)
  obtain ⟨n_4, h⟩ := h
  exact t_X5_keeps_L2 C n_4 0 μ _ _ _ h w (lv_sub hl [1, 0] rfl)
abbrev rm_X5_comesBack : Room := { frames := 0, cells := 0, slots := 0, locals := 0 }
noncomputable def wp_X5_comesBack_L2 (K : Mem → Prop) (n : Nat) : Int32 → Mem → Prop :=
  Nat.rec (motive := fun _ => Int32 → Mem → Prop) (fun _ _ => False) (fun _ ih v1 μ =>
    ((225 ≤ v1 → K μ) ∧ (¬ 225 ≤ v1 → (vp_in v1 225 ∧ (vp_in v1 225 ∧ (∀ m_2, m_2 = up2 μ 288 v1.toNatClampNeg (μ 289 v1.toNatClampNeg) → ih (v1 + 1) m_2)))))) n
theorem wp_X5_comesBack_L2_s (K : Mem → Prop) (n : Nat) (v1 : Int32) (μ : Mem) : wp_X5_comesBack_L2 K (n + 1) v1 μ = (
    let ih := wp_X5_comesBack_L2 K n
    ((225 ≤ v1 → K μ) ∧ (¬ 225 ≤ v1 → (vp_in v1 225 ∧ (vp_in v1 225 ∧ (∀ m_2, m_2 = up2 μ 288 v1.toNatClampNeg (μ 289 v1.toNatClampNeg) → ih (v1 + 1) m_2)))))) := rfl
noncomputable def wp_X5_comesBack  (μ : Mem) (K : Mem → Prop) : Prop :=
    (∃ n, wp_X5_comesBack_L2 K n 0 μ)
set_option maxHeartbeats 4000000 in
set_option maxRecDepth 100000 in
theorem t_X5_comesBack_L2 {g : Gv} {ad : Nat → Nat} {l : Launch} {p : Program} {e : Env} {s : State} {m : MethodId} {args : Array Value} {below : List Frame} {meth : Method} {c : Code} (C : Cx g p s m args meth c "StairBowsModel" cX5_comesBack 2 none)   {K : Mem → Prop}    : ∀ (n : Nat) (v1 : Int32) (μ : Mem) (H : Heap) (locs : List Loc) (ls : Array Slot), wp_X5_comesBack_L2 K n v1 μ → Wd g ad μ (Aw ad s.heap.size) s H locs → lv_has ls 2 [(0, .ref (ad 287)), (1, .int v1)] → W p l e rm_X5_comesBack s m args below meth c H locs 0 0 (MQ below (PostV g ad s.heap.size K) args s 0 0 (Aw ad s.heap.size)) (F0 m 2 ls []) := by
  obtain ⟨hx, hb, hml, -, hts, hown, -, -, hN⟩ := id C
  intro n
  induction n with
  | zero =>
    intro v1 μ H locs ls h w hl
    exact (show False from h).elim
  | succ n ih =>
    intro v1 μ H locs ls h w hl
    rw [wp_X5_comesBack_L2_s] at h
    dsimp only at h
    refine lv_iload_n hx hb dX5_comesBack_2 rfl (lv_at hl 1 rfl) ?_
    refine lv_sipush (v := 225) hx hb dX5_comesBack_3 (by decide) ?_
    refine lv_icmp_ge (tgt := 27) hx hb dX5_comesBack_6 (by decide) (fun c_1 => ?_) (fun c_1 => ?_)
    · have h := h.1 c_1
      exact x_vret C w h dX5_comesBack_27
    · have h := h.2 c_1
      refine lv_aload_n hx hb dX5_comesBack_9 rfl (lv_at hl 0 rfl) ?_
      refine x_getM C w (k := 0) (v := .ref (ad 288)) (by decide) rfl mf_StairBowsModel_7 dX5_comesBack_10 ?_
      refine lv_iload_n hx hb dX5_comesBack_13 rfl (lv_at hl 1 rfl) ?_
      refine lv_aload_n hx hb dX5_comesBack_14 rfl (lv_at hl 0 rfl) ?_
      refine x_getM C w (k := 1) (v := .ref (ad 289)) (by decide) rfl mf_StairBowsModel_13 dX5_comesBack_15 ?_
      refine lv_iload_n hx hb dX5_comesBack_18 rfl (lv_at hl 1 rfl) ?_
      refine x_iald C w (i := 289) (K := 21) (j := v1) (n := 225) (jn := v1.toNatClampNeg) rfl (rfl : kd 289 = 21) (by decide) rfl (show vp_in v1 225 from h.1) dX5_comesBack_19 ?_
      have h := h.2
      refine x_iast C w (i := 288) (K := 20) (n := 225) (jn := v1.toNatClampNeg) rfl (rfl : kd 288 = 20) (by decide) (fun _ => rfl) (show vp_in v1 225 from h.1) dX5_comesBack_20 (fun m_2 e_3 H locs w => ?_)
      have h := h.2 m_2 e_3
      refine lv_iinc (v := (v1 + 1)) (lv' := [(1, .int (v1 + 1)), (0, .ref (ad 287))]) hx hb dX5_comesBack_21 hl (k := 1) rfl rfl (by decide) rfl (fun ls hl => ?_)
      refine lv_goto (tgt := 2) hx hb dX5_comesBack_24 (by decide) ?_
      exact ih (v1 + 1) m_2 _ _ _ h w (lv_sub hl [1, 0] rfl)
set_option maxHeartbeats 4000000 in
set_option maxRecDepth 100000 in
theorem c_X5_comesBack (l : Launch) (g : Gv) (ad : Nat → Nat) (μ : Mem) (sz : Nat)  {K : Mem → Prop} (h : wp_X5_comesBack μ K) : Met l yX5_comesBack (wX yX5_comesBack cX5_comesBack 2 none) rm_X5_comesBack (Pre g ad μ sz [.ref (ad 287)]) (PostV g ad sz K) 0 0 (Aw ad sz) := by
  refine Met.ofW (cc := cX5_comesBack) (maxL := 2) (ret := none) (by decide) rfl ?_
  intro p e s m args below meth c s₁ B hml hv
  obtain ⟨rfl, rfl, C, w⟩ := x_start B hml hv
  obtain ⟨hx, hb, hml, -, hts, hown, -, -, hN⟩ := id C
  have hl := lv_entry ([.ref (ad 287)]) (n := 2) (Nat.le_of_ble_eq_true rfl)
  rw [lg_entry_eq]
  generalize (lg_sl ([.ref (ad 287)]) ++ List.replicate (2 - (lg_sl ([.ref (ad 287)])).length) Slot.unset).toArray = ls at hl ⊢
  have hl : lv_has ls 2 [(0, .ref (ad 287))] := hl
  show W p l e rm_X5_comesBack s m _ below meth c s.heap [] 0 0 _ _
  unfold wp_X5_comesBack at h
  refine lv_iconst (v := 0) hx hb dX5_comesBack_0 (by decide) ?_
  refine lv_istore_n (lv' := [(1, .int 0), (0, .ref (ad 287))]) hx hb dX5_comesBack_1 rfl hl (by decide) rfl (fun ls hl => ?_)
  obtain ⟨n_4, h⟩ := h
  exact t_X5_comesBack_L2 C n_4 0 μ _ _ _ h w (lv_sub hl [1, 0] rfl)
abbrev rm_X5_isPerson : Room := { frames := 1, cells := 0, slots := 0, locals := 25 }
noncomputable def wp_X5_isPerson (a1 : Int32) (μ : Mem) (K : Int32 → Mem → Prop) : Prop :=
    (wp_X5_in (Int32.toInt64 a1) 0 ((Int32.toInt64 (μ 288 4)) - 1) μ (fun r_2 m_1 => (bz r_2 ∧ K r_2 m_1)))
set_option maxHeartbeats 4000000 in
set_option maxRecDepth 100000 in
theorem c_X5_isPerson (l : Launch) (g : Gv) (ad : Nat → Nat) (μ : Mem) (sz : Nat) (a1 : Int32) {K : Int32 → Mem → Prop} (h : wp_X5_isPerson a1 μ K) : Met l yX5_isPerson (wX yX5_isPerson cX5_isPerson 2 (some .boolean)) rm_X5_isPerson (Pre g ad μ sz [.ref (ad 287), .int a1]) (PostI g ad sz K) 0 0 (Aw ad sz) := by
  refine Met.ofW (cc := cX5_isPerson) (maxL := 2) (ret := (some .boolean)) (by decide) rfl ?_
  intro p e s m args below meth c s₁ B hml hv
  obtain ⟨rfl, rfl, C, w⟩ := x_start B hml hv
  obtain ⟨hx, hb, hml, -, hts, hown, -, -, hN⟩ := id C
  have hl := lv_entry ([.ref (ad 287), .int a1]) (n := 2) (Nat.le_of_ble_eq_true rfl)
  rw [lg_entry_eq]
  generalize (lg_sl ([.ref (ad 287), .int a1]) ++ List.replicate (2 - (lg_sl ([.ref (ad 287), .int a1])).length) Slot.unset).toArray = ls at hl ⊢
  have hl : lv_has ls 2 [(0, .ref (ad 287)), (1, .int a1)] := hl
  show W p l e rm_X5_isPerson s m _ below meth c s.heap [] 0 0 _ _
  unfold wp_X5_isPerson at h
  refine lv_iload_n hx hb dX5_isPerson_0 rfl (lv_at hl 1 rfl) ?_
  refine lv_i2l (v := (Int32.toInt64 a1)) hx hb dX5_isPerson_1 rfl ?_
  refine lv_lconst (v := 0) hx hb dX5_isPerson_2 (by decide) ?_
  refine lv_aload_n hx hb dX5_isPerson_3 rfl (lv_at hl 0 rfl) ?_
  refine x_getM C w (k := 0) (v := .ref (ad 288)) (by decide) rfl mf_StairBowsModel_7 dX5_isPerson_4 ?_
  refine lv_iconst (v := 4) hx hb dX5_isPerson_7 (by decide) ?_
  refine x_iald C w (i := 288) (K := 20) (j := 4) (n := 225) (jn := 4) rfl (rfl : kd 288 = 20) (by decide) rfl (show vp_in 4 225 from vp_lit (by decide) (by decide)) dX5_isPerson_8 ?_
  refine lv_i2l (v := (Int32.toInt64 (μ 288 4))) hx hb dX5_isPerson_9 rfl ?_
  refine lv_lconst (v := 1) hx hb dX5_isPerson_10 (by decide) ?_
  refine lv_lsub hx hb dX5_isPerson_11 ?_
  refine x_calli C w (x_runS (As := [.long (Int32.toInt64 a1), .long 0, .long ((Int32.toInt64 (μ 288 4)) - 1)]) (rest := []) C w me_X5_in ml_StairBowsModel_35 (c_X5_in l g ad μ _ (Int32.toInt64 a1) 0 ((Int32.toInt64 (μ 288 4)) - 1) h) ⟨rfl, rfl⟩ ⟨Nat.le_of_ble_eq_true rfl, Nat.le_of_ble_eq_true rfl⟩ rfl hl.1 rfl (Nat.le_of_ble_eq_true rfl) dX5_isPerson_12 ⟨Nat.le_of_ble_eq_true rfl, Nat.le_of_ble_eq_true rfl⟩) (fun r_2 m_1 h H locs w => ?_)
  exact x_zret C w h.1 h.2 dX5_isPerson_15
abbrev rm_X5_get : Room := { frames := 0, cells := 0, slots := 0, locals := 0 }
noncomputable def wp_X5_get (a1 : Int32) (a2 : Int32) (μ : Mem) (K : Int32 → Mem → Prop) : Prop :=
    (vp_in ((9 + (9 * a1)) + a2) 225 ∧ K (μ 288 ((9 + (9 * a1)) + a2).toNatClampNeg) μ)
set_option maxHeartbeats 4000000 in
set_option maxRecDepth 100000 in
theorem c_X5_get (l : Launch) (g : Gv) (ad : Nat → Nat) (μ : Mem) (sz : Nat) (a1 : Int32) (a2 : Int32) {K : Int32 → Mem → Prop} (h : wp_X5_get a1 a2 μ K) : Met l yX5_get (wX yX5_get cX5_get 3 (some .int)) rm_X5_get (Pre g ad μ sz [.ref (ad 287), .int a1, .int a2]) (PostI g ad sz K) 0 0 (Aw ad sz) := by
  refine Met.ofW (cc := cX5_get) (maxL := 3) (ret := (some .int)) (by decide) rfl ?_
  intro p e s m args below meth c s₁ B hml hv
  obtain ⟨rfl, rfl, C, w⟩ := x_start B hml hv
  obtain ⟨hx, hb, hml, -, hts, hown, -, -, hN⟩ := id C
  have hl := lv_entry ([.ref (ad 287), .int a1, .int a2]) (n := 3) (Nat.le_of_ble_eq_true rfl)
  rw [lg_entry_eq]
  generalize (lg_sl ([.ref (ad 287), .int a1, .int a2]) ++ List.replicate (3 - (lg_sl ([.ref (ad 287), .int a1, .int a2])).length) Slot.unset).toArray = ls at hl ⊢
  have hl : lv_has ls 3 [(0, .ref (ad 287)), (1, .int a1), (2, .int a2)] := hl
  show W p l e rm_X5_get s m _ below meth c s.heap [] 0 0 _ _
  unfold wp_X5_get at h
  refine lv_aload_n hx hb dX5_get_0 rfl (lv_at hl 0 rfl) ?_
  refine x_getM C w (k := 0) (v := .ref (ad 288)) (by decide) rfl mf_StairBowsModel_7 dX5_get_1 ?_
  refine lv_bipush (v := 9) hx hb dX5_get_4 (by decide) ?_
  refine lv_bipush (v := 9) hx hb dX5_get_6 (by decide) ?_
  refine lv_iload_n hx hb dX5_get_8 rfl (lv_at hl 1 rfl) ?_
  refine lv_imul hx hb dX5_get_9 ?_
  refine lv_iadd hx hb dX5_get_10 ?_
  refine lv_iload_n hx hb dX5_get_11 rfl (lv_at hl 2 rfl) ?_
  refine lv_iadd hx hb dX5_get_12 ?_
  refine x_iald C w (i := 288) (K := 20) (j := ((9 + (9 * a1)) + a2)) (n := 225) (jn := ((9 + (9 * a1)) + a2).toNatClampNeg) rfl (rfl : kd 288 = 20) (by decide) rfl (show vp_in ((9 + (9 * a1)) + a2) 225 from h.1) dX5_get_13 ?_
  have h := h.2
  exact x_iret C w h dX5_get_14
abbrev rm_X5_lays : Room := { frames := 0, cells := 0, slots := 0, locals := 0 }
noncomputable def wp_X5_lays (a1 : Int32) (a2 : Int32) (a3 : Int32) (μ : Mem) (K : Mem → Prop) : Prop :=
    (vp_in ((9 + (9 * a1)) + a2) 225 ∧ (∀ m_1, m_1 = up2 μ 288 (((9 + (9 * a1)) + a2).toNatClampNeg) a3 → K m_1))
set_option maxHeartbeats 4000000 in
set_option maxRecDepth 100000 in
theorem c_X5_lays (l : Launch) (g : Gv) (ad : Nat → Nat) (μ : Mem) (sz : Nat) (a1 : Int32) (a2 : Int32) (a3 : Int32) {K : Mem → Prop} (h : wp_X5_lays a1 a2 a3 μ K) : Met l yX5_lays (wX yX5_lays cX5_lays 4 none) rm_X5_lays (Pre g ad μ sz [.ref (ad 287), .int a1, .int a2, .int a3]) (PostV g ad sz K) 0 0 (Aw ad sz) := by
  refine Met.ofW (cc := cX5_lays) (maxL := 4) (ret := none) (by decide) rfl ?_
  intro p e s m args below meth c s₁ B hml hv
  obtain ⟨rfl, rfl, C, w⟩ := x_start B hml hv
  obtain ⟨hx, hb, hml, -, hts, hown, -, -, hN⟩ := id C
  have hl := lv_entry ([.ref (ad 287), .int a1, .int a2, .int a3]) (n := 4) (Nat.le_of_ble_eq_true rfl)
  rw [lg_entry_eq]
  generalize (lg_sl ([.ref (ad 287), .int a1, .int a2, .int a3]) ++ List.replicate (4 - (lg_sl ([.ref (ad 287), .int a1, .int a2, .int a3])).length) Slot.unset).toArray = ls at hl ⊢
  have hl : lv_has ls 4 [(0, .ref (ad 287)), (1, .int a1), (2, .int a2), (3, .int a3)] := hl
  show W p l e rm_X5_lays s m _ below meth c s.heap [] 0 0 _ _
  unfold wp_X5_lays at h
  refine lv_aload_n hx hb dX5_lays_0 rfl (lv_at hl 0 rfl) ?_
  refine x_getM C w (k := 0) (v := .ref (ad 288)) (by decide) rfl mf_StairBowsModel_7 dX5_lays_1 ?_
  refine lv_bipush (v := 9) hx hb dX5_lays_4 (by decide) ?_
  refine lv_bipush (v := 9) hx hb dX5_lays_6 (by decide) ?_
  refine lv_iload_n hx hb dX5_lays_8 rfl (lv_at hl 1 rfl) ?_
  refine lv_imul hx hb dX5_lays_9 ?_
  refine lv_iadd hx hb dX5_lays_10 ?_
  refine lv_iload_n hx hb dX5_lays_11 rfl (lv_at hl 2 rfl) ?_
  refine lv_iadd hx hb dX5_lays_12 ?_
  refine lv_iload_n hx hb dX5_lays_13 rfl (lv_at hl 3 rfl) ?_
  refine x_iast C w (i := 288) (K := 20) (n := 225) (jn := ((9 + (9 * a1)) + a2).toNatClampNeg) rfl (rfl : kd 288 = 20) (by decide) (fun _ => rfl) (show vp_in ((9 + (9 * a1)) + a2) 225 from h.1) dX5_lays_14 (fun m_1 e_2 H locs w => ?_)
  have h := h.2 m_1 e_2
  exact x_vret C w h dX5_lays_15
abbrev rm_X5_adds : Room := { frames := 0, cells := 0, slots := 0, locals := 0 }
noncomputable def wp_X5_adds (a1 : Int32) (a2 : Int32) (a3 : Int32) (μ : Mem) (K : Mem → Prop) : Prop :=
    (vp_in ((9 + (9 * a1)) + a2) 225 ∧ (vp_in ((9 + (9 * a1)) + a2) 225 ∧ (∀ m_1, m_1 = up2 μ 288 (((9 + (9 * a1)) + a2).toNatClampNeg) ((μ 288 ((9 + (9 * a1)) + a2).toNatClampNeg) + a3) → K m_1)))
set_option maxHeartbeats 4000000 in
set_option maxRecDepth 100000 in
theorem c_X5_adds (l : Launch) (g : Gv) (ad : Nat → Nat) (μ : Mem) (sz : Nat) (a1 : Int32) (a2 : Int32) (a3 : Int32) {K : Mem → Prop} (h : wp_X5_adds a1 a2 a3 μ K) : Met l yX5_adds (wX yX5_adds cX5_adds 4 none) rm_X5_adds (Pre g ad μ sz [.ref (ad 287), .int a1, .int a2, .int a3]) (PostV g ad sz K) 0 0 (Aw ad sz) := by
  refine Met.ofW (cc := cX5_adds) (maxL := 4) (ret := none) (by decide) rfl ?_
  intro p e s m args below meth c s₁ B hml hv
  obtain ⟨rfl, rfl, C, w⟩ := x_start B hml hv
  obtain ⟨hx, hb, hml, -, hts, hown, -, -, hN⟩ := id C
  have hl := lv_entry ([.ref (ad 287), .int a1, .int a2, .int a3]) (n := 4) (Nat.le_of_ble_eq_true rfl)
  rw [lg_entry_eq]
  generalize (lg_sl ([.ref (ad 287), .int a1, .int a2, .int a3]) ++ List.replicate (4 - (lg_sl ([.ref (ad 287), .int a1, .int a2, .int a3])).length) Slot.unset).toArray = ls at hl ⊢
  have hl : lv_has ls 4 [(0, .ref (ad 287)), (1, .int a1), (2, .int a2), (3, .int a3)] := hl
  show W p l e rm_X5_adds s m _ below meth c s.heap [] 0 0 _ _
  unfold wp_X5_adds at h
  refine lv_aload_n hx hb dX5_adds_0 rfl (lv_at hl 0 rfl) ?_
  refine x_getM C w (k := 0) (v := .ref (ad 288)) (by decide) rfl mf_StairBowsModel_7 dX5_adds_1 ?_
  refine lv_bipush (v := 9) hx hb dX5_adds_4 (by decide) ?_
  refine lv_bipush (v := 9) hx hb dX5_adds_6 (by decide) ?_
  refine lv_iload_n hx hb dX5_adds_8 rfl (lv_at hl 1 rfl) ?_
  refine lv_imul hx hb dX5_adds_9 ?_
  refine lv_iadd hx hb dX5_adds_10 ?_
  refine lv_iload_n hx hb dX5_adds_11 rfl (lv_at hl 2 rfl) ?_
  refine lv_iadd hx hb dX5_adds_12 ?_
  refine lv_dup2_11 hx hb dX5_adds_13 rfl rfl ?_
  refine x_iald C w (i := 288) (K := 20) (j := ((9 + (9 * a1)) + a2)) (n := 225) (jn := ((9 + (9 * a1)) + a2).toNatClampNeg) rfl (rfl : kd 288 = 20) (by decide) rfl (show vp_in ((9 + (9 * a1)) + a2) 225 from h.1) dX5_adds_14 ?_
  have h := h.2
  refine lv_iload_n hx hb dX5_adds_15 rfl (lv_at hl 3 rfl) ?_
  refine lv_iadd hx hb dX5_adds_16 ?_
  refine x_iast C w (i := 288) (K := 20) (n := 225) (jn := ((9 + (9 * a1)) + a2).toNatClampNeg) rfl (rfl : kd 288 = 20) (by decide) (fun _ => rfl) (show vp_in ((9 + (9 * a1)) + a2) 225 from h.1) dX5_adds_17 (fun m_1 e_2 H locs w => ?_)
  have h := h.2 m_1 e_2
  exact x_vret C w h dX5_adds_18
abbrev rm_X5_isStep : Room := { frames := 1, cells := 0, slots := 0, locals := 25 }
noncomputable def wp_X5_isStep (a0 : Int32) (μ : Mem) (K : Int32 → Mem → Prop) : Prop :=
    (wp_X5_in (Int32.toInt64 a0) 0 11 μ (fun r_2 m_1 => (bz r_2 ∧ K r_2 m_1)))
set_option maxHeartbeats 4000000 in
set_option maxRecDepth 100000 in
theorem c_X5_isStep (l : Launch) (g : Gv) (ad : Nat → Nat) (μ : Mem) (sz : Nat) (a0 : Int32) {K : Int32 → Mem → Prop} (h : wp_X5_isStep a0 μ K) : Met l yX5_isStep (wX yX5_isStep cX5_isStep 1 (some .boolean)) rm_X5_isStep (Pre g ad μ sz [.int a0]) (PostI g ad sz K) 0 0 (Aw ad sz) := by
  refine Met.ofW (cc := cX5_isStep) (maxL := 1) (ret := (some .boolean)) (by decide) rfl ?_
  intro p e s m args below meth c s₁ B hml hv
  obtain ⟨rfl, rfl, C, w⟩ := x_start B hml hv
  obtain ⟨hx, hb, hml, -, hts, hown, -, -, hN⟩ := id C
  have hl := lv_entry ([.int a0]) (n := 1) (Nat.le_of_ble_eq_true rfl)
  rw [lg_entry_eq]
  generalize (lg_sl ([.int a0]) ++ List.replicate (1 - (lg_sl ([.int a0])).length) Slot.unset).toArray = ls at hl ⊢
  have hl : lv_has ls 1 [(0, .int a0)] := hl
  show W p l e rm_X5_isStep s m _ below meth c s.heap [] 0 0 _ _
  unfold wp_X5_isStep at h
  refine lv_iload_n hx hb dX5_isStep_0 rfl (lv_at hl 0 rfl) ?_
  refine lv_i2l (v := (Int32.toInt64 a0)) hx hb dX5_isStep_1 rfl ?_
  refine lv_lconst (v := 0) hx hb dX5_isStep_2 (by decide) ?_
  refine lv_ldc2 (v := 11) hx hb hown (hts _ mk_StairBowsModel_39) dX5_isStep_3 ?_
  refine x_calli C w (x_runS (As := [.long (Int32.toInt64 a0), .long 0, .long 11]) (rest := []) C w me_X5_in ml_StairBowsModel_35 (c_X5_in l g ad μ _ (Int32.toInt64 a0) 0 11 h) ⟨rfl, rfl⟩ ⟨Nat.le_of_ble_eq_true rfl, Nat.le_of_ble_eq_true rfl⟩ rfl hl.1 rfl (Nat.le_of_ble_eq_true rfl) dX5_isStep_6 ⟨Nat.le_of_ble_eq_true rfl, Nat.le_of_ble_eq_true rfl⟩) (fun r_2 m_1 h H locs w => ?_)
  exact x_zret C w h.1 h.2 dX5_isStep_9
abbrev rm_X5_isLanding : Room := { frames := 0, cells := 0, slots := 0, locals := 0 }
noncomputable def wp_X5_isLanding (a1 : Int32) (μ : Mem) (K : Int32 → Mem → Prop) : Prop :=
    ((¬ (((μ 288 5) >>> (a1 &&& 31)) &&& 1) = 1 → K 0 μ) ∧ ((((μ 288 5) >>> (a1 &&& 31)) &&& 1) = 1 → K 1 μ))
set_option maxHeartbeats 4000000 in
set_option maxRecDepth 100000 in
theorem c_X5_isLanding (l : Launch) (g : Gv) (ad : Nat → Nat) (μ : Mem) (sz : Nat) (a1 : Int32) {K : Int32 → Mem → Prop} (h : wp_X5_isLanding a1 μ K) : Met l yX5_isLanding (wX yX5_isLanding cX5_isLanding 2 (some .boolean)) rm_X5_isLanding (Pre g ad μ sz [.ref (ad 287), .int a1]) (PostI g ad sz K) 0 0 (Aw ad sz) := by
  refine Met.ofW (cc := cX5_isLanding) (maxL := 2) (ret := (some .boolean)) (by decide) rfl ?_
  intro p e s m args below meth c s₁ B hml hv
  obtain ⟨rfl, rfl, C, w⟩ := x_start B hml hv
  obtain ⟨hx, hb, hml, -, hts, hown, -, -, hN⟩ := id C
  have hl := lv_entry ([.ref (ad 287), .int a1]) (n := 2) (Nat.le_of_ble_eq_true rfl)
  rw [lg_entry_eq]
  generalize (lg_sl ([.ref (ad 287), .int a1]) ++ List.replicate (2 - (lg_sl ([.ref (ad 287), .int a1])).length) Slot.unset).toArray = ls at hl ⊢
  have hl : lv_has ls 2 [(0, .ref (ad 287)), (1, .int a1)] := hl
  show W p l e rm_X5_isLanding s m _ below meth c s.heap [] 0 0 _ _
  unfold wp_X5_isLanding at h
  refine lv_aload_n hx hb dX5_isLanding_0 rfl (lv_at hl 0 rfl) ?_
  refine x_getM C w (k := 0) (v := .ref (ad 288)) (by decide) rfl mf_StairBowsModel_7 dX5_isLanding_1 ?_
  refine lv_iconst (v := 5) hx hb dX5_isLanding_4 (by decide) ?_
  refine x_iald C w (i := 288) (K := 20) (j := 5) (n := 225) (jn := 5) rfl (rfl : kd 288 = 20) (by decide) rfl (show vp_in 5 225 from vp_lit (by decide) (by decide)) dX5_isLanding_5 ?_
  refine lv_iload_n hx hb dX5_isLanding_6 rfl (lv_at hl 1 rfl) ?_
  refine lv_ishr hx hb dX5_isLanding_7 ?_
  refine lv_iconst (v := 1) hx hb dX5_isLanding_8 (by decide) ?_
  refine lv_iand hx hb dX5_isLanding_9 ?_
  refine lv_iconst (v := 1) hx hb dX5_isLanding_10 (by decide) ?_
  refine lv_icmp_ne (tgt := 18) hx hb dX5_isLanding_11 (by decide) (fun c_1 => ?_) (fun c_1 => ?_)
  · have h := h.1 c_1
    refine lv_iconst (v := 0) hx hb dX5_isLanding_18 (by decide) ?_
    exact x_zret C w (show bz 0 from Or.inl rfl) h dX5_isLanding_19
  · have h := h.2 c_1
    refine lv_iconst (v := 1) hx hb dX5_isLanding_14 (by decide) ?_
    refine lv_goto (tgt := 19) hx hb dX5_isLanding_15 (by decide) ?_
    exact x_zret C w (show bz 1 from Or.inr rfl) h dX5_isLanding_19
abbrev rm_X5_isAt : Room := { frames := 1, cells := 0, slots := 0, locals := 22 }
noncomputable def wp_X5_isAt (a1 : Int32) (a2 : Int32) (μ : Mem) (K : Int32 → Mem → Prop) : Prop :=
    (wp_X5_get a1 2 μ (fun r_2 m_1 => ((¬ r_2 = 1 → K 0 m_1) ∧ (r_2 = 1 → (wp_X5_get a1 3 m_1 (fun r_5 m_4 => ((¬ r_5 = a2 → K 0 m_4) ∧ (r_5 = a2 → K 1 m_4))))))))
set_option maxHeartbeats 4000000 in
set_option maxRecDepth 100000 in
theorem c_X5_isAt (l : Launch) (g : Gv) (ad : Nat → Nat) (μ : Mem) (sz : Nat) (a1 : Int32) (a2 : Int32) {K : Int32 → Mem → Prop} (h : wp_X5_isAt a1 a2 μ K) : Met l yX5_isAt (wX yX5_isAt cX5_isAt 3 (some .boolean)) rm_X5_isAt (Pre g ad μ sz [.ref (ad 287), .int a1, .int a2]) (PostI g ad sz K) 0 0 (Aw ad sz) := by
  refine Met.ofW (cc := cX5_isAt) (maxL := 3) (ret := (some .boolean)) (by decide) rfl ?_
  intro p e s m args below meth c s₁ B hml hv
  obtain ⟨rfl, rfl, C, w⟩ := x_start B hml hv
  obtain ⟨hx, hb, hml, -, hts, hown, -, -, hN⟩ := id C
  have hl := lv_entry ([.ref (ad 287), .int a1, .int a2]) (n := 3) (Nat.le_of_ble_eq_true rfl)
  rw [lg_entry_eq]
  generalize (lg_sl ([.ref (ad 287), .int a1, .int a2]) ++ List.replicate (3 - (lg_sl ([.ref (ad 287), .int a1, .int a2])).length) Slot.unset).toArray = ls at hl ⊢
  have hl : lv_has ls 3 [(0, .ref (ad 287)), (1, .int a1), (2, .int a2)] := hl
  show W p l e rm_X5_isAt s m _ below meth c s.heap [] 0 0 _ _
  unfold wp_X5_isAt at h
  refine lv_aload_n hx hb dX5_isAt_0 rfl (lv_at hl 0 rfl) ?_
  refine lv_iload_n hx hb dX5_isAt_1 rfl (lv_at hl 1 rfl) ?_
  refine lv_iconst (v := 2) hx hb dX5_isAt_2 (by decide) ?_
  refine x_calli C w (x_runV (i := 287) (As := [.int a1, .int 2]) (rest := []) C w (rfl : kd 287 = 7) (by decide) (ci := 5) rfl rfl rfl me_X5_get ml_StairBowsModel_41 (c_X5_get l g ad μ _ a1 2 h) ⟨rfl, rfl⟩ ⟨Nat.le_of_ble_eq_true rfl, Nat.le_of_ble_eq_true rfl⟩ rfl hl.1 rfl (Nat.le_of_ble_eq_true rfl) dX5_isAt_3 ⟨Nat.le_of_ble_eq_true rfl, Nat.le_of_ble_eq_true rfl⟩) (fun r_2 m_1 h H locs w => ?_)
  refine lv_iconst (v := 1) hx hb dX5_isAt_6 (by decide) ?_
  refine lv_icmp_ne (tgt := 24) hx hb dX5_isAt_7 (by decide) (fun c_3 => ?_) (fun c_3 => ?_)
  · have h := h.1 c_3
    refine lv_iconst (v := 0) hx hb dX5_isAt_24 (by decide) ?_
    exact x_zret C w (show bz 0 from Or.inl rfl) h dX5_isAt_25
  · have h := h.2 c_3
    refine lv_aload_n hx hb dX5_isAt_10 rfl (lv_at hl 0 rfl) ?_
    refine lv_iload_n hx hb dX5_isAt_11 rfl (lv_at hl 1 rfl) ?_
    refine lv_iconst (v := 3) hx hb dX5_isAt_12 (by decide) ?_
    refine x_calli C w (x_runV (i := 287) (As := [.int a1, .int 3]) (rest := []) C w (rfl : kd 287 = 7) (by decide) (ci := 5) rfl rfl rfl me_X5_get ml_StairBowsModel_41 (c_X5_get l g ad m_1 _ a1 3 h) ⟨rfl, rfl⟩ ⟨Nat.le_of_ble_eq_true rfl, Nat.le_of_ble_eq_true rfl⟩ rfl hl.1 rfl (Nat.le_of_ble_eq_true rfl) dX5_isAt_13 ⟨Nat.le_of_ble_eq_true rfl, Nat.le_of_ble_eq_true rfl⟩) (fun r_5 m_4 h H locs w => ?_)
    refine lv_iload_n hx hb dX5_isAt_16 rfl (lv_at hl 2 rfl) ?_
    refine lv_icmp_ne (tgt := 24) hx hb dX5_isAt_17 (by decide) (fun c_6 => ?_) (fun c_6 => ?_)
    · have h := h.1 c_6
      refine lv_iconst (v := 0) hx hb dX5_isAt_24 (by decide) ?_
      exact x_zret C w (show bz 0 from Or.inl rfl) h dX5_isAt_25
    · have h := h.2 c_6
      refine lv_iconst (v := 1) hx hb dX5_isAt_20 (by decide) ?_
      refine lv_goto (tgt := 25) hx hb dX5_isAt_21 (by decide) ?_
      exact x_zret C w (show bz 1 from Or.inr rfl) h dX5_isAt_25
abbrev rm_X5_peopleAt : Room := { frames := 2, cells := 0, slots := 0, locals := 44 }
noncomputable def wp_X5_peopleAt_L4 (v1 : Int32) (K : Int32 → Mem → Prop) (n : Nat) : Int32 → Int32 → Mem → Prop :=
  Nat.rec (motive := fun _ => Int32 → Int32 → Mem → Prop) (fun _ _ _ => False) (fun _ ih v2 v3 μ =>
    (((μ 288 4) ≤ v3 → K v2 μ) ∧ (¬ (μ 288 4) ≤ v3 → (wp_X5_isAt v3 v1 μ (fun r_3 m_2 => ((r_3 = 0 → ih (v2 + 0) (v3 + 1) m_2) ∧ (¬ r_3 = 0 → ih (v2 + 1) (v3 + 1) m_2))))))) n
theorem wp_X5_peopleAt_L4_s (v1 : Int32) (K : Int32 → Mem → Prop) (n : Nat) (v2 : Int32) (v3 : Int32) (μ : Mem) : wp_X5_peopleAt_L4 v1 K (n + 1) v2 v3 μ = (
    let ih := wp_X5_peopleAt_L4 v1 K n
    (((μ 288 4) ≤ v3 → K v2 μ) ∧ (¬ (μ 288 4) ≤ v3 → (wp_X5_isAt v3 v1 μ (fun r_3 m_2 => ((r_3 = 0 → ih (v2 + 0) (v3 + 1) m_2) ∧ (¬ r_3 = 0 → ih (v2 + 1) (v3 + 1) m_2))))))) := rfl
noncomputable def wp_X5_peopleAt (a1 : Int32) (μ : Mem) (K : Int32 → Mem → Prop) : Prop :=
    (∃ n, wp_X5_peopleAt_L4 a1 K n 0 0 μ)
set_option maxHeartbeats 4000000 in
set_option maxRecDepth 100000 in
theorem t_X5_peopleAt_L4 {g : Gv} {ad : Nat → Nat} {l : Launch} {p : Program} {e : Env} {s : State} {m : MethodId} {args : Array Value} {below : List Frame} {meth : Method} {c : Code} (C : Cx g p s m args meth c "StairBowsModel" cX5_peopleAt 4 (some .int)) {v1 : Int32}  {K : Int32 → Mem → Prop}    : ∀ (n : Nat) (v2 : Int32) (v3 : Int32) (μ : Mem) (H : Heap) (locs : List Loc) (ls : Array Slot), wp_X5_peopleAt_L4 v1 K n v2 v3 μ → Wd g ad μ (Aw ad s.heap.size) s H locs → lv_has ls 4 [(0, .ref (ad 287)), (1, .int v1), (2, .int v2), (3, .int v3)] → W p l e rm_X5_peopleAt s m args below meth c H locs 0 0 (MQ below (PostI g ad s.heap.size K) args s 0 0 (Aw ad s.heap.size)) (F0 m 4 ls []) := by
  obtain ⟨hx, hb, hml, -, hts, hown, -, -, hN⟩ := id C
  intro n
  induction n with
  | zero =>
    intro v2 v3 μ H locs ls h w hl
    exact (show False from h).elim
  | succ n ih =>
    intro v2 v3 μ H locs ls h w hl
    rw [wp_X5_peopleAt_L4_s] at h
    dsimp only at h
    refine lv_iload_n hx hb dX5_peopleAt_4 rfl (lv_at hl 3 rfl) ?_
    refine lv_aload_n hx hb dX5_peopleAt_5 rfl (lv_at hl 0 rfl) ?_
    refine x_getM C w (k := 0) (v := .ref (ad 288)) (by decide) rfl mf_StairBowsModel_7 dX5_peopleAt_6 ?_
    refine lv_iconst (v := 4) hx hb dX5_peopleAt_9 (by decide) ?_
    refine x_iald C w (i := 288) (K := 20) (j := 4) (n := 225) (jn := 4) rfl (rfl : kd 288 = 20) (by decide) rfl (show vp_in 4 225 from vp_lit (by decide) (by decide)) dX5_peopleAt_10 ?_
    refine lv_icmp_ge (tgt := 37) hx hb dX5_peopleAt_11 (by decide) (fun c_1 => ?_) (fun c_1 => ?_)
    · have h := h.1 c_1
      refine lv_iload_n hx hb dX5_peopleAt_37 rfl (lv_at hl 2 rfl) ?_
      exact x_iret C w h dX5_peopleAt_38
    · have h := h.2 c_1
      refine lv_iload_n hx hb dX5_peopleAt_14 rfl (lv_at hl 2 rfl) ?_
      refine lv_aload_n hx hb dX5_peopleAt_15 rfl (lv_at hl 0 rfl) ?_
      refine lv_iload_n hx hb dX5_peopleAt_16 rfl (lv_at hl 3 rfl) ?_
      refine lv_iload_n hx hb dX5_peopleAt_17 rfl (lv_at hl 1 rfl) ?_
      refine x_calli C w (x_runV (i := 287) (As := [.int v3, .int v1]) (rest := [.int v2]) C w (rfl : kd 287 = 7) (by decide) (ci := 5) rfl rfl rfl me_X5_isAt ml_StairBowsModel_45 (c_X5_isAt l g ad μ _ v3 v1 h) ⟨rfl, rfl⟩ ⟨Nat.le_of_ble_eq_true rfl, Nat.le_of_ble_eq_true rfl⟩ rfl hl.1 rfl (Nat.le_of_ble_eq_true rfl) dX5_peopleAt_18 ⟨Nat.le_of_ble_eq_true rfl, Nat.le_of_ble_eq_true rfl⟩) (fun r_3 m_2 h H locs w => ?_)
      refine lv_if_eq (tgt := 28) hx hb dX5_peopleAt_21 (by decide) (fun c_4 => ?_) (fun c_4 => ?_)
      · have h := h.1 c_4
        refine lv_iconst (v := 0) hx hb dX5_peopleAt_28 (by decide) ?_
        refine lv_iadd hx hb dX5_peopleAt_29 ?_
        refine lv_istore_n (lv' := [(2, .int (v2 + 0)), (0, .ref (ad 287)), (1, .int v1), (3, .int v3)]) hx hb dX5_peopleAt_30 rfl hl (by decide) rfl (fun ls hl => ?_)
        refine lv_iinc (v := (v3 + 1)) (lv' := [(3, .int (v3 + 1)), (2, .int (v2 + 0)), (0, .ref (ad 287)), (1, .int v1)]) hx hb dX5_peopleAt_31 hl (k := 3) rfl rfl (by decide) rfl (fun ls hl => ?_)
        refine lv_goto (tgt := 4) hx hb dX5_peopleAt_34 (by decide) ?_
        exact ih (v2 + 0) (v3 + 1) m_2 _ _ _ h w (lv_sub hl [2, 3, 1, 0] rfl)
      · have h := h.2 c_4
        refine lv_iconst (v := 1) hx hb dX5_peopleAt_24 (by decide) ?_
        refine lv_goto (tgt := 29) hx hb dX5_peopleAt_25 (by decide) ?_
        refine lv_iadd hx hb dX5_peopleAt_29 ?_
        refine lv_istore_n (lv' := [(2, .int (v2 + 1)), (0, .ref (ad 287)), (1, .int v1), (3, .int v3)]) hx hb dX5_peopleAt_30 rfl hl (by decide) rfl (fun ls hl => ?_)
        refine lv_iinc (v := (v3 + 1)) (lv' := [(3, .int (v3 + 1)), (2, .int (v2 + 1)), (0, .ref (ad 287)), (1, .int v1)]) hx hb dX5_peopleAt_31 hl (k := 3) rfl rfl (by decide) rfl (fun ls hl => ?_)
        refine lv_goto (tgt := 4) hx hb dX5_peopleAt_34 (by decide) ?_
        exact ih (v2 + 1) (v3 + 1) m_2 _ _ _ h w (lv_sub hl [2, 3, 1, 0] rfl)
set_option maxHeartbeats 4000000 in
set_option maxRecDepth 100000 in
theorem c_X5_peopleAt (l : Launch) (g : Gv) (ad : Nat → Nat) (μ : Mem) (sz : Nat) (a1 : Int32) {K : Int32 → Mem → Prop} (h : wp_X5_peopleAt a1 μ K) : Met l yX5_peopleAt (wX yX5_peopleAt cX5_peopleAt 4 (some .int)) rm_X5_peopleAt (Pre g ad μ sz [.ref (ad 287), .int a1]) (PostI g ad sz K) 0 0 (Aw ad sz) := by
  refine Met.ofW (cc := cX5_peopleAt) (maxL := 4) (ret := (some .int)) (by decide) rfl ?_
  intro p e s m args below meth c s₁ B hml hv
  obtain ⟨rfl, rfl, C, w⟩ := x_start B hml hv
  obtain ⟨hx, hb, hml, -, hts, hown, -, -, hN⟩ := id C
  have hl := lv_entry ([.ref (ad 287), .int a1]) (n := 4) (Nat.le_of_ble_eq_true rfl)
  rw [lg_entry_eq]
  generalize (lg_sl ([.ref (ad 287), .int a1]) ++ List.replicate (4 - (lg_sl ([.ref (ad 287), .int a1])).length) Slot.unset).toArray = ls at hl ⊢
  have hl : lv_has ls 4 [(0, .ref (ad 287)), (1, .int a1)] := hl
  show W p l e rm_X5_peopleAt s m _ below meth c s.heap [] 0 0 _ _
  unfold wp_X5_peopleAt at h
  refine lv_iconst (v := 0) hx hb dX5_peopleAt_0 (by decide) ?_
  refine lv_istore_n (lv' := [(2, .int 0), (0, .ref (ad 287)), (1, .int a1)]) hx hb dX5_peopleAt_1 rfl hl (by decide) rfl (fun ls hl => ?_)
  refine lv_iconst (v := 0) hx hb dX5_peopleAt_2 (by decide) ?_
  refine lv_istore_n (lv' := [(3, .int 0), (2, .int 0), (0, .ref (ad 287)), (1, .int a1)]) hx hb dX5_peopleAt_3 rfl hl (by decide) rfl (fun ls hl => ?_)
  obtain ⟨n_5, h⟩ := h
  exact t_X5_peopleAt_L4 C n_5 0 0 μ _ _ _ h w (lv_sub hl [2, 3, 1, 0] rfl)
abbrev rm_X5_roomAt : Room := { frames := 3, cells := 0, slots := 0, locals := 67 }
noncomputable def wp_X5_roomAt (a1 : Int32) (μ : Mem) (K : Int32 → Mem → Prop) : Prop :=
    (wp_X5_isLanding a1 μ (fun r_2 m_1 => ((r_2 = 0 → (wp_X5_peopleAt a1 m_1 (fun r_5 m_4 => K (1 - r_5) m_4))) ∧ (¬ r_2 = 0 → (wp_X5_peopleAt a1 m_1 (fun r_7 m_6 => K ((m_1 288 0) - r_7) m_6))))))
set_option maxHeartbeats 4000000 in
set_option maxRecDepth 100000 in
theorem c_X5_roomAt (l : Launch) (g : Gv) (ad : Nat → Nat) (μ : Mem) (sz : Nat) (a1 : Int32) {K : Int32 → Mem → Prop} (h : wp_X5_roomAt a1 μ K) : Met l yX5_roomAt (wX yX5_roomAt cX5_roomAt 2 (some .int)) rm_X5_roomAt (Pre g ad μ sz [.ref (ad 287), .int a1]) (PostI g ad sz K) 0 0 (Aw ad sz) := by
  refine Met.ofW (cc := cX5_roomAt) (maxL := 2) (ret := (some .int)) (by decide) rfl ?_
  intro p e s m args below meth c s₁ B hml hv
  obtain ⟨rfl, rfl, C, w⟩ := x_start B hml hv
  obtain ⟨hx, hb, hml, -, hts, hown, -, -, hN⟩ := id C
  have hl := lv_entry ([.ref (ad 287), .int a1]) (n := 2) (Nat.le_of_ble_eq_true rfl)
  rw [lg_entry_eq]
  generalize (lg_sl ([.ref (ad 287), .int a1]) ++ List.replicate (2 - (lg_sl ([.ref (ad 287), .int a1])).length) Slot.unset).toArray = ls at hl ⊢
  have hl : lv_has ls 2 [(0, .ref (ad 287)), (1, .int a1)] := hl
  show W p l e rm_X5_roomAt s m _ below meth c s.heap [] 0 0 _ _
  unfold wp_X5_roomAt at h
  refine lv_aload_n hx hb dX5_roomAt_0 rfl (lv_at hl 0 rfl) ?_
  refine lv_iload_n hx hb dX5_roomAt_1 rfl (lv_at hl 1 rfl) ?_
  refine x_calli C w (x_runV (i := 287) (As := [.int a1]) (rest := []) C w (rfl : kd 287 = 7) (by decide) (ci := 5) rfl rfl rfl me_X5_isLanding ml_StairBowsModel_49 (c_X5_isLanding l g ad μ _ a1 h) ⟨rfl, rfl⟩ ⟨Nat.le_of_ble_eq_true rfl, Nat.le_of_ble_eq_true rfl⟩ rfl hl.1 rfl (Nat.le_of_ble_eq_true rfl) dX5_roomAt_2 ⟨Nat.le_of_ble_eq_true rfl, Nat.le_of_ble_eq_true rfl⟩) (fun r_2 m_1 h H locs w => ?_)
  refine lv_if_eq (tgt := 17) hx hb dX5_roomAt_5 (by decide) (fun c_3 => ?_) (fun c_3 => ?_)
  · have h := h.1 c_3
    refine lv_iconst (v := 1) hx hb dX5_roomAt_17 (by decide) ?_
    refine lv_aload_n hx hb dX5_roomAt_18 rfl (lv_at hl 0 rfl) ?_
    refine lv_iload_n hx hb dX5_roomAt_19 rfl (lv_at hl 1 rfl) ?_
    refine x_calli C w (x_runV (i := 287) (As := [.int a1]) (rest := [.int 1]) C w (rfl : kd 287 = 7) (by decide) (ci := 5) rfl rfl rfl me_X5_peopleAt ml_StairBowsModel_53 (c_X5_peopleAt l g ad m_1 _ a1 h) ⟨rfl, rfl⟩ ⟨Nat.le_of_ble_eq_true rfl, Nat.le_of_ble_eq_true rfl⟩ rfl hl.1 rfl (Nat.le_of_ble_eq_true rfl) dX5_roomAt_20 ⟨Nat.le_of_ble_eq_true rfl, Nat.le_of_ble_eq_true rfl⟩) (fun r_5 m_4 h H locs w => ?_)
    refine lv_isub hx hb dX5_roomAt_23 ?_
    exact x_iret C w h dX5_roomAt_24
  · have h := h.2 c_3
    refine lv_aload_n hx hb dX5_roomAt_8 rfl (lv_at hl 0 rfl) ?_
    refine x_getM C w (k := 0) (v := .ref (ad 288)) (by decide) rfl mf_StairBowsModel_7 dX5_roomAt_9 ?_
    refine lv_iconst (v := 0) hx hb dX5_roomAt_12 (by decide) ?_
    refine x_iald C w (i := 288) (K := 20) (j := 0) (n := 225) (jn := 0) rfl (rfl : kd 288 = 20) (by decide) rfl (show vp_in 0 225 from vp_lit (by decide) (by decide)) dX5_roomAt_13 ?_
    refine lv_goto (tgt := 18) hx hb dX5_roomAt_14 (by decide) ?_
    refine lv_aload_n hx hb dX5_roomAt_18 rfl (lv_at hl 0 rfl) ?_
    refine lv_iload_n hx hb dX5_roomAt_19 rfl (lv_at hl 1 rfl) ?_
    refine x_calli C w (x_runV (i := 287) (As := [.int a1]) (rest := [.int (m_1 288 0)]) C w (rfl : kd 287 = 7) (by decide) (ci := 5) rfl rfl rfl me_X5_peopleAt ml_StairBowsModel_53 (c_X5_peopleAt l g ad m_1 _ a1 h) ⟨rfl, rfl⟩ ⟨Nat.le_of_ble_eq_true rfl, Nat.le_of_ble_eq_true rfl⟩ rfl hl.1 rfl (Nat.le_of_ble_eq_true rfl) dX5_roomAt_20 ⟨Nat.le_of_ble_eq_true rfl, Nat.le_of_ble_eq_true rfl⟩) (fun r_7 m_6 h H locs w => ?_)
    refine lv_isub hx hb dX5_roomAt_23 ?_
    exact x_iret C w h dX5_roomAt_24
abbrev rm_X5_way : Room := { frames := 1, cells := 0, slots := 0, locals := 22 }
noncomputable def wp_X5_way (a1 : Int32) (μ : Mem) (K : Int32 → Mem → Prop) : Prop :=
    (wp_X5_get a1 1 μ (fun r_2 m_1 => ((¬ r_2 = 1 → K (-1) m_1) ∧ (r_2 = 1 → K 1 m_1))))
set_option maxHeartbeats 4000000 in
set_option maxRecDepth 100000 in
theorem c_X5_way (l : Launch) (g : Gv) (ad : Nat → Nat) (μ : Mem) (sz : Nat) (a1 : Int32) {K : Int32 → Mem → Prop} (h : wp_X5_way a1 μ K) : Met l yX5_way (wX yX5_way cX5_way 2 (some .int)) rm_X5_way (Pre g ad μ sz [.ref (ad 287), .int a1]) (PostI g ad sz K) 0 0 (Aw ad sz) := by
  refine Met.ofW (cc := cX5_way) (maxL := 2) (ret := (some .int)) (by decide) rfl ?_
  intro p e s m args below meth c s₁ B hml hv
  obtain ⟨rfl, rfl, C, w⟩ := x_start B hml hv
  obtain ⟨hx, hb, hml, -, hts, hown, -, -, hN⟩ := id C
  have hl := lv_entry ([.ref (ad 287), .int a1]) (n := 2) (Nat.le_of_ble_eq_true rfl)
  rw [lg_entry_eq]
  generalize (lg_sl ([.ref (ad 287), .int a1]) ++ List.replicate (2 - (lg_sl ([.ref (ad 287), .int a1])).length) Slot.unset).toArray = ls at hl ⊢
  have hl : lv_has ls 2 [(0, .ref (ad 287)), (1, .int a1)] := hl
  show W p l e rm_X5_way s m _ below meth c s.heap [] 0 0 _ _
  unfold wp_X5_way at h
  refine lv_aload_n hx hb dX5_way_0 rfl (lv_at hl 0 rfl) ?_
  refine lv_iload_n hx hb dX5_way_1 rfl (lv_at hl 1 rfl) ?_
  refine lv_iconst (v := 1) hx hb dX5_way_2 (by decide) ?_
  refine x_calli C w (x_runV (i := 287) (As := [.int a1, .int 1]) (rest := []) C w (rfl : kd 287 = 7) (by decide) (ci := 5) rfl rfl rfl me_X5_get ml_StairBowsModel_41 (c_X5_get l g ad μ _ a1 1 h) ⟨rfl, rfl⟩ ⟨Nat.le_of_ble_eq_true rfl, Nat.le_of_ble_eq_true rfl⟩ rfl hl.1 rfl (Nat.le_of_ble_eq_true rfl) dX5_way_3 ⟨Nat.le_of_ble_eq_true rfl, Nat.le_of_ble_eq_true rfl⟩) (fun r_2 m_1 h H locs w => ?_)
  refine lv_iconst (v := 1) hx hb dX5_way_6 (by decide) ?_
  refine lv_icmp_ne (tgt := 14) hx hb dX5_way_7 (by decide) (fun c_3 => ?_) (fun c_3 => ?_)
  · have h := h.1 c_3
    refine lv_iconst (v := -1) hx hb dX5_way_14 (by decide) ?_
    exact x_iret C w h dX5_way_15
  · have h := h.2 c_3
    refine lv_iconst (v := 1) hx hb dX5_way_10 (by decide) ?_
    refine lv_goto (tgt := 15) hx hb dX5_way_11 (by decide) ?_
    exact x_iret C w h dX5_way_15
abbrev rm_X5_nextOf : Room := { frames := 2, cells := 0, slots := 0, locals := 43 }
noncomputable def wp_X5_nextOf (a1 : Int32) (μ : Mem) (K : Int32 → Mem → Prop) : Prop :=
    (wp_X5_get a1 2 μ (fun r_2 m_1 => ((¬ r_2 = 0 → (wp_X5_get a1 3 m_1 (fun r_5 m_4 => (wp_X5_way a1 m_4 (fun r_7 m_6 => K (r_5 + r_7) m_6))))) ∧ (r_2 = 0 → (wp_X5_get a1 1 m_1 (fun r_9 m_8 => ((¬ r_9 = 1 → K 11 m_8) ∧ (r_9 = 1 → K 0 m_8))))))))
set_option maxHeartbeats 4000000 in
set_option maxRecDepth 100000 in
theorem c_X5_nextOf (l : Launch) (g : Gv) (ad : Nat → Nat) (μ : Mem) (sz : Nat) (a1 : Int32) {K : Int32 → Mem → Prop} (h : wp_X5_nextOf a1 μ K) : Met l yX5_nextOf (wX yX5_nextOf cX5_nextOf 2 (some .int)) rm_X5_nextOf (Pre g ad μ sz [.ref (ad 287), .int a1]) (PostI g ad sz K) 0 0 (Aw ad sz) := by
  refine Met.ofW (cc := cX5_nextOf) (maxL := 2) (ret := (some .int)) (by decide) rfl ?_
  intro p e s m args below meth c s₁ B hml hv
  obtain ⟨rfl, rfl, C, w⟩ := x_start B hml hv
  obtain ⟨hx, hb, hml, -, hts, hown, -, -, hN⟩ := id C
  have hl := lv_entry ([.ref (ad 287), .int a1]) (n := 2) (Nat.le_of_ble_eq_true rfl)
  rw [lg_entry_eq]
  generalize (lg_sl ([.ref (ad 287), .int a1]) ++ List.replicate (2 - (lg_sl ([.ref (ad 287), .int a1])).length) Slot.unset).toArray = ls at hl ⊢
  have hl : lv_has ls 2 [(0, .ref (ad 287)), (1, .int a1)] := hl
  show W p l e rm_X5_nextOf s m _ below meth c s.heap [] 0 0 _ _
  unfold wp_X5_nextOf at h
  refine lv_aload_n hx hb dX5_nextOf_0 rfl (lv_at hl 0 rfl) ?_
  refine lv_iload_n hx hb dX5_nextOf_1 rfl (lv_at hl 1 rfl) ?_
  refine lv_iconst (v := 2) hx hb dX5_nextOf_2 (by decide) ?_
  refine x_calli C w (x_runV (i := 287) (As := [.int a1, .int 2]) (rest := []) C w (rfl : kd 287 = 7) (by decide) (ci := 5) rfl rfl rfl me_X5_get ml_StairBowsModel_41 (c_X5_get l g ad μ _ a1 2 h) ⟨rfl, rfl⟩ ⟨Nat.le_of_ble_eq_true rfl, Nat.le_of_ble_eq_true rfl⟩ rfl hl.1 rfl (Nat.le_of_ble_eq_true rfl) dX5_nextOf_3 ⟨Nat.le_of_ble_eq_true rfl, Nat.le_of_ble_eq_true rfl⟩) (fun r_2 m_1 h H locs w => ?_)
  refine lv_if_ne (tgt := 28) hx hb dX5_nextOf_6 (by decide) (fun c_3 => ?_) (fun c_3 => ?_)
  · have h := h.1 c_3
    refine lv_aload_n hx hb dX5_nextOf_28 rfl (lv_at hl 0 rfl) ?_
    refine lv_iload_n hx hb dX5_nextOf_29 rfl (lv_at hl 1 rfl) ?_
    refine lv_iconst (v := 3) hx hb dX5_nextOf_30 (by decide) ?_
    refine x_calli C w (x_runV (i := 287) (As := [.int a1, .int 3]) (rest := []) C w (rfl : kd 287 = 7) (by decide) (ci := 5) rfl rfl rfl me_X5_get ml_StairBowsModel_41 (c_X5_get l g ad m_1 _ a1 3 h) ⟨rfl, rfl⟩ ⟨Nat.le_of_ble_eq_true rfl, Nat.le_of_ble_eq_true rfl⟩ rfl hl.1 rfl (Nat.le_of_ble_eq_true rfl) dX5_nextOf_31 ⟨Nat.le_of_ble_eq_true rfl, Nat.le_of_ble_eq_true rfl⟩) (fun r_5 m_4 h H locs w => ?_)
    refine lv_aload_n hx hb dX5_nextOf_34 rfl (lv_at hl 0 rfl) ?_
    refine lv_iload_n hx hb dX5_nextOf_35 rfl (lv_at hl 1 rfl) ?_
    refine x_calli C w (x_runV (i := 287) (As := [.int a1]) (rest := [.int r_5]) C w (rfl : kd 287 = 7) (by decide) (ci := 5) rfl rfl rfl me_X5_way ml_StairBowsModel_57 (c_X5_way l g ad m_4 _ a1 h) ⟨rfl, rfl⟩ ⟨Nat.le_of_ble_eq_true rfl, Nat.le_of_ble_eq_true rfl⟩ rfl hl.1 rfl (Nat.le_of_ble_eq_true rfl) dX5_nextOf_36 ⟨Nat.le_of_ble_eq_true rfl, Nat.le_of_ble_eq_true rfl⟩) (fun r_7 m_6 h H locs w => ?_)
    refine lv_iadd hx hb dX5_nextOf_39 ?_
    exact x_iret C w h dX5_nextOf_40
  · have h := h.2 c_3
    refine lv_aload_n hx hb dX5_nextOf_9 rfl (lv_at hl 0 rfl) ?_
    refine lv_iload_n hx hb dX5_nextOf_10 rfl (lv_at hl 1 rfl) ?_
    refine lv_iconst (v := 1) hx hb dX5_nextOf_11 (by decide) ?_
    refine x_calli C w (x_runV (i := 287) (As := [.int a1, .int 1]) (rest := []) C w (rfl : kd 287 = 7) (by decide) (ci := 5) rfl rfl rfl me_X5_get ml_StairBowsModel_41 (c_X5_get l g ad m_1 _ a1 1 h) ⟨rfl, rfl⟩ ⟨Nat.le_of_ble_eq_true rfl, Nat.le_of_ble_eq_true rfl⟩ rfl hl.1 rfl (Nat.le_of_ble_eq_true rfl) dX5_nextOf_12 ⟨Nat.le_of_ble_eq_true rfl, Nat.le_of_ble_eq_true rfl⟩) (fun r_9 m_8 h H locs w => ?_)
    refine lv_iconst (v := 1) hx hb dX5_nextOf_15 (by decide) ?_
    refine lv_icmp_ne (tgt := 23) hx hb dX5_nextOf_16 (by decide) (fun c_10 => ?_) (fun c_10 => ?_)
    · have h := h.1 c_10
      refine lv_bipush (v := 11) hx hb dX5_nextOf_23 (by decide) ?_
      refine lv_goto (tgt := 40) hx hb dX5_nextOf_25 (by decide) ?_
      exact x_iret C w h dX5_nextOf_40
    · have h := h.2 c_10
      refine lv_iconst (v := 0) hx hb dX5_nextOf_19 (by decide) ?_
      refine lv_goto (tgt := 40) hx hb dX5_nextOf_20 (by decide) ?_
      exact x_iret C w h dX5_nextOf_40
abbrev rm_X5_yields : Room := { frames := 1, cells := 0, slots := 0, locals := 22 }
noncomputable def wp_X5_yields_B44 (v1 : Int32) (v2 : Int32) (s0 : Int32) (K : Int32 → Mem → Prop) (μ : Mem) : Prop :=
    (wp_X5_get v1 1 μ (fun r_7 m_6 => (wp_X5_get v2 1 m_6 (fun r_9 m_8 => ((r_7 = r_9 → K 0 m_8) ∧ (¬ r_7 = r_9 → ((s0 = 0 → K 0 m_8) ∧ (¬ s0 = 0 → (wp_X5_get v2 8 m_8 (fun r_13 m_12 => ((r_13 < (m_12 288 2) → K 0 m_12) ∧ (¬ r_13 < (m_12 288 2) → K 1 m_12))))))))))))
noncomputable def wp_X5_yields (a1 : Int32) (a2 : Int32) (μ : Mem) (K : Int32 → Mem → Prop) : Prop :=
    (wp_X5_get a1 0 μ (fun r_2 m_1 => (wp_X5_get a2 0 m_1 (fun r_4 m_3 => ((r_2 < r_4 → wp_X5_yields_B44 a1 a2 1 K m_3) ∧ (¬ r_2 < r_4 → (wp_X5_get a1 0 m_3 (fun r_16 m_15 => (wp_X5_get a2 0 m_15 (fun r_18 m_17 => ((¬ r_16 = r_18 → wp_X5_yields_B44 a1 a2 0 K m_17) ∧ (r_16 = r_18 → (wp_X5_get a2 1 m_17 (fun r_21 m_20 => ((¬ r_21 = 0 → wp_X5_yields_B44 a1 a2 0 K m_20) ∧ (r_21 = 0 → wp_X5_yields_B44 a1 a2 1 K m_20))))))))))))))))
set_option maxHeartbeats 4000000 in
set_option maxRecDepth 100000 in
theorem t_X5_yields_B44 {g : Gv} {ad : Nat → Nat} {l : Launch} {p : Program} {e : Env} {s : State} {m : MethodId} {args : Array Value} {below : List Frame} {meth : Method} {c : Code} (C : Cx g p s m args meth c "StairBowsModel" cX5_yields 4 (some .boolean)) {v1 : Int32} {v2 : Int32} {s0 : Int32}  {K : Int32 → Mem → Prop}    (μ : Mem) (H : Heap) (locs : List Loc) (ls : Array Slot) (h : wp_X5_yields_B44 v1 v2 s0 K μ) (w : Wd g ad μ (Aw ad s.heap.size) s H locs) (hl : lv_has ls 4 [(0, .ref (ad 287)), (1, .int v1), (2, .int v2)]) : W p l e rm_X5_yields s m args below meth c H locs 0 0 (MQ below (PostI g ad s.heap.size K) args s 0 0 (Aw ad s.heap.size)) (F0 m 44 ls [.int s0]) := by
  obtain ⟨hx, hb, hml, -, hts, hown, -, -, hN⟩ := id C
  unfold wp_X5_yields_B44 at h
  refine lv_istore_n (lv' := [(3, .int s0), (0, .ref (ad 287)), (1, .int v1), (2, .int v2)]) hx hb dX5_yields_44 rfl hl (by decide) rfl (fun ls hl => ?_)
  refine lv_aload_n hx hb dX5_yields_45 rfl (lv_at hl 1 rfl) ?_
  refine lv_iload_n hx hb dX5_yields_46 rfl (lv_at hl 2 rfl) ?_
  refine lv_iconst (v := 1) hx hb dX5_yields_47 (by decide) ?_
  refine x_calli C w (x_runV (i := 287) (As := [.int v1, .int 1]) (rest := []) C w (rfl : kd 287 = 7) (by decide) (ci := 5) rfl rfl rfl me_X5_get ml_StairBowsModel_41 (c_X5_get l g ad μ _ v1 1 h) ⟨rfl, rfl⟩ ⟨Nat.le_of_ble_eq_true rfl, Nat.le_of_ble_eq_true rfl⟩ rfl hl.1 rfl (Nat.le_of_ble_eq_true rfl) dX5_yields_48 ⟨Nat.le_of_ble_eq_true rfl, Nat.le_of_ble_eq_true rfl⟩) (fun r_7 m_6 h H locs w => ?_)
  refine lv_aload_n hx hb dX5_yields_51 rfl (lv_at hl 1 rfl) ?_
  refine lv_iload_n hx hb dX5_yields_52 rfl (lv_at hl 3 rfl) ?_
  refine lv_iconst (v := 1) hx hb dX5_yields_53 (by decide) ?_
  refine x_calli C w (x_runV (i := 287) (As := [.int v2, .int 1]) (rest := [.int r_7]) C w (rfl : kd 287 = 7) (by decide) (ci := 5) rfl rfl rfl me_X5_get ml_StairBowsModel_41 (c_X5_get l g ad m_6 _ v2 1 h) ⟨rfl, rfl⟩ ⟨Nat.le_of_ble_eq_true rfl, Nat.le_of_ble_eq_true rfl⟩ rfl hl.1 rfl (Nat.le_of_ble_eq_true rfl) dX5_yields_54 ⟨Nat.le_of_ble_eq_true rfl, Nat.le_of_ble_eq_true rfl⟩) (fun r_9 m_8 h H locs w => ?_)
  refine lv_icmp_eq (tgt := 84) hx hb dX5_yields_57 (by decide) (fun c_10 => ?_) (fun c_10 => ?_)
  · have h := h.1 c_10
    refine lv_iconst (v := 0) hx hb dX5_yields_84 (by decide) ?_
    exact x_zret C w (show bz 0 from Or.inl rfl) h dX5_yields_85
  · have h := h.2 c_10
    refine lv_iload_n hx hb dX5_yields_60 rfl (lv_at hl 0 rfl) ?_
    refine lv_if_eq (tgt := 84) hx hb dX5_yields_61 (by decide) (fun c_11 => ?_) (fun c_11 => ?_)
    · have h := h.1 c_11
      refine lv_iconst (v := 0) hx hb dX5_yields_84 (by decide) ?_
      exact x_zret C w (show bz 0 from Or.inl rfl) h dX5_yields_85
    · have h := h.2 c_11
      refine lv_aload_n hx hb dX5_yields_64 rfl (lv_at hl 1 rfl) ?_
      refine lv_iload_n hx hb dX5_yields_65 rfl (lv_at hl 3 rfl) ?_
      refine lv_bipush (v := 8) hx hb dX5_yields_66 (by decide) ?_
      refine x_calli C w (x_runV (i := 287) (As := [.int v2, .int 8]) (rest := []) C w (rfl : kd 287 = 7) (by decide) (ci := 5) rfl rfl rfl me_X5_get ml_StairBowsModel_41 (c_X5_get l g ad m_8 _ v2 8 h) ⟨rfl, rfl⟩ ⟨Nat.le_of_ble_eq_true rfl, Nat.le_of_ble_eq_true rfl⟩ rfl hl.1 rfl (Nat.le_of_ble_eq_true rfl) dX5_yields_68 ⟨Nat.le_of_ble_eq_true rfl, Nat.le_of_ble_eq_true rfl⟩) (fun r_13 m_12 h H locs w => ?_)
      refine lv_aload_n hx hb dX5_yields_71 rfl (lv_at hl 1 rfl) ?_
      refine x_getM C w (k := 0) (v := .ref (ad 288)) (by decide) rfl mf_StairBowsModel_7 dX5_yields_72 ?_
      refine lv_iconst (v := 2) hx hb dX5_yields_75 (by decide) ?_
      refine x_iald C w (i := 288) (K := 20) (j := 2) (n := 225) (jn := 2) rfl (rfl : kd 288 = 20) (by decide) rfl (show vp_in 2 225 from vp_lit (by decide) (by decide)) dX5_yields_76 ?_
      refine lv_icmp_lt (tgt := 84) hx hb dX5_yields_77 (by decide) (fun c_14 => ?_) (fun c_14 => ?_)
      · have h := h.1 c_14
        refine lv_iconst (v := 0) hx hb dX5_yields_84 (by decide) ?_
        exact x_zret C w (show bz 0 from Or.inl rfl) h dX5_yields_85
      · have h := h.2 c_14
        refine lv_iconst (v := 1) hx hb dX5_yields_80 (by decide) ?_
        refine lv_goto (tgt := 85) hx hb dX5_yields_81 (by decide) ?_
        exact x_zret C w (show bz 1 from Or.inr rfl) h dX5_yields_85
set_option maxHeartbeats 4000000 in
set_option maxRecDepth 100000 in
theorem c_X5_yields (l : Launch) (g : Gv) (ad : Nat → Nat) (μ : Mem) (sz : Nat) (a1 : Int32) (a2 : Int32) {K : Int32 → Mem → Prop} (h : wp_X5_yields a1 a2 μ K) : Met l yX5_yields (wX yX5_yields cX5_yields 4 (some .boolean)) rm_X5_yields (Pre g ad μ sz [.ref (ad 287), .int a1, .int a2]) (PostI g ad sz K) 0 0 (Aw ad sz) := by
  refine Met.ofW (cc := cX5_yields) (maxL := 4) (ret := (some .boolean)) (by decide) rfl ?_
  intro p e s m args below meth c s₁ B hml hv
  obtain ⟨rfl, rfl, C, w⟩ := x_start B hml hv
  obtain ⟨hx, hb, hml, -, hts, hown, -, -, hN⟩ := id C
  have hl := lv_entry ([.ref (ad 287), .int a1, .int a2]) (n := 4) (Nat.le_of_ble_eq_true rfl)
  rw [lg_entry_eq]
  generalize (lg_sl ([.ref (ad 287), .int a1, .int a2]) ++ List.replicate (4 - (lg_sl ([.ref (ad 287), .int a1, .int a2])).length) Slot.unset).toArray = ls at hl ⊢
  have hl : lv_has ls 4 [(0, .ref (ad 287)), (1, .int a1), (2, .int a2)] := hl
  show W p l e rm_X5_yields s m _ below meth c s.heap [] 0 0 _ _
  unfold wp_X5_yields at h
  refine lv_aload_n hx hb dX5_yields_0 rfl (lv_at hl 0 rfl) ?_
  refine lv_iload_n hx hb dX5_yields_1 rfl (lv_at hl 1 rfl) ?_
  refine lv_iconst (v := 0) hx hb dX5_yields_2 (by decide) ?_
  refine x_calli C w (x_runV (i := 287) (As := [.int a1, .int 0]) (rest := []) C w (rfl : kd 287 = 7) (by decide) (ci := 5) rfl rfl rfl me_X5_get ml_StairBowsModel_41 (c_X5_get l g ad μ _ a1 0 h) ⟨rfl, rfl⟩ ⟨Nat.le_of_ble_eq_true rfl, Nat.le_of_ble_eq_true rfl⟩ rfl hl.1 rfl (Nat.le_of_ble_eq_true rfl) dX5_yields_3 ⟨Nat.le_of_ble_eq_true rfl, Nat.le_of_ble_eq_true rfl⟩) (fun r_2 m_1 h H locs w => ?_)
  refine lv_aload_n hx hb dX5_yields_6 rfl (lv_at hl 0 rfl) ?_
  refine lv_iload_n hx hb dX5_yields_7 rfl (lv_at hl 2 rfl) ?_
  refine lv_iconst (v := 0) hx hb dX5_yields_8 (by decide) ?_
  refine x_calli C w (x_runV (i := 287) (As := [.int a2, .int 0]) (rest := [.int r_2]) C w (rfl : kd 287 = 7) (by decide) (ci := 5) rfl rfl rfl me_X5_get ml_StairBowsModel_41 (c_X5_get l g ad m_1 _ a2 0 h) ⟨rfl, rfl⟩ ⟨Nat.le_of_ble_eq_true rfl, Nat.le_of_ble_eq_true rfl⟩ rfl hl.1 rfl (Nat.le_of_ble_eq_true rfl) dX5_yields_9 ⟨Nat.le_of_ble_eq_true rfl, Nat.le_of_ble_eq_true rfl⟩) (fun r_4 m_3 h H locs w => ?_)
  refine lv_icmp_lt (tgt := 39) hx hb dX5_yields_12 (by decide) (fun c_5 => ?_) (fun c_5 => ?_)
  · have h := h.1 c_5
    refine lv_iconst (v := 1) hx hb dX5_yields_39 (by decide) ?_
    refine lv_goto (tgt := 44) hx hb dX5_yields_40 (by decide) ?_
    exact t_X5_yields_B44 C m_3 _ _ _ h w (lv_sub hl [0, 1, 2] rfl)
  · have h := h.2 c_5
    refine lv_aload_n hx hb dX5_yields_15 rfl (lv_at hl 0 rfl) ?_
    refine lv_iload_n hx hb dX5_yields_16 rfl (lv_at hl 1 rfl) ?_
    refine lv_iconst (v := 0) hx hb dX5_yields_17 (by decide) ?_
    refine x_calli C w (x_runV (i := 287) (As := [.int a1, .int 0]) (rest := []) C w (rfl : kd 287 = 7) (by decide) (ci := 5) rfl rfl rfl me_X5_get ml_StairBowsModel_41 (c_X5_get l g ad m_3 _ a1 0 h) ⟨rfl, rfl⟩ ⟨Nat.le_of_ble_eq_true rfl, Nat.le_of_ble_eq_true rfl⟩ rfl hl.1 rfl (Nat.le_of_ble_eq_true rfl) dX5_yields_18 ⟨Nat.le_of_ble_eq_true rfl, Nat.le_of_ble_eq_true rfl⟩) (fun r_16 m_15 h H locs w => ?_)
    refine lv_aload_n hx hb dX5_yields_21 rfl (lv_at hl 0 rfl) ?_
    refine lv_iload_n hx hb dX5_yields_22 rfl (lv_at hl 2 rfl) ?_
    refine lv_iconst (v := 0) hx hb dX5_yields_23 (by decide) ?_
    refine x_calli C w (x_runV (i := 287) (As := [.int a2, .int 0]) (rest := [.int r_16]) C w (rfl : kd 287 = 7) (by decide) (ci := 5) rfl rfl rfl me_X5_get ml_StairBowsModel_41 (c_X5_get l g ad m_15 _ a2 0 h) ⟨rfl, rfl⟩ ⟨Nat.le_of_ble_eq_true rfl, Nat.le_of_ble_eq_true rfl⟩ rfl hl.1 rfl (Nat.le_of_ble_eq_true rfl) dX5_yields_24 ⟨Nat.le_of_ble_eq_true rfl, Nat.le_of_ble_eq_true rfl⟩) (fun r_18 m_17 h H locs w => ?_)
    refine lv_icmp_ne (tgt := 43) hx hb dX5_yields_27 (by decide) (fun c_19 => ?_) (fun c_19 => ?_)
    · have h := h.1 c_19
      refine lv_iconst (v := 0) hx hb dX5_yields_43 (by decide) ?_
      exact t_X5_yields_B44 C m_17 _ _ _ h w (lv_sub hl [0, 1, 2] rfl)
    · have h := h.2 c_19
      refine lv_aload_n hx hb dX5_yields_30 rfl (lv_at hl 0 rfl) ?_
      refine lv_iload_n hx hb dX5_yields_31 rfl (lv_at hl 2 rfl) ?_
      refine lv_iconst (v := 1) hx hb dX5_yields_32 (by decide) ?_
      refine x_calli C w (x_runV (i := 287) (As := [.int a2, .int 1]) (rest := []) C w (rfl : kd 287 = 7) (by decide) (ci := 5) rfl rfl rfl me_X5_get ml_StairBowsModel_41 (c_X5_get l g ad m_17 _ a2 1 h) ⟨rfl, rfl⟩ ⟨Nat.le_of_ble_eq_true rfl, Nat.le_of_ble_eq_true rfl⟩ rfl hl.1 rfl (Nat.le_of_ble_eq_true rfl) dX5_yields_33 ⟨Nat.le_of_ble_eq_true rfl, Nat.le_of_ble_eq_true rfl⟩) (fun r_21 m_20 h H locs w => ?_)
      refine lv_if_ne (tgt := 43) hx hb dX5_yields_36 (by decide) (fun c_22 => ?_) (fun c_22 => ?_)
      · have h := h.1 c_22
        refine lv_iconst (v := 0) hx hb dX5_yields_43 (by decide) ?_
        exact t_X5_yields_B44 C m_20 _ _ _ h w (lv_sub hl [0, 1, 2] rfl)
      · have h := h.2 c_22
        refine lv_iconst (v := 1) hx hb dX5_yields_39 (by decide) ?_
        refine lv_goto (tgt := 44) hx hb dX5_yields_40 (by decide) ?_
        exact t_X5_yields_B44 C m_20 _ _ _ h w (lv_sub hl [0, 1, 2] rfl)
abbrev rm_X5_yielder : Room := { frames := 2, cells := 0, slots := 0, locals := 45 }
noncomputable def wp_X5_yielder_L6 (v1 : Int32) (v2 : Int32) (K : Int32 → Mem → Prop) (n : Nat) : Int32 → Int32 → Mem → Prop :=
  Nat.rec (motive := fun _ => Int32 → Int32 → Mem → Prop) (fun _ _ _ => False) (fun _ ih v3 v4 μ =>
    (((μ 288 4) ≤ v4 → K v3 μ) ∧ (¬ (μ 288 4) ≤ v4 → (wp_X5_isAt v4 v1 μ (fun r_3 m_2 => ((r_3 = 0 → ih v3 (v4 + 1) m_2) ∧ (¬ r_3 = 0 → (wp_X5_yields v4 v2 m_2 (fun r_6 m_5 => ((r_6 = 0 → ih v3 (v4 + 1) m_5) ∧ (¬ r_6 = 0 → ((v3 = (-6) → ih v4 (v4 + 1) m_5) ∧ (¬ v3 = (-6) → (wp_X5_get v4 0 m_5 (fun r_10 m_9 => (wp_X5_get v3 0 m_9 (fun r_12 m_11 => ((r_12 ≤ r_10 → ih v3 (v4 + 1) m_11) ∧ (¬ r_12 ≤ r_10 → ih v4 (v4 + 1) m_11))))))))))))))))))) n
theorem wp_X5_yielder_L6_s (v1 : Int32) (v2 : Int32) (K : Int32 → Mem → Prop) (n : Nat) (v3 : Int32) (v4 : Int32) (μ : Mem) : wp_X5_yielder_L6 v1 v2 K (n + 1) v3 v4 μ = (
    let ih := wp_X5_yielder_L6 v1 v2 K n
    (((μ 288 4) ≤ v4 → K v3 μ) ∧ (¬ (μ 288 4) ≤ v4 → (wp_X5_isAt v4 v1 μ (fun r_3 m_2 => ((r_3 = 0 → ih v3 (v4 + 1) m_2) ∧ (¬ r_3 = 0 → (wp_X5_yields v4 v2 m_2 (fun r_6 m_5 => ((r_6 = 0 → ih v3 (v4 + 1) m_5) ∧ (¬ r_6 = 0 → ((v3 = (-6) → ih v4 (v4 + 1) m_5) ∧ (¬ v3 = (-6) → (wp_X5_get v4 0 m_5 (fun r_10 m_9 => (wp_X5_get v3 0 m_9 (fun r_12 m_11 => ((r_12 ≤ r_10 → ih v3 (v4 + 1) m_11) ∧ (¬ r_12 ≤ r_10 → ih v4 (v4 + 1) m_11))))))))))))))))))) := rfl
noncomputable def wp_X5_yielder (a1 : Int32) (a2 : Int32) (μ : Mem) (K : Int32 → Mem → Prop) : Prop :=
    (∃ n, wp_X5_yielder_L6 a1 a2 K n (-6) 0 μ)
set_option maxHeartbeats 4000000 in
set_option maxRecDepth 100000 in
theorem t_X5_yielder_L6 {g : Gv} {ad : Nat → Nat} {l : Launch} {p : Program} {e : Env} {s : State} {m : MethodId} {args : Array Value} {below : List Frame} {meth : Method} {c : Code} (C : Cx g p s m args meth c "StairBowsModel" cX5_yielder 5 (some .int)) {v1 : Int32} {v2 : Int32}  {K : Int32 → Mem → Prop}    : ∀ (n : Nat) (v3 : Int32) (v4 : Int32) (μ : Mem) (H : Heap) (locs : List Loc) (ls : Array Slot), wp_X5_yielder_L6 v1 v2 K n v3 v4 μ → Wd g ad μ (Aw ad s.heap.size) s H locs → lv_has ls 5 [(0, .ref (ad 287)), (1, .int v1), (2, .int v2), (3, .int v3), (4, .int v4)] → W p l e rm_X5_yielder s m args below meth c H locs 0 0 (MQ below (PostI g ad s.heap.size K) args s 0 0 (Aw ad s.heap.size)) (F0 m 6 ls []) := by
  obtain ⟨hx, hb, hml, -, hts, hown, -, -, hN⟩ := id C
  intro n
  induction n with
  | zero =>
    intro v3 v4 μ H locs ls h w hl
    exact (show False from h).elim
  | succ n ih =>
    intro v3 v4 μ H locs ls h w hl
    rw [wp_X5_yielder_L6_s] at h
    dsimp only at h
    refine lv_iload hx hb dX5_yielder_6 (lv_at hl 4 rfl) ?_
    refine lv_aload_n hx hb dX5_yielder_8 rfl (lv_at hl 0 rfl) ?_
    refine x_getM C w (k := 0) (v := .ref (ad 288)) (by decide) rfl mf_StairBowsModel_7 dX5_yielder_9 ?_
    refine lv_iconst (v := 4) hx hb dX5_yielder_12 (by decide) ?_
    refine x_iald C w (i := 288) (K := 20) (j := 4) (n := 225) (jn := 4) rfl (rfl : kd 288 = 20) (by decide) rfl (show vp_in 4 225 from vp_lit (by decide) (by decide)) dX5_yielder_13 ?_
    refine lv_icmp_ge (tgt := 72) hx hb dX5_yielder_14 (by decide) (fun c_1 => ?_) (fun c_1 => ?_)
    · have h := h.1 c_1
      refine lv_iload_n hx hb dX5_yielder_72 rfl (lv_at hl 3 rfl) ?_
      exact x_iret C w h dX5_yielder_73
    · have h := h.2 c_1
      refine lv_aload_n hx hb dX5_yielder_17 rfl (lv_at hl 0 rfl) ?_
      refine lv_iload hx hb dX5_yielder_18 (lv_at hl 4 rfl) ?_
      refine lv_iload_n hx hb dX5_yielder_20 rfl (lv_at hl 1 rfl) ?_
      refine x_calli C w (x_runV (i := 287) (As := [.int v4, .int v1]) (rest := []) C w (rfl : kd 287 = 7) (by decide) (ci := 5) rfl rfl rfl me_X5_isAt ml_StairBowsModel_45 (c_X5_isAt l g ad μ _ v4 v1 h) ⟨rfl, rfl⟩ ⟨Nat.le_of_ble_eq_true rfl, Nat.le_of_ble_eq_true rfl⟩ rfl hl.1 rfl (Nat.le_of_ble_eq_true rfl) dX5_yielder_21 ⟨Nat.le_of_ble_eq_true rfl, Nat.le_of_ble_eq_true rfl⟩) (fun r_3 m_2 h H locs w => ?_)
      refine lv_if_eq (tgt := 66) hx hb dX5_yielder_24 (by decide) (fun c_4 => ?_) (fun c_4 => ?_)
      · have h := h.1 c_4
        refine lv_iinc (v := (v4 + 1)) (lv' := [(4, .int (v4 + 1)), (0, .ref (ad 287)), (1, .int v1), (2, .int v2), (3, .int v3)]) hx hb dX5_yielder_66 hl (k := 4) rfl rfl (by decide) rfl (fun ls hl => ?_)
        refine lv_goto (tgt := 6) hx hb dX5_yielder_69 (by decide) ?_
        exact ih v3 (v4 + 1) m_2 _ _ _ h w (lv_sub hl [1, 2, 3, 4, 0] rfl)
      · have h := h.2 c_4
        refine lv_aload_n hx hb dX5_yielder_27 rfl (lv_at hl 0 rfl) ?_
        refine lv_iload hx hb dX5_yielder_28 (lv_at hl 4 rfl) ?_
        refine lv_iload_n hx hb dX5_yielder_30 rfl (lv_at hl 2 rfl) ?_
        refine x_calli C w (x_runV (i := 287) (As := [.int v4, .int v2]) (rest := []) C w (rfl : kd 287 = 7) (by decide) (ci := 5) rfl rfl rfl me_X5_yields ml_StairBowsModel_60 (c_X5_yields l g ad m_2 _ v4 v2 h) ⟨rfl, rfl⟩ ⟨Nat.le_of_ble_eq_true rfl, Nat.le_of_ble_eq_true rfl⟩ rfl hl.1 rfl (Nat.le_of_ble_eq_true rfl) dX5_yielder_31 ⟨Nat.le_of_ble_eq_true rfl, Nat.le_of_ble_eq_true rfl⟩) (fun r_6 m_5 h H locs w => ?_)
        refine lv_if_eq (tgt := 66) hx hb dX5_yielder_34 (by decide) (fun c_7 => ?_) (fun c_7 => ?_)
        · have h := h.1 c_7
          refine lv_iinc (v := (v4 + 1)) (lv' := [(4, .int (v4 + 1)), (0, .ref (ad 287)), (1, .int v1), (2, .int v2), (3, .int v3)]) hx hb dX5_yielder_66 hl (k := 4) rfl rfl (by decide) rfl (fun ls hl => ?_)
          refine lv_goto (tgt := 6) hx hb dX5_yielder_69 (by decide) ?_
          exact ih v3 (v4 + 1) m_5 _ _ _ h w (lv_sub hl [1, 2, 3, 4, 0] rfl)
        · have h := h.2 c_7
          refine lv_iload_n hx hb dX5_yielder_37 rfl (lv_at hl 3 rfl) ?_
          refine lv_bipush (v := -6) hx hb dX5_yielder_38 (by decide) ?_
          refine lv_icmp_eq (tgt := 59) hx hb dX5_yielder_40 (by decide) (fun c_8 => ?_) (fun c_8 => ?_)
          · have h := h.1 c_8
            refine lv_iload hx hb dX5_yielder_59 (lv_at hl 4 rfl) ?_
            refine lv_goto (tgt := 65) hx hb dX5_yielder_61 (by decide) ?_
            refine lv_istore_n (lv' := [(3, .int v4), (0, .ref (ad 287)), (1, .int v1), (2, .int v2), (4, .int v4)]) hx hb dX5_yielder_65 rfl hl (by decide) rfl (fun ls hl => ?_)
            refine lv_iinc (v := (v4 + 1)) (lv' := [(4, .int (v4 + 1)), (3, .int v4), (0, .ref (ad 287)), (1, .int v1), (2, .int v2)]) hx hb dX5_yielder_66 hl (k := 4) rfl rfl (by decide) rfl (fun ls hl => ?_)
            refine lv_goto (tgt := 6) hx hb dX5_yielder_69 (by decide) ?_
            exact ih v4 (v4 + 1) m_5 _ _ _ h w (lv_sub hl [2, 3, 4, 1, 0] rfl)
          · have h := h.2 c_8
            refine lv_aload_n hx hb dX5_yielder_43 rfl (lv_at hl 0 rfl) ?_
            refine lv_iload hx hb dX5_yielder_44 (lv_at hl 4 rfl) ?_
            refine lv_iconst (v := 0) hx hb dX5_yielder_46 (by decide) ?_
            refine x_calli C w (x_runV (i := 287) (As := [.int v4, .int 0]) (rest := []) C w (rfl : kd 287 = 7) (by decide) (ci := 5) rfl rfl rfl me_X5_get ml_StairBowsModel_41 (c_X5_get l g ad m_5 _ v4 0 h) ⟨rfl, rfl⟩ ⟨Nat.le_of_ble_eq_true rfl, Nat.le_of_ble_eq_true rfl⟩ rfl hl.1 rfl (Nat.le_of_ble_eq_true rfl) dX5_yielder_47 ⟨Nat.le_of_ble_eq_true rfl, Nat.le_of_ble_eq_true rfl⟩) (fun r_10 m_9 h H locs w => ?_)
            refine lv_aload_n hx hb dX5_yielder_50 rfl (lv_at hl 0 rfl) ?_
            refine lv_iload_n hx hb dX5_yielder_51 rfl (lv_at hl 3 rfl) ?_
            refine lv_iconst (v := 0) hx hb dX5_yielder_52 (by decide) ?_
            refine x_calli C w (x_runV (i := 287) (As := [.int v3, .int 0]) (rest := [.int r_10]) C w (rfl : kd 287 = 7) (by decide) (ci := 5) rfl rfl rfl me_X5_get ml_StairBowsModel_41 (c_X5_get l g ad m_9 _ v3 0 h) ⟨rfl, rfl⟩ ⟨Nat.le_of_ble_eq_true rfl, Nat.le_of_ble_eq_true rfl⟩ rfl hl.1 rfl (Nat.le_of_ble_eq_true rfl) dX5_yielder_53 ⟨Nat.le_of_ble_eq_true rfl, Nat.le_of_ble_eq_true rfl⟩) (fun r_12 m_11 h H locs w => ?_)
            refine lv_icmp_ge (tgt := 64) hx hb dX5_yielder_56 (by decide) (fun c_13 => ?_) (fun c_13 => ?_)
            · have h := h.1 c_13
              refine lv_iload_n hx hb dX5_yielder_64 rfl (lv_at hl 3 rfl) ?_
              refine lv_istore_n (lv' := [(3, .int v3), (0, .ref (ad 287)), (1, .int v1), (2, .int v2), (4, .int v4)]) hx hb dX5_yielder_65 rfl hl (by decide) rfl (fun ls hl => ?_)
              refine lv_iinc (v := (v4 + 1)) (lv' := [(4, .int (v4 + 1)), (3, .int v3), (0, .ref (ad 287)), (1, .int v1), (2, .int v2)]) hx hb dX5_yielder_66 hl (k := 4) rfl rfl (by decide) rfl (fun ls hl => ?_)
              refine lv_goto (tgt := 6) hx hb dX5_yielder_69 (by decide) ?_
              exact ih v3 (v4 + 1) m_11 _ _ _ h w (lv_sub hl [2, 3, 4, 1, 0] rfl)
            · have h := h.2 c_13
              refine lv_iload hx hb dX5_yielder_59 (lv_at hl 4 rfl) ?_
              refine lv_goto (tgt := 65) hx hb dX5_yielder_61 (by decide) ?_
              refine lv_istore_n (lv' := [(3, .int v4), (0, .ref (ad 287)), (1, .int v1), (2, .int v2), (4, .int v4)]) hx hb dX5_yielder_65 rfl hl (by decide) rfl (fun ls hl => ?_)
              refine lv_iinc (v := (v4 + 1)) (lv' := [(4, .int (v4 + 1)), (3, .int v4), (0, .ref (ad 287)), (1, .int v1), (2, .int v2)]) hx hb dX5_yielder_66 hl (k := 4) rfl rfl (by decide) rfl (fun ls hl => ?_)
              refine lv_goto (tgt := 6) hx hb dX5_yielder_69 (by decide) ?_
              exact ih v4 (v4 + 1) m_11 _ _ _ h w (lv_sub hl [2, 3, 4, 1, 0] rfl)
set_option maxHeartbeats 4000000 in
set_option maxRecDepth 100000 in
theorem c_X5_yielder (l : Launch) (g : Gv) (ad : Nat → Nat) (μ : Mem) (sz : Nat) (a1 : Int32) (a2 : Int32) {K : Int32 → Mem → Prop} (h : wp_X5_yielder a1 a2 μ K) : Met l yX5_yielder (wX yX5_yielder cX5_yielder 5 (some .int)) rm_X5_yielder (Pre g ad μ sz [.ref (ad 287), .int a1, .int a2]) (PostI g ad sz K) 0 0 (Aw ad sz) := by
  refine Met.ofW (cc := cX5_yielder) (maxL := 5) (ret := (some .int)) (by decide) rfl ?_
  intro p e s m args below meth c s₁ B hml hv
  obtain ⟨rfl, rfl, C, w⟩ := x_start B hml hv
  obtain ⟨hx, hb, hml, -, hts, hown, -, -, hN⟩ := id C
  have hl := lv_entry ([.ref (ad 287), .int a1, .int a2]) (n := 5) (Nat.le_of_ble_eq_true rfl)
  rw [lg_entry_eq]
  generalize (lg_sl ([.ref (ad 287), .int a1, .int a2]) ++ List.replicate (5 - (lg_sl ([.ref (ad 287), .int a1, .int a2])).length) Slot.unset).toArray = ls at hl ⊢
  have hl : lv_has ls 5 [(0, .ref (ad 287)), (1, .int a1), (2, .int a2)] := hl
  show W p l e rm_X5_yielder s m _ below meth c s.heap [] 0 0 _ _
  unfold wp_X5_yielder at h
  refine lv_bipush (v := -6) hx hb dX5_yielder_0 (by decide) ?_
  refine lv_istore_n (lv' := [(3, .int (-6)), (0, .ref (ad 287)), (1, .int a1), (2, .int a2)]) hx hb dX5_yielder_2 rfl hl (by decide) rfl (fun ls hl => ?_)
  refine lv_iconst (v := 0) hx hb dX5_yielder_3 (by decide) ?_
  refine lv_istore (lv' := [(4, .int 0), (3, .int (-6)), (0, .ref (ad 287)), (1, .int a1), (2, .int a2)]) hx hb dX5_yielder_4 hl (by decide) rfl (fun ls hl => ?_)
  obtain ⟨n_14, h⟩ := h
  exact t_X5_yielder_L6 C n_14 (-6) 0 μ _ _ _ h w (lv_sub hl [2, 3, 4, 1, 0] rfl)
abbrev rm_X5_ends : Room := { frames := 1, cells := 0, slots := 0, locals := 23 }
noncomputable def wp_X5_ends (a1 : Int32) (a2 : Int32) (μ : Mem) (K : Mem → Prop) : Prop :=
    (wp_X5_lays a1 2 a2 μ (fun m_1 => (wp_X5_lays a1 3 (-6) m_1 (fun m_2 => (wp_X5_lays a1 7 ((m_2 288 3) + 1) m_2 (fun m_3 => (wp_X5_lays a1 8 0 m_3 (fun m_4 => ((¬ a2 = 2 → (vp_in a1 24 ∧ (∀ m_6, m_6 = up2 m_4 293 a1.toNatClampNeg 5 → K m_6))) ∧ (a2 = 2 → (vp_in a1 24 ∧ (∀ m_8, m_8 = up2 m_4 293 a1.toNatClampNeg 2 → K m_8))))))))))))
set_option maxHeartbeats 4000000 in
set_option maxRecDepth 100000 in
theorem c_X5_ends (l : Launch) (g : Gv) (ad : Nat → Nat) (μ : Mem) (sz : Nat) (a1 : Int32) (a2 : Int32) {K : Mem → Prop} (h : wp_X5_ends a1 a2 μ K) : Met l yX5_ends (wX yX5_ends cX5_ends 3 none) rm_X5_ends (Pre g ad μ sz [.ref (ad 287), .int a1, .int a2]) (PostV g ad sz K) 0 0 (Aw ad sz) := by
  refine Met.ofW (cc := cX5_ends) (maxL := 3) (ret := none) (by decide) rfl ?_
  intro p e s m args below meth c s₁ B hml hv
  obtain ⟨rfl, rfl, C, w⟩ := x_start B hml hv
  obtain ⟨hx, hb, hml, -, hts, hown, -, -, hN⟩ := id C
  have hl := lv_entry ([.ref (ad 287), .int a1, .int a2]) (n := 3) (Nat.le_of_ble_eq_true rfl)
  rw [lg_entry_eq]
  generalize (lg_sl ([.ref (ad 287), .int a1, .int a2]) ++ List.replicate (3 - (lg_sl ([.ref (ad 287), .int a1, .int a2])).length) Slot.unset).toArray = ls at hl ⊢
  have hl : lv_has ls 3 [(0, .ref (ad 287)), (1, .int a1), (2, .int a2)] := hl
  show W p l e rm_X5_ends s m _ below meth c s.heap [] 0 0 _ _
  unfold wp_X5_ends at h
  refine lv_aload_n hx hb dX5_ends_0 rfl (lv_at hl 0 rfl) ?_
  refine lv_iload_n hx hb dX5_ends_1 rfl (lv_at hl 1 rfl) ?_
  refine lv_iconst (v := 2) hx hb dX5_ends_2 (by decide) ?_
  refine lv_iload_n hx hb dX5_ends_3 rfl (lv_at hl 2 rfl) ?_
  refine x_callv C w (x_runV (i := 287) (As := [.int a1, .int 2, .int a2]) (rest := []) C w (rfl : kd 287 = 7) (by decide) (ci := 5) rfl rfl rfl me_X5_lays ml_StairBowsModel_63 (c_X5_lays l g ad μ _ a1 2 a2 h) ⟨rfl, rfl⟩ ⟨Nat.le_of_ble_eq_true rfl, Nat.le_of_ble_eq_true rfl⟩ rfl hl.1 rfl (Nat.le_of_ble_eq_true rfl) dX5_ends_4 ⟨Nat.le_of_ble_eq_true rfl, Nat.le_of_ble_eq_true rfl⟩) (fun m_1 h H locs w => ?_)
  refine lv_aload_n hx hb dX5_ends_7 rfl (lv_at hl 0 rfl) ?_
  refine lv_iload_n hx hb dX5_ends_8 rfl (lv_at hl 1 rfl) ?_
  refine lv_iconst (v := 3) hx hb dX5_ends_9 (by decide) ?_
  refine lv_bipush (v := -6) hx hb dX5_ends_10 (by decide) ?_
  refine x_callv C w (x_runV (i := 287) (As := [.int a1, .int 3, .int (-6)]) (rest := []) C w (rfl : kd 287 = 7) (by decide) (ci := 5) rfl rfl rfl me_X5_lays ml_StairBowsModel_63 (c_X5_lays l g ad m_1 _ a1 3 (-6) h) ⟨rfl, rfl⟩ ⟨Nat.le_of_ble_eq_true rfl, Nat.le_of_ble_eq_true rfl⟩ rfl hl.1 rfl (Nat.le_of_ble_eq_true rfl) dX5_ends_12 ⟨Nat.le_of_ble_eq_true rfl, Nat.le_of_ble_eq_true rfl⟩) (fun m_2 h H locs w => ?_)
  refine lv_aload_n hx hb dX5_ends_15 rfl (lv_at hl 0 rfl) ?_
  refine lv_iload_n hx hb dX5_ends_16 rfl (lv_at hl 1 rfl) ?_
  refine lv_bipush (v := 7) hx hb dX5_ends_17 (by decide) ?_
  refine lv_aload_n hx hb dX5_ends_19 rfl (lv_at hl 0 rfl) ?_
  refine x_getM C w (k := 0) (v := .ref (ad 288)) (by decide) rfl mf_StairBowsModel_7 dX5_ends_20 ?_
  refine lv_iconst (v := 3) hx hb dX5_ends_23 (by decide) ?_
  refine x_iald C w (i := 288) (K := 20) (j := 3) (n := 225) (jn := 3) rfl (rfl : kd 288 = 20) (by decide) rfl (show vp_in 3 225 from vp_lit (by decide) (by decide)) dX5_ends_24 ?_
  refine lv_iconst (v := 1) hx hb dX5_ends_25 (by decide) ?_
  refine lv_iadd hx hb dX5_ends_26 ?_
  refine x_callv C w (x_runV (i := 287) (As := [.int a1, .int 7, .int ((m_2 288 3) + 1)]) (rest := []) C w (rfl : kd 287 = 7) (by decide) (ci := 5) rfl rfl rfl me_X5_lays ml_StairBowsModel_63 (c_X5_lays l g ad m_2 _ a1 7 ((m_2 288 3) + 1) h) ⟨rfl, rfl⟩ ⟨Nat.le_of_ble_eq_true rfl, Nat.le_of_ble_eq_true rfl⟩ rfl hl.1 rfl (Nat.le_of_ble_eq_true rfl) dX5_ends_27 ⟨Nat.le_of_ble_eq_true rfl, Nat.le_of_ble_eq_true rfl⟩) (fun m_3 h H locs w => ?_)
  refine lv_aload_n hx hb dX5_ends_30 rfl (lv_at hl 0 rfl) ?_
  refine lv_iload_n hx hb dX5_ends_31 rfl (lv_at hl 1 rfl) ?_
  refine lv_bipush (v := 8) hx hb dX5_ends_32 (by decide) ?_
  refine lv_iconst (v := 0) hx hb dX5_ends_34 (by decide) ?_
  refine x_callv C w (x_runV (i := 287) (As := [.int a1, .int 8, .int 0]) (rest := []) C w (rfl : kd 287 = 7) (by decide) (ci := 5) rfl rfl rfl me_X5_lays ml_StairBowsModel_63 (c_X5_lays l g ad m_3 _ a1 8 0 h) ⟨rfl, rfl⟩ ⟨Nat.le_of_ble_eq_true rfl, Nat.le_of_ble_eq_true rfl⟩ rfl hl.1 rfl (Nat.le_of_ble_eq_true rfl) dX5_ends_35 ⟨Nat.le_of_ble_eq_true rfl, Nat.le_of_ble_eq_true rfl⟩) (fun m_4 h H locs w => ?_)
  refine lv_aload_n hx hb dX5_ends_38 rfl (lv_at hl 0 rfl) ?_
  refine x_getM C w (k := 6) (v := .ref (ad 293)) (by decide) rfl mf_StairBowsModel_25 dX5_ends_39 ?_
  refine lv_iload_n hx hb dX5_ends_42 rfl (lv_at hl 1 rfl) ?_
  refine lv_iload_n hx hb dX5_ends_43 rfl (lv_at hl 2 rfl) ?_
  refine lv_iconst (v := 2) hx hb dX5_ends_44 (by decide) ?_
  refine lv_icmp_ne (tgt := 52) hx hb dX5_ends_45 (by decide) (fun c_5 => ?_) (fun c_5 => ?_)
  · have h := h.1 c_5
    refine lv_iconst (v := 5) hx hb dX5_ends_52 (by decide) ?_
    refine x_iast C w (i := 293) (K := 25) (n := 24) (jn := a1.toNatClampNeg) rfl (rfl : kd 293 = 25) (by decide) (fun _ => rfl) (show vp_in a1 24 from h.1) dX5_ends_53 (fun m_6 e_7 H locs w => ?_)
    have h := h.2 m_6 e_7
    exact x_vret C w h dX5_ends_54
  · have h := h.2 c_5
    refine lv_iconst (v := 2) hx hb dX5_ends_48 (by decide) ?_
    refine lv_goto (tgt := 53) hx hb dX5_ends_49 (by decide) ?_
    refine x_iast C w (i := 293) (K := 25) (n := 24) (jn := a1.toNatClampNeg) rfl (rfl : kd 293 = 25) (by decide) (fun _ => rfl) (show vp_in a1 24 from h.1) dX5_ends_53 (fun m_8 e_9 H locs w => ?_)
    have h := h.2 m_8 e_9
    exact x_vret C w h dX5_ends_54
abbrev rm_X5_goesTo : Room := { frames := 1, cells := 0, slots := 0, locals := 23 }
noncomputable def wp_X5_goesTo (a1 : Int32) (a2 : Int32) (a3 : Int32) (μ : Mem) (K : Mem → Prop) : Prop :=
    (wp_X5_lays a1 2 1 μ (fun m_1 => (wp_X5_lays a1 3 a2 m_1 (fun m_2 => (wp_X5_lays a1 8 0 m_2 (fun m_3 => (vp_in a1 24 ∧ (∀ m_4, m_4 = up2 m_3 293 a1.toNatClampNeg a3 → K m_4))))))))
set_option maxHeartbeats 4000000 in
set_option maxRecDepth 100000 in
theorem c_X5_goesTo (l : Launch) (g : Gv) (ad : Nat → Nat) (μ : Mem) (sz : Nat) (a1 : Int32) (a2 : Int32) (a3 : Int32) {K : Mem → Prop} (h : wp_X5_goesTo a1 a2 a3 μ K) : Met l yX5_goesTo (wX yX5_goesTo cX5_goesTo 4 none) rm_X5_goesTo (Pre g ad μ sz [.ref (ad 287), .int a1, .int a2, .int a3]) (PostV g ad sz K) 0 0 (Aw ad sz) := by
  refine Met.ofW (cc := cX5_goesTo) (maxL := 4) (ret := none) (by decide) rfl ?_
  intro p e s m args below meth c s₁ B hml hv
  obtain ⟨rfl, rfl, C, w⟩ := x_start B hml hv
  obtain ⟨hx, hb, hml, -, hts, hown, -, -, hN⟩ := id C
  have hl := lv_entry ([.ref (ad 287), .int a1, .int a2, .int a3]) (n := 4) (Nat.le_of_ble_eq_true rfl)
  rw [lg_entry_eq]
  generalize (lg_sl ([.ref (ad 287), .int a1, .int a2, .int a3]) ++ List.replicate (4 - (lg_sl ([.ref (ad 287), .int a1, .int a2, .int a3])).length) Slot.unset).toArray = ls at hl ⊢
  have hl : lv_has ls 4 [(0, .ref (ad 287)), (1, .int a1), (2, .int a2), (3, .int a3)] := hl
  show W p l e rm_X5_goesTo s m _ below meth c s.heap [] 0 0 _ _
  unfold wp_X5_goesTo at h
  refine lv_aload_n hx hb dX5_goesTo_0 rfl (lv_at hl 0 rfl) ?_
  refine lv_iload_n hx hb dX5_goesTo_1 rfl (lv_at hl 1 rfl) ?_
  refine lv_iconst (v := 2) hx hb dX5_goesTo_2 (by decide) ?_
  refine lv_iconst (v := 1) hx hb dX5_goesTo_3 (by decide) ?_
  refine x_callv C w (x_runV (i := 287) (As := [.int a1, .int 2, .int 1]) (rest := []) C w (rfl : kd 287 = 7) (by decide) (ci := 5) rfl rfl rfl me_X5_lays ml_StairBowsModel_63 (c_X5_lays l g ad μ _ a1 2 1 h) ⟨rfl, rfl⟩ ⟨Nat.le_of_ble_eq_true rfl, Nat.le_of_ble_eq_true rfl⟩ rfl hl.1 rfl (Nat.le_of_ble_eq_true rfl) dX5_goesTo_4 ⟨Nat.le_of_ble_eq_true rfl, Nat.le_of_ble_eq_true rfl⟩) (fun m_1 h H locs w => ?_)
  refine lv_aload_n hx hb dX5_goesTo_7 rfl (lv_at hl 0 rfl) ?_
  refine lv_iload_n hx hb dX5_goesTo_8 rfl (lv_at hl 1 rfl) ?_
  refine lv_iconst (v := 3) hx hb dX5_goesTo_9 (by decide) ?_
  refine lv_iload_n hx hb dX5_goesTo_10 rfl (lv_at hl 2 rfl) ?_
  refine x_callv C w (x_runV (i := 287) (As := [.int a1, .int 3, .int a2]) (rest := []) C w (rfl : kd 287 = 7) (by decide) (ci := 5) rfl rfl rfl me_X5_lays ml_StairBowsModel_63 (c_X5_lays l g ad m_1 _ a1 3 a2 h) ⟨rfl, rfl⟩ ⟨Nat.le_of_ble_eq_true rfl, Nat.le_of_ble_eq_true rfl⟩ rfl hl.1 rfl (Nat.le_of_ble_eq_true rfl) dX5_goesTo_11 ⟨Nat.le_of_ble_eq_true rfl, Nat.le_of_ble_eq_true rfl⟩) (fun m_2 h H locs w => ?_)
  refine lv_aload_n hx hb dX5_goesTo_14 rfl (lv_at hl 0 rfl) ?_
  refine lv_iload_n hx hb dX5_goesTo_15 rfl (lv_at hl 1 rfl) ?_
  refine lv_bipush (v := 8) hx hb dX5_goesTo_16 (by decide) ?_
  refine lv_iconst (v := 0) hx hb dX5_goesTo_18 (by decide) ?_
  refine x_callv C w (x_runV (i := 287) (As := [.int a1, .int 8, .int 0]) (rest := []) C w (rfl : kd 287 = 7) (by decide) (ci := 5) rfl rfl rfl me_X5_lays ml_StairBowsModel_63 (c_X5_lays l g ad m_2 _ a1 8 0 h) ⟨rfl, rfl⟩ ⟨Nat.le_of_ble_eq_true rfl, Nat.le_of_ble_eq_true rfl⟩ rfl hl.1 rfl (Nat.le_of_ble_eq_true rfl) dX5_goesTo_19 ⟨Nat.le_of_ble_eq_true rfl, Nat.le_of_ble_eq_true rfl⟩) (fun m_3 h H locs w => ?_)
  refine lv_aload_n hx hb dX5_goesTo_22 rfl (lv_at hl 0 rfl) ?_
  refine x_getM C w (k := 6) (v := .ref (ad 293)) (by decide) rfl mf_StairBowsModel_25 dX5_goesTo_23 ?_
  refine lv_iload_n hx hb dX5_goesTo_26 rfl (lv_at hl 1 rfl) ?_
  refine lv_iload_n hx hb dX5_goesTo_27 rfl (lv_at hl 3 rfl) ?_
  refine x_iast C w (i := 293) (K := 25) (n := 24) (jn := a1.toNatClampNeg) rfl (rfl : kd 293 = 25) (by decide) (fun _ => rfl) (show vp_in a1 24 from h.1) dX5_goesTo_28 (fun m_4 e_5 H locs w => ?_)
  have h := h.2 m_4 e_5
  exact x_vret C w h dX5_goesTo_29
abbrev rm_X5_makesWay : Room := { frames := 4, cells := 0, slots := 0, locals := 88 }
noncomputable def wp_X5_makesWay_B30 (v1 : Int32) (v2 : Int32) (v3 : Int32) (K : Int32 → Mem → Prop) (μ : Mem) : Prop :=
    (wp_X5_get v2 0 μ (fun r_9 m_8 => (wp_X5_get v1 0 m_8 (fun r_11 m_10 => (wp_X5_adds v1 6 ((μ 288 1) * ((r_9 - r_11) + 1)) m_10 (fun m_12 => (wp_X5_adds v1 5 1 m_12 (fun m_13 => (∀ m_14, m_14 = up2 m_13 288 6 ((m_13 288 6) + ((μ 288 1) * ((r_9 - r_11) + 1))) → (∀ m_16, m_16 = up2 m_14 288 7 ((m_14 288 7) + 1) → (wp_X5_isStep v3 m_16 (fun r_19 m_18 => ((r_19 = 0 → (wp_X5_ends v1 3 m_18 (fun m_21 => K 1 m_21))) ∧ (¬ r_19 = 0 → (wp_X5_goesTo v1 v3 4 m_18 (fun m_22 => K 1 m_22))))))))))))))))
noncomputable def wp_X5_makesWay (a1 : Int32) (a2 : Int32) (μ : Mem) (K : Int32 → Mem → Prop) : Prop :=
    (wp_X5_get a1 3 μ (fun r_2 m_1 => (wp_X5_way a2 m_1 (fun r_4 m_3 => (wp_X5_isStep (r_2 + r_4) m_3 (fun r_6 m_5 => ((r_6 = 0 → wp_X5_makesWay_B30 a1 a2 (r_2 + r_4) K m_5) ∧ (¬ r_6 = 0 → (wp_X5_roomAt (r_2 + r_4) m_5 (fun r_24 m_23 => ((0 < r_24 → wp_X5_makesWay_B30 a1 a2 (r_2 + r_4) K m_23) ∧ (¬ 0 < r_24 → K 0 m_23))))))))))))
set_option maxHeartbeats 4000000 in
set_option maxRecDepth 100000 in
theorem t_X5_makesWay_B30 {g : Gv} {ad : Nat → Nat} {l : Launch} {p : Program} {e : Env} {s : State} {m : MethodId} {args : Array Value} {below : List Frame} {meth : Method} {c : Code} (C : Cx g p s m args meth c "StairBowsModel" cX5_makesWay 5 (some .boolean)) {v1 : Int32} {v2 : Int32} {v3 : Int32}  {K : Int32 → Mem → Prop}    (μ : Mem) (H : Heap) (locs : List Loc) (ls : Array Slot) (h : wp_X5_makesWay_B30 v1 v2 v3 K μ) (w : Wd g ad μ (Aw ad s.heap.size) s H locs) (hl : lv_has ls 5 [(0, .ref (ad 287)), (1, .int v1), (2, .int v2), (3, .int v3)]) : W p l e rm_X5_makesWay s m args below meth c H locs 0 0 (MQ below (PostI g ad s.heap.size K) args s 0 0 (Aw ad s.heap.size)) (F0 m 30 ls []) := by
  obtain ⟨hx, hb, hml, -, hts, hown, -, -, hN⟩ := id C
  unfold wp_X5_makesWay_B30 at h
  refine lv_aload_n hx hb dX5_makesWay_30 rfl (lv_at hl 0 rfl) ?_
  refine x_getM C w (k := 0) (v := .ref (ad 288)) (by decide) rfl mf_StairBowsModel_7 dX5_makesWay_31 ?_
  refine lv_iconst (v := 1) hx hb dX5_makesWay_34 (by decide) ?_
  refine x_iald C w (i := 288) (K := 20) (j := 1) (n := 225) (jn := 1) rfl (rfl : kd 288 = 20) (by decide) rfl (show vp_in 1 225 from vp_lit (by decide) (by decide)) dX5_makesWay_35 ?_
  refine lv_aload_n hx hb dX5_makesWay_36 rfl (lv_at hl 0 rfl) ?_
  refine lv_iload_n hx hb dX5_makesWay_37 rfl (lv_at hl 2 rfl) ?_
  refine lv_iconst (v := 0) hx hb dX5_makesWay_38 (by decide) ?_
  refine x_calli C w (x_runV (i := 287) (As := [.int v2, .int 0]) (rest := [.int (μ 288 1)]) C w (rfl : kd 287 = 7) (by decide) (ci := 5) rfl rfl rfl me_X5_get ml_StairBowsModel_41 (c_X5_get l g ad μ _ v2 0 h) ⟨rfl, rfl⟩ ⟨Nat.le_of_ble_eq_true rfl, Nat.le_of_ble_eq_true rfl⟩ rfl hl.1 rfl (Nat.le_of_ble_eq_true rfl) dX5_makesWay_39 ⟨Nat.le_of_ble_eq_true rfl, Nat.le_of_ble_eq_true rfl⟩) (fun r_9 m_8 h H locs w => ?_)
  refine lv_aload_n hx hb dX5_makesWay_42 rfl (lv_at hl 0 rfl) ?_
  refine lv_iload_n hx hb dX5_makesWay_43 rfl (lv_at hl 1 rfl) ?_
  refine lv_iconst (v := 0) hx hb dX5_makesWay_44 (by decide) ?_
  refine x_calli C w (x_runV (i := 287) (As := [.int v1, .int 0]) (rest := [.int r_9, .int (μ 288 1)]) C w (rfl : kd 287 = 7) (by decide) (ci := 5) rfl rfl rfl me_X5_get ml_StairBowsModel_41 (c_X5_get l g ad m_8 _ v1 0 h) ⟨rfl, rfl⟩ ⟨Nat.le_of_ble_eq_true rfl, Nat.le_of_ble_eq_true rfl⟩ rfl hl.1 rfl (Nat.le_of_ble_eq_true rfl) dX5_makesWay_45 ⟨Nat.le_of_ble_eq_true rfl, Nat.le_of_ble_eq_true rfl⟩) (fun r_11 m_10 h H locs w => ?_)
  refine lv_isub hx hb dX5_makesWay_48 ?_
  refine lv_iconst (v := 1) hx hb dX5_makesWay_49 (by decide) ?_
  refine lv_iadd hx hb dX5_makesWay_50 ?_
  refine lv_imul hx hb dX5_makesWay_51 ?_
  refine lv_istore (lv' := [(4, .int ((μ 288 1) * ((r_9 - r_11) + 1))), (0, .ref (ad 287)), (1, .int v1), (2, .int v2), (3, .int v3)]) hx hb dX5_makesWay_52 hl (by decide) rfl (fun ls hl => ?_)
  refine lv_aload_n hx hb dX5_makesWay_54 rfl (lv_at hl 1 rfl) ?_
  refine lv_iload_n hx hb dX5_makesWay_55 rfl (lv_at hl 2 rfl) ?_
  refine lv_bipush (v := 6) hx hb dX5_makesWay_56 (by decide) ?_
  refine lv_iload hx hb dX5_makesWay_58 (lv_at hl 0 rfl) ?_
  refine x_callv C w (x_runV (i := 287) (As := [.int v1, .int 6, .int ((μ 288 1) * ((r_9 - r_11) + 1))]) (rest := []) C w (rfl : kd 287 = 7) (by decide) (ci := 5) rfl rfl rfl me_X5_adds ml_StairBowsModel_73 (c_X5_adds l g ad m_10 _ v1 6 ((μ 288 1) * ((r_9 - r_11) + 1)) h) ⟨rfl, rfl⟩ ⟨Nat.le_of_ble_eq_true rfl, Nat.le_of_ble_eq_true rfl⟩ rfl hl.1 rfl (Nat.le_of_ble_eq_true rfl) dX5_makesWay_60 ⟨Nat.le_of_ble_eq_true rfl, Nat.le_of_ble_eq_true rfl⟩) (fun m_12 h H locs w => ?_)
  refine lv_aload_n hx hb dX5_makesWay_63 rfl (lv_at hl 1 rfl) ?_
  refine lv_iload_n hx hb dX5_makesWay_64 rfl (lv_at hl 2 rfl) ?_
  refine lv_iconst (v := 5) hx hb dX5_makesWay_65 (by decide) ?_
  refine lv_iconst (v := 1) hx hb dX5_makesWay_66 (by decide) ?_
  refine x_callv C w (x_runV (i := 287) (As := [.int v1, .int 5, .int 1]) (rest := []) C w (rfl : kd 287 = 7) (by decide) (ci := 5) rfl rfl rfl me_X5_adds ml_StairBowsModel_73 (c_X5_adds l g ad m_12 _ v1 5 1 h) ⟨rfl, rfl⟩ ⟨Nat.le_of_ble_eq_true rfl, Nat.le_of_ble_eq_true rfl⟩ rfl hl.1 rfl (Nat.le_of_ble_eq_true rfl) dX5_makesWay_67 ⟨Nat.le_of_ble_eq_true rfl, Nat.le_of_ble_eq_true rfl⟩) (fun m_13 h H locs w => ?_)
  refine lv_aload_n hx hb dX5_makesWay_70 rfl (lv_at hl 1 rfl) ?_
  refine x_getM C w (k := 0) (v := .ref (ad 288)) (by decide) rfl mf_StairBowsModel_7 dX5_makesWay_71 ?_
  refine lv_bipush (v := 6) hx hb dX5_makesWay_74 (by decide) ?_
  refine lv_dup2_11 hx hb dX5_makesWay_76 rfl rfl ?_
  refine x_iald C w (i := 288) (K := 20) (j := 6) (n := 225) (jn := 6) rfl (rfl : kd 288 = 20) (by decide) rfl (show vp_in 6 225 from vp_lit (by decide) (by decide)) dX5_makesWay_77 ?_
  refine lv_iload hx hb dX5_makesWay_78 (lv_at hl 0 rfl) ?_
  refine lv_iadd hx hb dX5_makesWay_80 ?_
  refine x_iast C w (i := 288) (K := 20) (n := 225) (jn := 6) rfl (rfl : kd 288 = 20) (by decide) (fun _ => rfl) (show vp_in 6 225 from vp_lit (by decide) (by decide)) dX5_makesWay_81 (fun m_14 e_15 H locs w => ?_)
  have h := h m_14 e_15
  refine lv_aload_n hx hb dX5_makesWay_82 rfl (lv_at hl 1 rfl) ?_
  refine x_getM C w (k := 0) (v := .ref (ad 288)) (by decide) rfl mf_StairBowsModel_7 dX5_makesWay_83 ?_
  refine lv_bipush (v := 7) hx hb dX5_makesWay_86 (by decide) ?_
  refine lv_dup2_11 hx hb dX5_makesWay_88 rfl rfl ?_
  refine x_iald C w (i := 288) (K := 20) (j := 7) (n := 225) (jn := 7) rfl (rfl : kd 288 = 20) (by decide) rfl (show vp_in 7 225 from vp_lit (by decide) (by decide)) dX5_makesWay_89 ?_
  refine lv_iconst (v := 1) hx hb dX5_makesWay_90 (by decide) ?_
  refine lv_iadd hx hb dX5_makesWay_91 ?_
  refine x_iast C w (i := 288) (K := 20) (n := 225) (jn := 7) rfl (rfl : kd 288 = 20) (by decide) (fun _ => rfl) (show vp_in 7 225 from vp_lit (by decide) (by decide)) dX5_makesWay_92 (fun m_16 e_17 H locs w => ?_)
  have h := h m_16 e_17
  refine lv_iload_n hx hb dX5_makesWay_93 rfl (lv_at hl 4 rfl) ?_
  refine x_calli C w (x_runS (As := [.int v3]) (rest := []) C w me_X5_isStep ml_StairBowsModel_67 (c_X5_isStep l g ad m_16 _ v3 h) ⟨rfl, rfl⟩ ⟨Nat.le_of_ble_eq_true rfl, Nat.le_of_ble_eq_true rfl⟩ rfl hl.1 rfl (Nat.le_of_ble_eq_true rfl) dX5_makesWay_94 ⟨Nat.le_of_ble_eq_true rfl, Nat.le_of_ble_eq_true rfl⟩) (fun r_19 m_18 h H locs w => ?_)
  refine lv_if_eq (tgt := 110) hx hb dX5_makesWay_97 (by decide) (fun c_20 => ?_) (fun c_20 => ?_)
  · have h := h.1 c_20
    refine lv_aload_n hx hb dX5_makesWay_110 rfl (lv_at hl 1 rfl) ?_
    refine lv_iload_n hx hb dX5_makesWay_111 rfl (lv_at hl 2 rfl) ?_
    refine lv_iconst (v := 3) hx hb dX5_makesWay_112 (by decide) ?_
    refine x_callv C w (x_runV (i := 287) (As := [.int v1, .int 3]) (rest := []) C w (rfl : kd 287 = 7) (by decide) (ci := 5) rfl rfl rfl me_X5_ends ml_StairBowsModel_79 (c_X5_ends l g ad m_18 _ v1 3 h) ⟨rfl, rfl⟩ ⟨Nat.le_of_ble_eq_true rfl, Nat.le_of_ble_eq_true rfl⟩ rfl hl.1 rfl (Nat.le_of_ble_eq_true rfl) dX5_makesWay_113 ⟨Nat.le_of_ble_eq_true rfl, Nat.le_of_ble_eq_true rfl⟩) (fun m_21 h H locs w => ?_)
    refine lv_iconst (v := 1) hx hb dX5_makesWay_116 (by decide) ?_
    exact x_zret C w (show bz 1 from Or.inr rfl) h dX5_makesWay_117
  · have h := h.2 c_20
    refine lv_aload_n hx hb dX5_makesWay_100 rfl (lv_at hl 1 rfl) ?_
    refine lv_iload_n hx hb dX5_makesWay_101 rfl (lv_at hl 2 rfl) ?_
    refine lv_iload_n hx hb dX5_makesWay_102 rfl (lv_at hl 4 rfl) ?_
    refine lv_iconst (v := 4) hx hb dX5_makesWay_103 (by decide) ?_
    refine x_callv C w (x_runV (i := 287) (As := [.int v1, .int v3, .int 4]) (rest := []) C w (rfl : kd 287 = 7) (by decide) (ci := 5) rfl rfl rfl me_X5_goesTo ml_StairBowsModel_76 (c_X5_goesTo l g ad m_18 _ v1 v3 4 h) ⟨rfl, rfl⟩ ⟨Nat.le_of_ble_eq_true rfl, Nat.le_of_ble_eq_true rfl⟩ rfl hl.1 rfl (Nat.le_of_ble_eq_true rfl) dX5_makesWay_104 ⟨Nat.le_of_ble_eq_true rfl, Nat.le_of_ble_eq_true rfl⟩) (fun m_22 h H locs w => ?_)
    refine lv_goto (tgt := 116) hx hb dX5_makesWay_107 (by decide) ?_
    refine lv_iconst (v := 1) hx hb dX5_makesWay_116 (by decide) ?_
    exact x_zret C w (show bz 1 from Or.inr rfl) h dX5_makesWay_117
set_option maxHeartbeats 4000000 in
set_option maxRecDepth 100000 in
theorem c_X5_makesWay (l : Launch) (g : Gv) (ad : Nat → Nat) (μ : Mem) (sz : Nat) (a1 : Int32) (a2 : Int32) {K : Int32 → Mem → Prop} (h : wp_X5_makesWay a1 a2 μ K) : Met l yX5_makesWay (wX yX5_makesWay cX5_makesWay 5 (some .boolean)) rm_X5_makesWay (Pre g ad μ sz [.ref (ad 287), .int a1, .int a2]) (PostI g ad sz K) 0 0 (Aw ad sz) := by
  refine Met.ofW (cc := cX5_makesWay) (maxL := 5) (ret := (some .boolean)) (by decide) rfl ?_
  intro p e s m args below meth c s₁ B hml hv
  obtain ⟨rfl, rfl, C, w⟩ := x_start B hml hv
  obtain ⟨hx, hb, hml, -, hts, hown, -, -, hN⟩ := id C
  have hl := lv_entry ([.ref (ad 287), .int a1, .int a2]) (n := 5) (Nat.le_of_ble_eq_true rfl)
  rw [lg_entry_eq]
  generalize (lg_sl ([.ref (ad 287), .int a1, .int a2]) ++ List.replicate (5 - (lg_sl ([.ref (ad 287), .int a1, .int a2])).length) Slot.unset).toArray = ls at hl ⊢
  have hl : lv_has ls 5 [(0, .ref (ad 287)), (1, .int a1), (2, .int a2)] := hl
  show W p l e rm_X5_makesWay s m _ below meth c s.heap [] 0 0 _ _
  unfold wp_X5_makesWay at h
  refine lv_aload_n hx hb dX5_makesWay_0 rfl (lv_at hl 0 rfl) ?_
  refine lv_iload_n hx hb dX5_makesWay_1 rfl (lv_at hl 1 rfl) ?_
  refine lv_iconst (v := 3) hx hb dX5_makesWay_2 (by decide) ?_
  refine x_calli C w (x_runV (i := 287) (As := [.int a1, .int 3]) (rest := []) C w (rfl : kd 287 = 7) (by decide) (ci := 5) rfl rfl rfl me_X5_get ml_StairBowsModel_41 (c_X5_get l g ad μ _ a1 3 h) ⟨rfl, rfl⟩ ⟨Nat.le_of_ble_eq_true rfl, Nat.le_of_ble_eq_true rfl⟩ rfl hl.1 rfl (Nat.le_of_ble_eq_true rfl) dX5_makesWay_3 ⟨Nat.le_of_ble_eq_true rfl, Nat.le_of_ble_eq_true rfl⟩) (fun r_2 m_1 h H locs w => ?_)
  refine lv_aload_n hx hb dX5_makesWay_6 rfl (lv_at hl 0 rfl) ?_
  refine lv_iload_n hx hb dX5_makesWay_7 rfl (lv_at hl 2 rfl) ?_
  refine x_calli C w (x_runV (i := 287) (As := [.int a2]) (rest := [.int r_2]) C w (rfl : kd 287 = 7) (by decide) (ci := 5) rfl rfl rfl me_X5_way ml_StairBowsModel_57 (c_X5_way l g ad m_1 _ a2 h) ⟨rfl, rfl⟩ ⟨Nat.le_of_ble_eq_true rfl, Nat.le_of_ble_eq_true rfl⟩ rfl hl.1 rfl (Nat.le_of_ble_eq_true rfl) dX5_makesWay_8 ⟨Nat.le_of_ble_eq_true rfl, Nat.le_of_ble_eq_true rfl⟩) (fun r_4 m_3 h H locs w => ?_)
  refine lv_iadd hx hb dX5_makesWay_11 ?_
  refine lv_istore_n (lv' := [(3, .int (r_2 + r_4)), (0, .ref (ad 287)), (1, .int a1), (2, .int a2)]) hx hb dX5_makesWay_12 rfl hl (by decide) rfl (fun ls hl => ?_)
  refine lv_iload_n hx hb dX5_makesWay_13 rfl (lv_at hl 0 rfl) ?_
  refine x_calli C w (x_runS (As := [.int (r_2 + r_4)]) (rest := []) C w me_X5_isStep ml_StairBowsModel_67 (c_X5_isStep l g ad m_3 _ (r_2 + r_4) h) ⟨rfl, rfl⟩ ⟨Nat.le_of_ble_eq_true rfl, Nat.le_of_ble_eq_true rfl⟩ rfl hl.1 rfl (Nat.le_of_ble_eq_true rfl) dX5_makesWay_14 ⟨Nat.le_of_ble_eq_true rfl, Nat.le_of_ble_eq_true rfl⟩) (fun r_6 m_5 h H locs w => ?_)
  refine lv_if_eq (tgt := 30) hx hb dX5_makesWay_17 (by decide) (fun c_7 => ?_) (fun c_7 => ?_)
  · have h := h.1 c_7
    exact t_X5_makesWay_B30 C m_5 _ _ _ h w (lv_sub hl [1, 2, 3, 0] rfl)
  · have h := h.2 c_7
    refine lv_aload_n hx hb dX5_makesWay_20 rfl (lv_at hl 1 rfl) ?_
    refine lv_iload_n hx hb dX5_makesWay_21 rfl (lv_at hl 0 rfl) ?_
    refine x_calli C w (x_runV (i := 287) (As := [.int (r_2 + r_4)]) (rest := []) C w (rfl : kd 287 = 7) (by decide) (ci := 5) rfl rfl rfl me_X5_roomAt ml_StairBowsModel_70 (c_X5_roomAt l g ad m_5 _ (r_2 + r_4) h) ⟨rfl, rfl⟩ ⟨Nat.le_of_ble_eq_true rfl, Nat.le_of_ble_eq_true rfl⟩ rfl hl.1 rfl (Nat.le_of_ble_eq_true rfl) dX5_makesWay_22 ⟨Nat.le_of_ble_eq_true rfl, Nat.le_of_ble_eq_true rfl⟩) (fun r_24 m_23 h H locs w => ?_)
    refine lv_if_gt (tgt := 30) hx hb dX5_makesWay_25 (by decide) (fun c_25 => ?_) (fun c_25 => ?_)
    · have h := h.1 c_25
      exact t_X5_makesWay_B30 C m_23 _ _ _ h w (lv_sub hl [1, 2, 3, 0] rfl)
    · have h := h.2 c_25
      refine lv_iconst (v := 0) hx hb dX5_makesWay_28 (by decide) ?_
      exact x_zret C w (show bz 0 from Or.inl rfl) h dX5_makesWay_29
abbrev rm_X5_acts : Room := { frames := 5, cells := 0, slots := 0, locals := 112 }
noncomputable def wp_X5_acts_B80 (v1 : Int32) (K : Mem → Prop) (μ : Mem) : Prop :=
    (wp_X5_adds v1 4 1 μ (fun m_15 => (wp_X5_adds v1 8 1 m_15 (fun m_16 => (∀ m_17, m_17 = up2 m_16 288 8 ((m_16 288 8) + 1) → (vp_in v1 24 ∧ (∀ m_19, m_19 = up2 m_17 293 v1.toNatClampNeg 3 → K m_19)))))))
noncomputable def wp_X5_acts_B49 (v1 : Int32) (v2 : Int32) (v3 : Int32) (s0 : Int32) (K : Mem → Prop) (μ : Mem) : Prop :=
    ((¬ v3 = 0 → (wp_X5_goesTo v1 v2 1 μ (fun m_13 => K m_13))) ∧ (v3 = 0 → ((s0 = (-6) → wp_X5_acts_B80 v1 K μ) ∧ (¬ s0 = (-6) → (wp_X5_makesWay s0 v1 μ (fun r_22 m_21 => ((r_22 = 0 → wp_X5_acts_B80 v1 K m_21) ∧ (¬ r_22 = 0 → (wp_X5_goesTo v1 v2 1 m_21 (fun m_24 => K m_24))))))))))
noncomputable def wp_X5_acts (a1 : Int32) (μ : Mem) (K : Mem → Prop) : Prop :=
    (wp_X5_nextOf a1 μ (fun r_2 m_1 => (wp_X5_isStep r_2 m_1 (fun r_4 m_3 => ((¬ r_4 = 0 → (wp_X5_roomAt r_2 m_3 (fun r_7 m_6 => ((r_7 ≤ 0 → (((0 : Int32) = 0 → (wp_X5_yielder r_2 a1 m_6 (fun r_11 m_10 => wp_X5_acts_B49 a1 r_2 0 r_11 K m_10))) ∧ (¬ (0 : Int32) = 0 → wp_X5_acts_B49 a1 r_2 0 (-6) K m_6))) ∧ (¬ r_7 ≤ 0 → (((1 : Int32) = 0 → (wp_X5_yielder r_2 a1 m_6 (fun r_27 m_26 => wp_X5_acts_B49 a1 r_2 1 r_27 K m_26))) ∧ (¬ (1 : Int32) = 0 → wp_X5_acts_B49 a1 r_2 1 (-6) K m_6))))))) ∧ (r_4 = 0 → (wp_X5_ends a1 2 m_3 (fun m_28 => K m_28))))))))
set_option maxHeartbeats 4000000 in
set_option maxRecDepth 100000 in
theorem t_X5_acts_B80 {g : Gv} {ad : Nat → Nat} {l : Launch} {p : Program} {e : Env} {s : State} {m : MethodId} {args : Array Value} {below : List Frame} {meth : Method} {c : Code} (C : Cx g p s m args meth c "StairBowsModel" cX5_acts 5 none) {v1 : Int32}  {K : Mem → Prop}    (μ : Mem) (H : Heap) (locs : List Loc) (ls : Array Slot) (h : wp_X5_acts_B80 v1 K μ) (w : Wd g ad μ (Aw ad s.heap.size) s H locs) (hl : lv_has ls 5 [(0, .ref (ad 287)), (1, .int v1)]) : W p l e rm_X5_acts s m args below meth c H locs 0 0 (MQ below (PostV g ad s.heap.size K) args s 0 0 (Aw ad s.heap.size)) (F0 m 80 ls []) := by
  obtain ⟨hx, hb, hml, -, hts, hown, -, -, hN⟩ := id C
  unfold wp_X5_acts_B80 at h
  refine lv_aload_n hx hb dX5_acts_80 rfl (lv_at hl 0 rfl) ?_
  refine lv_iload_n hx hb dX5_acts_81 rfl (lv_at hl 1 rfl) ?_
  refine lv_iconst (v := 4) hx hb dX5_acts_82 (by decide) ?_
  refine lv_iconst (v := 1) hx hb dX5_acts_83 (by decide) ?_
  refine x_callv C w (x_runV (i := 287) (As := [.int v1, .int 4, .int 1]) (rest := []) C w (rfl : kd 287 = 7) (by decide) (ci := 5) rfl rfl rfl me_X5_adds ml_StairBowsModel_73 (c_X5_adds l g ad μ _ v1 4 1 h) ⟨rfl, rfl⟩ ⟨Nat.le_of_ble_eq_true rfl, Nat.le_of_ble_eq_true rfl⟩ rfl hl.1 rfl (Nat.le_of_ble_eq_true rfl) dX5_acts_84 ⟨Nat.le_of_ble_eq_true rfl, Nat.le_of_ble_eq_true rfl⟩) (fun m_15 h H locs w => ?_)
  refine lv_aload_n hx hb dX5_acts_87 rfl (lv_at hl 0 rfl) ?_
  refine lv_iload_n hx hb dX5_acts_88 rfl (lv_at hl 1 rfl) ?_
  refine lv_bipush (v := 8) hx hb dX5_acts_89 (by decide) ?_
  refine lv_iconst (v := 1) hx hb dX5_acts_91 (by decide) ?_
  refine x_callv C w (x_runV (i := 287) (As := [.int v1, .int 8, .int 1]) (rest := []) C w (rfl : kd 287 = 7) (by decide) (ci := 5) rfl rfl rfl me_X5_adds ml_StairBowsModel_73 (c_X5_adds l g ad m_15 _ v1 8 1 h) ⟨rfl, rfl⟩ ⟨Nat.le_of_ble_eq_true rfl, Nat.le_of_ble_eq_true rfl⟩ rfl hl.1 rfl (Nat.le_of_ble_eq_true rfl) dX5_acts_92 ⟨Nat.le_of_ble_eq_true rfl, Nat.le_of_ble_eq_true rfl⟩) (fun m_16 h H locs w => ?_)
  refine lv_aload_n hx hb dX5_acts_95 rfl (lv_at hl 0 rfl) ?_
  refine x_getM C w (k := 0) (v := .ref (ad 288)) (by decide) rfl mf_StairBowsModel_7 dX5_acts_96 ?_
  refine lv_bipush (v := 8) hx hb dX5_acts_99 (by decide) ?_
  refine lv_dup2_11 hx hb dX5_acts_101 rfl rfl ?_
  refine x_iald C w (i := 288) (K := 20) (j := 8) (n := 225) (jn := 8) rfl (rfl : kd 288 = 20) (by decide) rfl (show vp_in 8 225 from vp_lit (by decide) (by decide)) dX5_acts_102 ?_
  refine lv_iconst (v := 1) hx hb dX5_acts_103 (by decide) ?_
  refine lv_iadd hx hb dX5_acts_104 ?_
  refine x_iast C w (i := 288) (K := 20) (n := 225) (jn := 8) rfl (rfl : kd 288 = 20) (by decide) (fun _ => rfl) (show vp_in 8 225 from vp_lit (by decide) (by decide)) dX5_acts_105 (fun m_17 e_18 H locs w => ?_)
  have h := h m_17 e_18
  refine lv_aload_n hx hb dX5_acts_106 rfl (lv_at hl 0 rfl) ?_
  refine x_getM C w (k := 6) (v := .ref (ad 293)) (by decide) rfl mf_StairBowsModel_25 dX5_acts_107 ?_
  refine lv_iload_n hx hb dX5_acts_110 rfl (lv_at hl 1 rfl) ?_
  refine lv_iconst (v := 3) hx hb dX5_acts_111 (by decide) ?_
  refine x_iast C w (i := 293) (K := 25) (n := 24) (jn := v1.toNatClampNeg) rfl (rfl : kd 293 = 25) (by decide) (fun _ => rfl) (show vp_in v1 24 from h.1) dX5_acts_112 (fun m_19 e_20 H locs w => ?_)
  have h := h.2 m_19 e_20
  exact x_vret C w h dX5_acts_113
set_option maxHeartbeats 4000000 in
set_option maxRecDepth 100000 in
theorem t_X5_acts_B49 {g : Gv} {ad : Nat → Nat} {l : Launch} {p : Program} {e : Env} {s : State} {m : MethodId} {args : Array Value} {below : List Frame} {meth : Method} {c : Code} (C : Cx g p s m args meth c "StairBowsModel" cX5_acts 5 none) {v1 : Int32} {v2 : Int32} {v3 : Int32} {s0 : Int32}  {K : Mem → Prop}    (μ : Mem) (H : Heap) (locs : List Loc) (ls : Array Slot) (h : wp_X5_acts_B49 v1 v2 v3 s0 K μ) (w : Wd g ad μ (Aw ad s.heap.size) s H locs) (hl : lv_has ls 5 [(0, .ref (ad 287)), (1, .int v1), (2, .int v2), (3, .int v3)]) : W p l e rm_X5_acts s m args below meth c H locs 0 0 (MQ below (PostV g ad s.heap.size K) args s 0 0 (Aw ad s.heap.size)) (F0 m 49 ls [.int s0]) := by
  obtain ⟨hx, hb, hml, -, hts, hown, -, -, hN⟩ := id C
  unfold wp_X5_acts_B49 at h
  refine lv_istore (lv' := [(4, .int s0), (0, .ref (ad 287)), (1, .int v1), (2, .int v2), (3, .int v3)]) hx hb dX5_acts_49 hl (by decide) rfl (fun ls hl => ?_)
  refine lv_iload_n hx hb dX5_acts_51 rfl (lv_at hl 4 rfl) ?_
  refine lv_if_ne (tgt := 72) hx hb dX5_acts_52 (by decide) (fun c_12 => ?_) (fun c_12 => ?_)
  · have h := h.1 c_12
    refine lv_aload_n hx hb dX5_acts_72 rfl (lv_at hl 1 rfl) ?_
    refine lv_iload_n hx hb dX5_acts_73 rfl (lv_at hl 2 rfl) ?_
    refine lv_iload_n hx hb dX5_acts_74 rfl (lv_at hl 3 rfl) ?_
    refine lv_iconst (v := 1) hx hb dX5_acts_75 (by decide) ?_
    refine x_callv C w (x_runV (i := 287) (As := [.int v1, .int v2, .int 1]) (rest := []) C w (rfl : kd 287 = 7) (by decide) (ci := 5) rfl rfl rfl me_X5_goesTo ml_StairBowsModel_76 (c_X5_goesTo l g ad μ _ v1 v2 1 h) ⟨rfl, rfl⟩ ⟨Nat.le_of_ble_eq_true rfl, Nat.le_of_ble_eq_true rfl⟩ rfl hl.1 rfl (Nat.le_of_ble_eq_true rfl) dX5_acts_76 ⟨Nat.le_of_ble_eq_true rfl, Nat.le_of_ble_eq_true rfl⟩) (fun m_13 h H locs w => ?_)
    exact x_vret C w h dX5_acts_79
  · have h := h.2 c_12
    refine lv_iload hx hb dX5_acts_55 (lv_at hl 0 rfl) ?_
    refine lv_bipush (v := -6) hx hb dX5_acts_57 (by decide) ?_
    refine lv_icmp_eq (tgt := 80) hx hb dX5_acts_59 (by decide) (fun c_14 => ?_) (fun c_14 => ?_)
    · have h := h.1 c_14
      exact t_X5_acts_B80 C μ _ _ _ h w (lv_sub hl [1, 2] rfl)
    · have h := h.2 c_14
      refine lv_aload_n hx hb dX5_acts_62 rfl (lv_at hl 1 rfl) ?_
      refine lv_iload hx hb dX5_acts_63 (lv_at hl 0 rfl) ?_
      refine lv_iload_n hx hb dX5_acts_65 rfl (lv_at hl 2 rfl) ?_
      refine x_calli C w (x_runV (i := 287) (As := [.int s0, .int v1]) (rest := []) C w (rfl : kd 287 = 7) (by decide) (ci := 5) rfl rfl rfl me_X5_makesWay ml_StairBowsModel_89 (c_X5_makesWay l g ad μ _ s0 v1 h) ⟨rfl, rfl⟩ ⟨Nat.le_of_ble_eq_true rfl, Nat.le_of_ble_eq_true rfl⟩ rfl hl.1 rfl (Nat.le_of_ble_eq_true rfl) dX5_acts_66 ⟨Nat.le_of_ble_eq_true rfl, Nat.le_of_ble_eq_true rfl⟩) (fun r_22 m_21 h H locs w => ?_)
      refine lv_if_eq (tgt := 80) hx hb dX5_acts_69 (by decide) (fun c_23 => ?_) (fun c_23 => ?_)
      · have h := h.1 c_23
        exact t_X5_acts_B80 C m_21 _ _ _ h w (lv_sub hl [1, 2] rfl)
      · have h := h.2 c_23
        refine lv_aload_n hx hb dX5_acts_72 rfl (lv_at hl 1 rfl) ?_
        refine lv_iload_n hx hb dX5_acts_73 rfl (lv_at hl 2 rfl) ?_
        refine lv_iload_n hx hb dX5_acts_74 rfl (lv_at hl 3 rfl) ?_
        refine lv_iconst (v := 1) hx hb dX5_acts_75 (by decide) ?_
        refine x_callv C w (x_runV (i := 287) (As := [.int v1, .int v2, .int 1]) (rest := []) C w (rfl : kd 287 = 7) (by decide) (ci := 5) rfl rfl rfl me_X5_goesTo ml_StairBowsModel_76 (c_X5_goesTo l g ad m_21 _ v1 v2 1 h) ⟨rfl, rfl⟩ ⟨Nat.le_of_ble_eq_true rfl, Nat.le_of_ble_eq_true rfl⟩ rfl hl.1 rfl (Nat.le_of_ble_eq_true rfl) dX5_acts_76 ⟨Nat.le_of_ble_eq_true rfl, Nat.le_of_ble_eq_true rfl⟩) (fun m_24 h H locs w => ?_)
        exact x_vret C w h dX5_acts_79
set_option maxHeartbeats 4000000 in
set_option maxRecDepth 100000 in
theorem c_X5_acts (l : Launch) (g : Gv) (ad : Nat → Nat) (μ : Mem) (sz : Nat) (a1 : Int32) {K : Mem → Prop} (h : wp_X5_acts a1 μ K) : Met l yX5_acts (wX yX5_acts cX5_acts 5 none) rm_X5_acts (Pre g ad μ sz [.ref (ad 287), .int a1]) (PostV g ad sz K) 0 0 (Aw ad sz) := by
  refine Met.ofW (cc := cX5_acts) (maxL := 5) (ret := none) (by decide) rfl ?_
  intro p e s m args below meth c s₁ B hml hv
  obtain ⟨rfl, rfl, C, w⟩ := x_start B hml hv
  obtain ⟨hx, hb, hml, -, hts, hown, -, -, hN⟩ := id C
  have hl := lv_entry ([.ref (ad 287), .int a1]) (n := 5) (Nat.le_of_ble_eq_true rfl)
  rw [lg_entry_eq]
  generalize (lg_sl ([.ref (ad 287), .int a1]) ++ List.replicate (5 - (lg_sl ([.ref (ad 287), .int a1])).length) Slot.unset).toArray = ls at hl ⊢
  have hl : lv_has ls 5 [(0, .ref (ad 287)), (1, .int a1)] := hl
  show W p l e rm_X5_acts s m _ below meth c s.heap [] 0 0 _ _
  unfold wp_X5_acts at h
  refine lv_aload_n hx hb dX5_acts_0 rfl (lv_at hl 0 rfl) ?_
  refine lv_iload_n hx hb dX5_acts_1 rfl (lv_at hl 1 rfl) ?_
  refine x_calli C w (x_runV (i := 287) (As := [.int a1]) (rest := []) C w (rfl : kd 287 = 7) (by decide) (ci := 5) rfl rfl rfl me_X5_nextOf ml_StairBowsModel_83 (c_X5_nextOf l g ad μ _ a1 h) ⟨rfl, rfl⟩ ⟨Nat.le_of_ble_eq_true rfl, Nat.le_of_ble_eq_true rfl⟩ rfl hl.1 rfl (Nat.le_of_ble_eq_true rfl) dX5_acts_2 ⟨Nat.le_of_ble_eq_true rfl, Nat.le_of_ble_eq_true rfl⟩) (fun r_2 m_1 h H locs w => ?_)
  refine lv_istore_n (lv' := [(2, .int r_2), (0, .ref (ad 287)), (1, .int a1)]) hx hb dX5_acts_5 rfl hl (by decide) rfl (fun ls hl => ?_)
  refine lv_iload_n hx hb dX5_acts_6 rfl (lv_at hl 0 rfl) ?_
  refine x_calli C w (x_runS (As := [.int r_2]) (rest := []) C w me_X5_isStep ml_StairBowsModel_67 (c_X5_isStep l g ad m_1 _ r_2 h) ⟨rfl, rfl⟩ ⟨Nat.le_of_ble_eq_true rfl, Nat.le_of_ble_eq_true rfl⟩ rfl hl.1 rfl (Nat.le_of_ble_eq_true rfl) dX5_acts_7 ⟨Nat.le_of_ble_eq_true rfl, Nat.le_of_ble_eq_true rfl⟩) (fun r_4 m_3 h H locs w => ?_)
  refine lv_if_ne (tgt := 20) hx hb dX5_acts_10 (by decide) (fun c_5 => ?_) (fun c_5 => ?_)
  · have h := h.1 c_5
    refine lv_aload_n hx hb dX5_acts_20 rfl (lv_at hl 1 rfl) ?_
    refine lv_iload_n hx hb dX5_acts_21 rfl (lv_at hl 0 rfl) ?_
    refine x_calli C w (x_runV (i := 287) (As := [.int r_2]) (rest := []) C w (rfl : kd 287 = 7) (by decide) (ci := 5) rfl rfl rfl me_X5_roomAt ml_StairBowsModel_70 (c_X5_roomAt l g ad m_3 _ r_2 h) ⟨rfl, rfl⟩ ⟨Nat.le_of_ble_eq_true rfl, Nat.le_of_ble_eq_true rfl⟩ rfl hl.1 rfl (Nat.le_of_ble_eq_true rfl) dX5_acts_22 ⟨Nat.le_of_ble_eq_true rfl, Nat.le_of_ble_eq_true rfl⟩) (fun r_7 m_6 h H locs w => ?_)
    refine lv_if_le (tgt := 32) hx hb dX5_acts_25 (by decide) (fun c_8 => ?_) (fun c_8 => ?_)
    · have h := h.1 c_8
      refine lv_iconst (v := 0) hx hb dX5_acts_32 (by decide) ?_
      refine lv_istore_n (lv' := [(3, .int 0), (2, .int r_2), (0, .ref (ad 287)), (1, .int a1)]) hx hb dX5_acts_33 rfl hl (by decide) rfl (fun ls hl => ?_)
      refine lv_iload_n hx hb dX5_acts_34 rfl (lv_at hl 0 rfl) ?_
      refine lv_if_eq (tgt := 43) hx hb dX5_acts_35 (by decide) (fun c_9 => ?_) (fun c_9 => ?_)
      · have h := h.1 c_9
        refine lv_aload_n hx hb dX5_acts_43 rfl (lv_at hl 2 rfl) ?_
        refine lv_iload_n hx hb dX5_acts_44 rfl (lv_at hl 1 rfl) ?_
        refine lv_iload_n hx hb dX5_acts_45 rfl (lv_at hl 3 rfl) ?_
        refine x_calli C w (x_runV (i := 287) (As := [.int r_2, .int a1]) (rest := []) C w (rfl : kd 287 = 7) (by decide) (ci := 5) rfl rfl rfl me_X5_yielder ml_StairBowsModel_86 (c_X5_yielder l g ad m_6 _ r_2 a1 h) ⟨rfl, rfl⟩ ⟨Nat.le_of_ble_eq_true rfl, Nat.le_of_ble_eq_true rfl⟩ rfl hl.1 rfl (Nat.le_of_ble_eq_true rfl) dX5_acts_46 ⟨Nat.le_of_ble_eq_true rfl, Nat.le_of_ble_eq_true rfl⟩) (fun r_11 m_10 h H locs w => ?_)
        exact t_X5_acts_B49 C m_10 _ _ _ h w (lv_sub hl [2, 3, 1, 0] rfl)
      · have h := h.2 c_9
        refine lv_bipush (v := -6) hx hb dX5_acts_38 (by decide) ?_
        refine lv_goto (tgt := 49) hx hb dX5_acts_40 (by decide) ?_
        exact t_X5_acts_B49 C m_6 _ _ _ h w (lv_sub hl [2, 3, 1, 0] rfl)
    · have h := h.2 c_8
      refine lv_iconst (v := 1) hx hb dX5_acts_28 (by decide) ?_
      refine lv_goto (tgt := 33) hx hb dX5_acts_29 (by decide) ?_
      refine lv_istore_n (lv' := [(3, .int 1), (2, .int r_2), (0, .ref (ad 287)), (1, .int a1)]) hx hb dX5_acts_33 rfl hl (by decide) rfl (fun ls hl => ?_)
      refine lv_iload_n hx hb dX5_acts_34 rfl (lv_at hl 0 rfl) ?_
      refine lv_if_eq (tgt := 43) hx hb dX5_acts_35 (by decide) (fun c_25 => ?_) (fun c_25 => ?_)
      · have h := h.1 c_25
        refine lv_aload_n hx hb dX5_acts_43 rfl (lv_at hl 2 rfl) ?_
        refine lv_iload_n hx hb dX5_acts_44 rfl (lv_at hl 1 rfl) ?_
        refine lv_iload_n hx hb dX5_acts_45 rfl (lv_at hl 3 rfl) ?_
        refine x_calli C w (x_runV (i := 287) (As := [.int r_2, .int a1]) (rest := []) C w (rfl : kd 287 = 7) (by decide) (ci := 5) rfl rfl rfl me_X5_yielder ml_StairBowsModel_86 (c_X5_yielder l g ad m_6 _ r_2 a1 h) ⟨rfl, rfl⟩ ⟨Nat.le_of_ble_eq_true rfl, Nat.le_of_ble_eq_true rfl⟩ rfl hl.1 rfl (Nat.le_of_ble_eq_true rfl) dX5_acts_46 ⟨Nat.le_of_ble_eq_true rfl, Nat.le_of_ble_eq_true rfl⟩) (fun r_27 m_26 h H locs w => ?_)
        exact t_X5_acts_B49 C m_26 _ _ _ h w (lv_sub hl [2, 3, 1, 0] rfl)
      · have h := h.2 c_25
        refine lv_bipush (v := -6) hx hb dX5_acts_38 (by decide) ?_
        refine lv_goto (tgt := 49) hx hb dX5_acts_40 (by decide) ?_
        exact t_X5_acts_B49 C m_6 _ _ _ h w (lv_sub hl [2, 3, 1, 0] rfl)
  · have h := h.2 c_5
    refine lv_aload_n hx hb dX5_acts_13 rfl (lv_at hl 1 rfl) ?_
    refine lv_iload_n hx hb dX5_acts_14 rfl (lv_at hl 2 rfl) ?_
    refine lv_iconst (v := 2) hx hb dX5_acts_15 (by decide) ?_
    refine x_callv C w (x_runV (i := 287) (As := [.int a1, .int 2]) (rest := []) C w (rfl : kd 287 = 7) (by decide) (ci := 5) rfl rfl rfl me_X5_ends ml_StairBowsModel_79 (c_X5_ends l g ad m_3 _ a1 2 h) ⟨rfl, rfl⟩ ⟨Nat.le_of_ble_eq_true rfl, Nat.le_of_ble_eq_true rfl⟩ rfl hl.1 rfl (Nat.le_of_ble_eq_true rfl) dX5_acts_16 ⟨Nat.le_of_ble_eq_true rfl, Nat.le_of_ble_eq_true rfl⟩) (fun m_28 h H locs w => ?_)
    exact x_vret C w h dX5_acts_19
abbrev rm_X5_ticks : Room := { frames := 6, cells := 0, slots := 0, locals := 136 }
noncomputable def wp_X5_ticks_L30 (v1 : Int32) (K : Mem → Prop) (E24 : Int32 → Mem → Prop) (n : Nat) : Int32 → Mem → Prop :=
  Nat.rec (motive := fun _ => Int32 → Mem → Prop) (fun _ _ => False) (fun _ ih v2 μ =>
    (((μ 288 4) ≤ v2 → E24 (v1 + (-1)) μ) ∧ (¬ (μ 288 4) ≤ v2 → (wp_X5_get v2 0 μ (fun r_7 m_6 => ((¬ r_7 = v1 → ih (v2 + 1) m_6) ∧ (r_7 = v1 → (wp_X5_get v2 2 m_6 (fun r_10 m_9 => ((2 ≤ r_10 → ih (v2 + 1) m_9) ∧ (¬ 2 ≤ r_10 → (vp_in v2 24 ∧ ((¬ (m_9 293 v2.toNatClampNeg) = 0 → ih (v2 + 1) m_9) ∧ ((m_9 293 v2.toNatClampNeg) = 0 → (wp_X5_acts v2 m_9 (fun m_13 => ih (v2 + 1) m_13)))))))))))))))) n
theorem wp_X5_ticks_L30_s (v1 : Int32) (K : Mem → Prop) (E24 : Int32 → Mem → Prop) (n : Nat) (v2 : Int32) (μ : Mem) : wp_X5_ticks_L30 v1 K E24 (n + 1) v2 μ = (
    let ih := wp_X5_ticks_L30 v1 K E24 n
    (((μ 288 4) ≤ v2 → E24 (v1 + (-1)) μ) ∧ (¬ (μ 288 4) ≤ v2 → (wp_X5_get v2 0 μ (fun r_7 m_6 => ((¬ r_7 = v1 → ih (v2 + 1) m_6) ∧ (r_7 = v1 → (wp_X5_get v2 2 m_6 (fun r_10 m_9 => ((2 ≤ r_10 → ih (v2 + 1) m_9) ∧ (¬ 2 ≤ r_10 → (vp_in v2 24 ∧ ((¬ (m_9 293 v2.toNatClampNeg) = 0 → ih (v2 + 1) m_9) ∧ ((m_9 293 v2.toNatClampNeg) = 0 → (wp_X5_acts v2 m_9 (fun m_13 => ih (v2 + 1) m_13)))))))))))))))) := rfl
noncomputable def wp_X5_ticks_L24 (K : Mem → Prop) (n : Nat) : Int32 → Mem → Prop :=
  Nat.rec (motive := fun _ => Int32 → Mem → Prop) (fun _ _ => False) (fun _ ih v1 μ =>
    ((v1 ≤ 0 → (∀ m_3, m_3 = up2 μ 288 3 ((μ 288 3) + 1) → K m_3)) ∧ (¬ v1 ≤ 0 → (∃ n, wp_X5_ticks_L30 v1 K ih n 0 μ)))) n
theorem wp_X5_ticks_L24_s (K : Mem → Prop) (n : Nat) (v1 : Int32) (μ : Mem) : wp_X5_ticks_L24 K (n + 1) v1 μ = (
    let ih := wp_X5_ticks_L24 K n
    ((v1 ≤ 0 → (∀ m_3, m_3 = up2 μ 288 3 ((μ 288 3) + 1) → K m_3)) ∧ (¬ v1 ≤ 0 → (∃ n, wp_X5_ticks_L30 v1 K ih n 0 μ)))) := rfl
noncomputable def wp_X5_ticks_L2 (K : Mem → Prop) (n : Nat) : Int32 → Mem → Prop :=
  Nat.rec (motive := fun _ => Int32 → Mem → Prop) (fun _ _ => False) (fun _ ih v1 μ =>
    ((24 ≤ v1 → (∃ n, wp_X5_ticks_L24 K n 9 μ)) ∧ (¬ 24 ≤ v1 → (vp_in v1 24 ∧ (∀ m_16, m_16 = up2 μ 293 v1.toNatClampNeg 0 → ih (v1 + 1) m_16))))) n
theorem wp_X5_ticks_L2_s (K : Mem → Prop) (n : Nat) (v1 : Int32) (μ : Mem) : wp_X5_ticks_L2 K (n + 1) v1 μ = (
    let ih := wp_X5_ticks_L2 K n
    ((24 ≤ v1 → (∃ n, wp_X5_ticks_L24 K n 9 μ)) ∧ (¬ 24 ≤ v1 → (vp_in v1 24 ∧ (∀ m_16, m_16 = up2 μ 293 v1.toNatClampNeg 0 → ih (v1 + 1) m_16))))) := rfl
noncomputable def wp_X5_ticks  (μ : Mem) (K : Mem → Prop) : Prop :=
    (∃ n, wp_X5_ticks_L2 K n 0 μ)
set_option maxHeartbeats 4000000 in
set_option maxRecDepth 100000 in
theorem t_X5_ticks_L30 {g : Gv} {ad : Nat → Nat} {l : Launch} {p : Program} {e : Env} {s : State} {m : MethodId} {args : Array Value} {below : List Frame} {meth : Method} {c : Code} (C : Cx g p s m args meth c "StairBowsModel" cX5_ticks 3 none) {v1 : Int32}  {K : Mem → Prop} {E24 : Int32 → Mem → Prop}  (hE24 : ∀ (v1 : Int32) (μ : Mem) (H : Heap) (locs : List Loc) (ls : Array Slot), E24 v1 μ → Wd g ad μ (Aw ad s.heap.size) s H locs → lv_has ls 3 [(0, .ref (ad 287)), (1, .int v1)] → W p l e rm_X5_ticks s m args below meth c H locs 0 0 (MQ below (PostV g ad s.heap.size K) args s 0 0 (Aw ad s.heap.size)) (F0 m 24 ls [])) : ∀ (n : Nat) (v2 : Int32) (μ : Mem) (H : Heap) (locs : List Loc) (ls : Array Slot), wp_X5_ticks_L30 v1 K E24 n v2 μ → Wd g ad μ (Aw ad s.heap.size) s H locs → lv_has ls 3 [(0, .ref (ad 287)), (1, .int v1), (2, .int v2)] → W p l e rm_X5_ticks s m args below meth c H locs 0 0 (MQ below (PostV g ad s.heap.size K) args s 0 0 (Aw ad s.heap.size)) (F0 m 30 ls []) := by
  obtain ⟨hx, hb, hml, -, hts, hown, -, -, hN⟩ := id C
  intro n
  induction n with
  | zero =>
    intro v2 μ H locs ls h w hl
    exact (show False from h).elim
  | succ n ih =>
    intro v2 μ H locs ls h w hl
    rw [wp_X5_ticks_L30_s] at h
    dsimp only at h
    refine lv_iload_n hx hb dX5_ticks_30 rfl (lv_at hl 2 rfl) ?_
    refine lv_aload_n hx hb dX5_ticks_31 rfl (lv_at hl 0 rfl) ?_
    refine x_getM C w (k := 0) (v := .ref (ad 288)) (by decide) rfl mf_StairBowsModel_7 dX5_ticks_32 ?_
    refine lv_iconst (v := 4) hx hb dX5_ticks_35 (by decide) ?_
    refine x_iald C w (i := 288) (K := 20) (j := 4) (n := 225) (jn := 4) rfl (rfl : kd 288 = 20) (by decide) rfl (show vp_in 4 225 from vp_lit (by decide) (by decide)) dX5_ticks_36 ?_
    refine lv_icmp_ge (tgt := 80) hx hb dX5_ticks_37 (by decide) (fun c_5 => ?_) (fun c_5 => ?_)
    · have h := h.1 c_5
      refine lv_iinc (v := (v1 + (-1))) (lv' := [(1, .int (v1 + (-1))), (0, .ref (ad 287)), (2, .int v2)]) hx hb dX5_ticks_80 hl (k := 1) rfl rfl (by decide) rfl (fun ls hl => ?_)
      refine lv_goto (tgt := 24) hx hb dX5_ticks_83 (by decide) ?_
      exact hE24 (v1 + (-1)) μ _ _ _ h w (lv_sub hl [1, 0] rfl)
    · have h := h.2 c_5
      refine lv_aload_n hx hb dX5_ticks_40 rfl (lv_at hl 0 rfl) ?_
      refine lv_iload_n hx hb dX5_ticks_41 rfl (lv_at hl 2 rfl) ?_
      refine lv_iconst (v := 0) hx hb dX5_ticks_42 (by decide) ?_
      refine x_calli C w (x_runV (i := 287) (As := [.int v2, .int 0]) (rest := []) C w (rfl : kd 287 = 7) (by decide) (ci := 5) rfl rfl rfl me_X5_get ml_StairBowsModel_41 (c_X5_get l g ad μ _ v2 0 h) ⟨rfl, rfl⟩ ⟨Nat.le_of_ble_eq_true rfl, Nat.le_of_ble_eq_true rfl⟩ rfl hl.1 rfl (Nat.le_of_ble_eq_true rfl) dX5_ticks_43 ⟨Nat.le_of_ble_eq_true rfl, Nat.le_of_ble_eq_true rfl⟩) (fun r_7 m_6 h H locs w => ?_)
      refine lv_iload_n hx hb dX5_ticks_46 rfl (lv_at hl 1 rfl) ?_
      refine lv_icmp_ne (tgt := 74) hx hb dX5_ticks_47 (by decide) (fun c_8 => ?_) (fun c_8 => ?_)
      · have h := h.1 c_8
        refine lv_iinc (v := (v2 + 1)) (lv' := [(2, .int (v2 + 1)), (0, .ref (ad 287)), (1, .int v1)]) hx hb dX5_ticks_74 hl (k := 2) rfl rfl (by decide) rfl (fun ls hl => ?_)
        refine lv_goto (tgt := 30) hx hb dX5_ticks_77 (by decide) ?_
        exact ih (v2 + 1) m_6 _ _ _ h w (lv_sub hl [1, 2, 0] rfl)
      · have h := h.2 c_8
        refine lv_aload_n hx hb dX5_ticks_50 rfl (lv_at hl 0 rfl) ?_
        refine lv_iload_n hx hb dX5_ticks_51 rfl (lv_at hl 2 rfl) ?_
        refine lv_iconst (v := 2) hx hb dX5_ticks_52 (by decide) ?_
        refine x_calli C w (x_runV (i := 287) (As := [.int v2, .int 2]) (rest := []) C w (rfl : kd 287 = 7) (by decide) (ci := 5) rfl rfl rfl me_X5_get ml_StairBowsModel_41 (c_X5_get l g ad m_6 _ v2 2 h) ⟨rfl, rfl⟩ ⟨Nat.le_of_ble_eq_true rfl, Nat.le_of_ble_eq_true rfl⟩ rfl hl.1 rfl (Nat.le_of_ble_eq_true rfl) dX5_ticks_53 ⟨Nat.le_of_ble_eq_true rfl, Nat.le_of_ble_eq_true rfl⟩) (fun r_10 m_9 h H locs w => ?_)
        refine lv_iconst (v := 2) hx hb dX5_ticks_56 (by decide) ?_
        refine lv_icmp_ge (tgt := 74) hx hb dX5_ticks_57 (by decide) (fun c_11 => ?_) (fun c_11 => ?_)
        · have h := h.1 c_11
          refine lv_iinc (v := (v2 + 1)) (lv' := [(2, .int (v2 + 1)), (0, .ref (ad 287)), (1, .int v1)]) hx hb dX5_ticks_74 hl (k := 2) rfl rfl (by decide) rfl (fun ls hl => ?_)
          refine lv_goto (tgt := 30) hx hb dX5_ticks_77 (by decide) ?_
          exact ih (v2 + 1) m_9 _ _ _ h w (lv_sub hl [1, 2, 0] rfl)
        · have h := h.2 c_11
          refine lv_aload_n hx hb dX5_ticks_60 rfl (lv_at hl 0 rfl) ?_
          refine x_getM C w (k := 6) (v := .ref (ad 293)) (by decide) rfl mf_StairBowsModel_25 dX5_ticks_61 ?_
          refine lv_iload_n hx hb dX5_ticks_64 rfl (lv_at hl 2 rfl) ?_
          refine x_iald C w (i := 293) (K := 25) (j := v2) (n := 24) (jn := v2.toNatClampNeg) rfl (rfl : kd 293 = 25) (by decide) rfl (show vp_in v2 24 from h.1) dX5_ticks_65 ?_
          have h := h.2
          refine lv_if_ne (tgt := 74) hx hb dX5_ticks_66 (by decide) (fun c_12 => ?_) (fun c_12 => ?_)
          · have h := h.1 c_12
            refine lv_iinc (v := (v2 + 1)) (lv' := [(2, .int (v2 + 1)), (0, .ref (ad 287)), (1, .int v1)]) hx hb dX5_ticks_74 hl (k := 2) rfl rfl (by decide) rfl (fun ls hl => ?_)
            refine lv_goto (tgt := 30) hx hb dX5_ticks_77 (by decide) ?_
            exact ih (v2 + 1) m_9 _ _ _ h w (lv_sub hl [1, 2, 0] rfl)
          · have h := h.2 c_12
            refine lv_aload_n hx hb dX5_ticks_69 rfl (lv_at hl 0 rfl) ?_
            refine lv_iload_n hx hb dX5_ticks_70 rfl (lv_at hl 2 rfl) ?_
            refine x_callv C w (x_runV (i := 287) (As := [.int v2]) (rest := []) C w (rfl : kd 287 = 7) (by decide) (ci := 5) rfl rfl rfl me_X5_acts ml_StairBowsModel_92 (c_X5_acts l g ad m_9 _ v2 h) ⟨rfl, rfl⟩ ⟨Nat.le_of_ble_eq_true rfl, Nat.le_of_ble_eq_true rfl⟩ rfl hl.1 rfl (Nat.le_of_ble_eq_true rfl) dX5_ticks_71 ⟨Nat.le_of_ble_eq_true rfl, Nat.le_of_ble_eq_true rfl⟩) (fun m_13 h H locs w => ?_)
            refine lv_iinc (v := (v2 + 1)) (lv' := [(2, .int (v2 + 1)), (0, .ref (ad 287)), (1, .int v1)]) hx hb dX5_ticks_74 hl (k := 2) rfl rfl (by decide) rfl (fun ls hl => ?_)
            refine lv_goto (tgt := 30) hx hb dX5_ticks_77 (by decide) ?_
            exact ih (v2 + 1) m_13 _ _ _ h w (lv_sub hl [1, 2, 0] rfl)
set_option maxHeartbeats 4000000 in
set_option maxRecDepth 100000 in
theorem t_X5_ticks_L24 {g : Gv} {ad : Nat → Nat} {l : Launch} {p : Program} {e : Env} {s : State} {m : MethodId} {args : Array Value} {below : List Frame} {meth : Method} {c : Code} (C : Cx g p s m args meth c "StairBowsModel" cX5_ticks 3 none)   {K : Mem → Prop}    : ∀ (n : Nat) (v1 : Int32) (μ : Mem) (H : Heap) (locs : List Loc) (ls : Array Slot), wp_X5_ticks_L24 K n v1 μ → Wd g ad μ (Aw ad s.heap.size) s H locs → lv_has ls 3 [(0, .ref (ad 287)), (1, .int v1)] → W p l e rm_X5_ticks s m args below meth c H locs 0 0 (MQ below (PostV g ad s.heap.size K) args s 0 0 (Aw ad s.heap.size)) (F0 m 24 ls []) := by
  obtain ⟨hx, hb, hml, -, hts, hown, -, -, hN⟩ := id C
  intro n
  induction n with
  | zero =>
    intro v1 μ H locs ls h w hl
    exact (show False from h).elim
  | succ n ih =>
    intro v1 μ H locs ls h w hl
    rw [wp_X5_ticks_L24_s] at h
    dsimp only at h
    refine lv_iload_n hx hb dX5_ticks_24 rfl (lv_at hl 1 rfl) ?_
    refine lv_if_le (tgt := 86) hx hb dX5_ticks_25 (by decide) (fun c_2 => ?_) (fun c_2 => ?_)
    · have h := h.1 c_2
      refine lv_aload_n hx hb dX5_ticks_86 rfl (lv_at hl 0 rfl) ?_
      refine x_getM C w (k := 0) (v := .ref (ad 288)) (by decide) rfl mf_StairBowsModel_7 dX5_ticks_87 ?_
      refine lv_iconst (v := 3) hx hb dX5_ticks_90 (by decide) ?_
      refine lv_dup2_11 hx hb dX5_ticks_91 rfl rfl ?_
      refine x_iald C w (i := 288) (K := 20) (j := 3) (n := 225) (jn := 3) rfl (rfl : kd 288 = 20) (by decide) rfl (show vp_in 3 225 from vp_lit (by decide) (by decide)) dX5_ticks_92 ?_
      refine lv_iconst (v := 1) hx hb dX5_ticks_93 (by decide) ?_
      refine lv_iadd hx hb dX5_ticks_94 ?_
      refine x_iast C w (i := 288) (K := 20) (n := 225) (jn := 3) rfl (rfl : kd 288 = 20) (by decide) (fun _ => rfl) (show vp_in 3 225 from vp_lit (by decide) (by decide)) dX5_ticks_95 (fun m_3 e_4 H locs w => ?_)
      have h := h m_3 e_4
      exact x_vret C w h dX5_ticks_96
    · have h := h.2 c_2
      refine lv_iconst (v := 0) hx hb dX5_ticks_28 (by decide) ?_
      refine lv_istore_n (lv' := [(2, .int 0), (0, .ref (ad 287)), (1, .int v1)]) hx hb dX5_ticks_29 rfl hl (by decide) rfl (fun ls hl => ?_)
      obtain ⟨n_14, h⟩ := h
      exact t_X5_ticks_L30 C ih n_14 0 μ _ _ _ h w (lv_sub hl [1, 2, 0] rfl)
set_option maxHeartbeats 4000000 in
set_option maxRecDepth 100000 in
theorem t_X5_ticks_L2 {g : Gv} {ad : Nat → Nat} {l : Launch} {p : Program} {e : Env} {s : State} {m : MethodId} {args : Array Value} {below : List Frame} {meth : Method} {c : Code} (C : Cx g p s m args meth c "StairBowsModel" cX5_ticks 3 none)   {K : Mem → Prop}    : ∀ (n : Nat) (v1 : Int32) (μ : Mem) (H : Heap) (locs : List Loc) (ls : Array Slot), wp_X5_ticks_L2 K n v1 μ → Wd g ad μ (Aw ad s.heap.size) s H locs → lv_has ls 3 [(0, .ref (ad 287)), (1, .int v1)] → W p l e rm_X5_ticks s m args below meth c H locs 0 0 (MQ below (PostV g ad s.heap.size K) args s 0 0 (Aw ad s.heap.size)) (F0 m 2 ls []) := by
  obtain ⟨hx, hb, hml, -, hts, hown, -, -, hN⟩ := id C
  intro n
  induction n with
  | zero =>
    intro v1 μ H locs ls h w hl
    exact (show False from h).elim
  | succ n ih =>
    intro v1 μ H locs ls h w hl
    rw [wp_X5_ticks_L2_s] at h
    dsimp only at h
    refine lv_iload_n hx hb dX5_ticks_2 rfl (lv_at hl 1 rfl) ?_
    refine lv_bipush (v := 24) hx hb dX5_ticks_3 (by decide) ?_
    refine lv_icmp_ge (tgt := 21) hx hb dX5_ticks_5 (by decide) (fun c_1 => ?_) (fun c_1 => ?_)
    · have h := h.1 c_1
      refine lv_bipush (v := 9) hx hb dX5_ticks_21 (by decide) ?_
      refine lv_istore_n (lv' := [(1, .int 9), (0, .ref (ad 287))]) hx hb dX5_ticks_23 rfl hl (by decide) rfl (fun ls hl => ?_)
      obtain ⟨n_15, h⟩ := h
      exact t_X5_ticks_L24 C n_15 9 μ _ _ _ h w (lv_sub hl [1, 0] rfl)
    · have h := h.2 c_1
      refine lv_aload_n hx hb dX5_ticks_8 rfl (lv_at hl 0 rfl) ?_
      refine x_getM C w (k := 6) (v := .ref (ad 293)) (by decide) rfl mf_StairBowsModel_25 dX5_ticks_9 ?_
      refine lv_iload_n hx hb dX5_ticks_12 rfl (lv_at hl 1 rfl) ?_
      refine lv_iconst (v := 0) hx hb dX5_ticks_13 (by decide) ?_
      refine x_iast C w (i := 293) (K := 25) (n := 24) (jn := v1.toNatClampNeg) rfl (rfl : kd 293 = 25) (by decide) (fun _ => rfl) (show vp_in v1 24 from h.1) dX5_ticks_14 (fun m_16 e_17 H locs w => ?_)
      have h := h.2 m_16 e_17
      refine lv_iinc (v := (v1 + 1)) (lv' := [(1, .int (v1 + 1)), (0, .ref (ad 287))]) hx hb dX5_ticks_15 hl (k := 1) rfl rfl (by decide) rfl (fun ls hl => ?_)
      refine lv_goto (tgt := 2) hx hb dX5_ticks_18 (by decide) ?_
      exact ih (v1 + 1) m_16 _ _ _ h w (lv_sub hl [1, 0] rfl)
set_option maxHeartbeats 4000000 in
set_option maxRecDepth 100000 in
theorem c_X5_ticks (l : Launch) (g : Gv) (ad : Nat → Nat) (μ : Mem) (sz : Nat)  {K : Mem → Prop} (h : wp_X5_ticks μ K) : Met l yX5_ticks (wX yX5_ticks cX5_ticks 3 none) rm_X5_ticks (Pre g ad μ sz [.ref (ad 287)]) (PostV g ad sz K) 0 0 (Aw ad sz) := by
  refine Met.ofW (cc := cX5_ticks) (maxL := 3) (ret := none) (by decide) rfl ?_
  intro p e s m args below meth c s₁ B hml hv
  obtain ⟨rfl, rfl, C, w⟩ := x_start B hml hv
  obtain ⟨hx, hb, hml, -, hts, hown, -, -, hN⟩ := id C
  have hl := lv_entry ([.ref (ad 287)]) (n := 3) (Nat.le_of_ble_eq_true rfl)
  rw [lg_entry_eq]
  generalize (lg_sl ([.ref (ad 287)]) ++ List.replicate (3 - (lg_sl ([.ref (ad 287)])).length) Slot.unset).toArray = ls at hl ⊢
  have hl : lv_has ls 3 [(0, .ref (ad 287))] := hl
  show W p l e rm_X5_ticks s m _ below meth c s.heap [] 0 0 _ _
  unfold wp_X5_ticks at h
  refine lv_iconst (v := 0) hx hb dX5_ticks_0 (by decide) ?_
  refine lv_istore_n (lv' := [(1, .int 0), (0, .ref (ad 287))]) hx hb dX5_ticks_1 rfl hl (by decide) rfl (fun ls hl => ?_)
  obtain ⟨n_18, h⟩ := h
  exact t_X5_ticks_L2 C n_18 0 μ _ _ _ h w (lv_sub hl [1, 0] rfl)
abbrev rm_X5_thatAre : Room := { frames := 1, cells := 0, slots := 0, locals := 22 }
noncomputable def wp_X5_thatAre_L4 (v1 : Int32) (K : Int32 → Mem → Prop) (n : Nat) : Int32 → Int32 → Mem → Prop :=
  Nat.rec (motive := fun _ => Int32 → Int32 → Mem → Prop) (fun _ _ _ => False) (fun _ ih v2 v3 μ =>
    (((μ 288 4) ≤ v3 → K v2 μ) ∧ (¬ (μ 288 4) ≤ v3 → (wp_X5_get v3 2 μ (fun r_3 m_2 => ((¬ r_3 = v1 → ih (v2 + 0) (v3 + 1) m_2) ∧ (r_3 = v1 → ih (v2 + 1) (v3 + 1) m_2))))))) n
theorem wp_X5_thatAre_L4_s (v1 : Int32) (K : Int32 → Mem → Prop) (n : Nat) (v2 : Int32) (v3 : Int32) (μ : Mem) : wp_X5_thatAre_L4 v1 K (n + 1) v2 v3 μ = (
    let ih := wp_X5_thatAre_L4 v1 K n
    (((μ 288 4) ≤ v3 → K v2 μ) ∧ (¬ (μ 288 4) ≤ v3 → (wp_X5_get v3 2 μ (fun r_3 m_2 => ((¬ r_3 = v1 → ih (v2 + 0) (v3 + 1) m_2) ∧ (r_3 = v1 → ih (v2 + 1) (v3 + 1) m_2))))))) := rfl
noncomputable def wp_X5_thatAre (a1 : Int32) (μ : Mem) (K : Int32 → Mem → Prop) : Prop :=
    (∃ n, wp_X5_thatAre_L4 a1 K n 0 0 μ)
set_option maxHeartbeats 4000000 in
set_option maxRecDepth 100000 in
theorem t_X5_thatAre_L4 {g : Gv} {ad : Nat → Nat} {l : Launch} {p : Program} {e : Env} {s : State} {m : MethodId} {args : Array Value} {below : List Frame} {meth : Method} {c : Code} (C : Cx g p s m args meth c "StairBowsModel" cX5_thatAre 4 (some .int)) {v1 : Int32}  {K : Int32 → Mem → Prop}    : ∀ (n : Nat) (v2 : Int32) (v3 : Int32) (μ : Mem) (H : Heap) (locs : List Loc) (ls : Array Slot), wp_X5_thatAre_L4 v1 K n v2 v3 μ → Wd g ad μ (Aw ad s.heap.size) s H locs → lv_has ls 4 [(0, .ref (ad 287)), (1, .int v1), (2, .int v2), (3, .int v3)] → W p l e rm_X5_thatAre s m args below meth c H locs 0 0 (MQ below (PostI g ad s.heap.size K) args s 0 0 (Aw ad s.heap.size)) (F0 m 4 ls []) := by
  obtain ⟨hx, hb, hml, -, hts, hown, -, -, hN⟩ := id C
  intro n
  induction n with
  | zero =>
    intro v2 v3 μ H locs ls h w hl
    exact (show False from h).elim
  | succ n ih =>
    intro v2 v3 μ H locs ls h w hl
    rw [wp_X5_thatAre_L4_s] at h
    dsimp only at h
    refine lv_iload_n hx hb dX5_thatAre_4 rfl (lv_at hl 3 rfl) ?_
    refine lv_aload_n hx hb dX5_thatAre_5 rfl (lv_at hl 0 rfl) ?_
    refine x_getM C w (k := 0) (v := .ref (ad 288)) (by decide) rfl mf_StairBowsModel_7 dX5_thatAre_6 ?_
    refine lv_iconst (v := 4) hx hb dX5_thatAre_9 (by decide) ?_
    refine x_iald C w (i := 288) (K := 20) (j := 4) (n := 225) (jn := 4) rfl (rfl : kd 288 = 20) (by decide) rfl (show vp_in 4 225 from vp_lit (by decide) (by decide)) dX5_thatAre_10 ?_
    refine lv_icmp_ge (tgt := 38) hx hb dX5_thatAre_11 (by decide) (fun c_1 => ?_) (fun c_1 => ?_)
    · have h := h.1 c_1
      refine lv_iload_n hx hb dX5_thatAre_38 rfl (lv_at hl 2 rfl) ?_
      exact x_iret C w h dX5_thatAre_39
    · have h := h.2 c_1
      refine lv_iload_n hx hb dX5_thatAre_14 rfl (lv_at hl 2 rfl) ?_
      refine lv_aload_n hx hb dX5_thatAre_15 rfl (lv_at hl 0 rfl) ?_
      refine lv_iload_n hx hb dX5_thatAre_16 rfl (lv_at hl 3 rfl) ?_
      refine lv_iconst (v := 2) hx hb dX5_thatAre_17 (by decide) ?_
      refine x_calli C w (x_runV (i := 287) (As := [.int v3, .int 2]) (rest := [.int v2]) C w (rfl : kd 287 = 7) (by decide) (ci := 5) rfl rfl rfl me_X5_get ml_StairBowsModel_41 (c_X5_get l g ad μ _ v3 2 h) ⟨rfl, rfl⟩ ⟨Nat.le_of_ble_eq_true rfl, Nat.le_of_ble_eq_true rfl⟩ rfl hl.1 rfl (Nat.le_of_ble_eq_true rfl) dX5_thatAre_18 ⟨Nat.le_of_ble_eq_true rfl, Nat.le_of_ble_eq_true rfl⟩) (fun r_3 m_2 h H locs w => ?_)
      refine lv_iload_n hx hb dX5_thatAre_21 rfl (lv_at hl 1 rfl) ?_
      refine lv_icmp_ne (tgt := 29) hx hb dX5_thatAre_22 (by decide) (fun c_4 => ?_) (fun c_4 => ?_)
      · have h := h.1 c_4
        refine lv_iconst (v := 0) hx hb dX5_thatAre_29 (by decide) ?_
        refine lv_iadd hx hb dX5_thatAre_30 ?_
        refine lv_istore_n (lv' := [(2, .int (v2 + 0)), (0, .ref (ad 287)), (1, .int v1), (3, .int v3)]) hx hb dX5_thatAre_31 rfl hl (by decide) rfl (fun ls hl => ?_)
        refine lv_iinc (v := (v3 + 1)) (lv' := [(3, .int (v3 + 1)), (2, .int (v2 + 0)), (0, .ref (ad 287)), (1, .int v1)]) hx hb dX5_thatAre_32 hl (k := 3) rfl rfl (by decide) rfl (fun ls hl => ?_)
        refine lv_goto (tgt := 4) hx hb dX5_thatAre_35 (by decide) ?_
        exact ih (v2 + 0) (v3 + 1) m_2 _ _ _ h w (lv_sub hl [2, 3, 1, 0] rfl)
      · have h := h.2 c_4
        refine lv_iconst (v := 1) hx hb dX5_thatAre_25 (by decide) ?_
        refine lv_goto (tgt := 30) hx hb dX5_thatAre_26 (by decide) ?_
        refine lv_iadd hx hb dX5_thatAre_30 ?_
        refine lv_istore_n (lv' := [(2, .int (v2 + 1)), (0, .ref (ad 287)), (1, .int v1), (3, .int v3)]) hx hb dX5_thatAre_31 rfl hl (by decide) rfl (fun ls hl => ?_)
        refine lv_iinc (v := (v3 + 1)) (lv' := [(3, .int (v3 + 1)), (2, .int (v2 + 1)), (0, .ref (ad 287)), (1, .int v1)]) hx hb dX5_thatAre_32 hl (k := 3) rfl rfl (by decide) rfl (fun ls hl => ?_)
        refine lv_goto (tgt := 4) hx hb dX5_thatAre_35 (by decide) ?_
        exact ih (v2 + 1) (v3 + 1) m_2 _ _ _ h w (lv_sub hl [2, 3, 1, 0] rfl)
set_option maxHeartbeats 4000000 in
set_option maxRecDepth 100000 in
theorem c_X5_thatAre (l : Launch) (g : Gv) (ad : Nat → Nat) (μ : Mem) (sz : Nat) (a1 : Int32) {K : Int32 → Mem → Prop} (h : wp_X5_thatAre a1 μ K) : Met l yX5_thatAre (wX yX5_thatAre cX5_thatAre 4 (some .int)) rm_X5_thatAre (Pre g ad μ sz [.ref (ad 287), .int a1]) (PostI g ad sz K) 0 0 (Aw ad sz) := by
  refine Met.ofW (cc := cX5_thatAre) (maxL := 4) (ret := (some .int)) (by decide) rfl ?_
  intro p e s m args below meth c s₁ B hml hv
  obtain ⟨rfl, rfl, C, w⟩ := x_start B hml hv
  obtain ⟨hx, hb, hml, -, hts, hown, -, -, hN⟩ := id C
  have hl := lv_entry ([.ref (ad 287), .int a1]) (n := 4) (Nat.le_of_ble_eq_true rfl)
  rw [lg_entry_eq]
  generalize (lg_sl ([.ref (ad 287), .int a1]) ++ List.replicate (4 - (lg_sl ([.ref (ad 287), .int a1])).length) Slot.unset).toArray = ls at hl ⊢
  have hl : lv_has ls 4 [(0, .ref (ad 287)), (1, .int a1)] := hl
  show W p l e rm_X5_thatAre s m _ below meth c s.heap [] 0 0 _ _
  unfold wp_X5_thatAre at h
  refine lv_iconst (v := 0) hx hb dX5_thatAre_0 (by decide) ?_
  refine lv_istore_n (lv' := [(2, .int 0), (0, .ref (ad 287)), (1, .int a1)]) hx hb dX5_thatAre_1 rfl hl (by decide) rfl (fun ls hl => ?_)
  refine lv_iconst (v := 0) hx hb dX5_thatAre_2 (by decide) ?_
  refine lv_istore_n (lv' := [(3, .int 0), (2, .int 0), (0, .ref (ad 287)), (1, .int a1)]) hx hb dX5_thatAre_3 rfl hl (by decide) rfl (fun ls hl => ?_)
  obtain ⟨n_5, h⟩ := h
  exact t_X5_thatAre_L4 C n_5 0 0 μ _ _ _ h w (lv_sub hl [2, 3, 1, 0] rfl)
abbrev rm_X5_isSetting : Room := { frames := 1, cells := 0, slots := 0, locals := 25 }
noncomputable def wp_X5_isSetting (a0 : Int32) (a1 : Int32) (μ : Mem) (K : Int32 → Mem → Prop) : Prop :=
    (((a0.toInt < 0 ∨ 2 < a0.toInt) → K 0 μ) ∧ (a0.toInt = 0 → (wp_X5_in (Int32.toInt64 a1) 1 4 μ (fun r_3 m_2 => (bz r_3 ∧ K r_3 m_2)))) ∧ (a0.toInt = 1 → (wp_X5_in (Int32.toInt64 a1) 1 5 μ (fun r_6 m_5 => (bz r_6 ∧ K r_6 m_5)))) ∧ (a0.toInt = 2 → (wp_X5_in (Int32.toInt64 a1) 0 9 μ (fun r_9 m_8 => (bz r_9 ∧ K r_9 m_8)))))
set_option maxHeartbeats 4000000 in
set_option maxRecDepth 100000 in
theorem c_X5_isSetting (l : Launch) (g : Gv) (ad : Nat → Nat) (μ : Mem) (sz : Nat) (a0 : Int32) (a1 : Int32) {K : Int32 → Mem → Prop} (h : wp_X5_isSetting a0 a1 μ K) : Met l yX5_isSetting (wX yX5_isSetting cX5_isSetting 2 (some .boolean)) rm_X5_isSetting (Pre g ad μ sz [.int a0, .int a1]) (PostI g ad sz K) 0 0 (Aw ad sz) := by
  refine Met.ofW (cc := cX5_isSetting) (maxL := 2) (ret := (some .boolean)) (by decide) rfl ?_
  intro p e s m args below meth c s₁ B hml hv
  obtain ⟨rfl, rfl, C, w⟩ := x_start B hml hv
  obtain ⟨hx, hb, hml, -, hts, hown, -, -, hN⟩ := id C
  have hl := lv_entry ([.int a0, .int a1]) (n := 2) (Nat.le_of_ble_eq_true rfl)
  rw [lg_entry_eq]
  generalize (lg_sl ([.int a0, .int a1]) ++ List.replicate (2 - (lg_sl ([.int a0, .int a1])).length) Slot.unset).toArray = ls at hl ⊢
  have hl : lv_has ls 2 [(0, .int a0), (1, .int a1)] := hl
  show W p l e rm_X5_isSetting s m _ below meth c s.heap [] 0 0 _ _
  unfold wp_X5_isSetting at h
  refine lv_iload_n hx hb dX5_isSetting_0 rfl (lv_at hl 0 rfl) ?_
  by_cases c_1 : a0.toInt < 0 ∨ 2 < a0.toInt
  · have h := h.1 c_1
    refine lv_tableOut (tgt := 58) hx hb dX5_isSetting_1 c_1 (by decide) ?_
    refine lv_iconst (v := 0) hx hb dX5_isSetting_58 (by decide) ?_
    exact x_zret C w (show bz 0 from Or.inl rfl) h dX5_isSetting_59
  · by_cases c_4 : a0.toInt = 0
    · have h := h.2.1 c_4
      refine lv_tableIn (off := 27) (tgt := 28) hx hb dX5_isSetting_1 (by omega) (by omega) (by rw [c_4]; rfl) (by decide) ?_
      refine lv_iload_n hx hb dX5_isSetting_28 rfl (lv_at hl 1 rfl) ?_
      refine lv_i2l (v := (Int32.toInt64 a1)) hx hb dX5_isSetting_29 rfl ?_
      refine lv_lconst (v := 1) hx hb dX5_isSetting_30 (by decide) ?_
      refine lv_ldc2 (v := 4) hx hb hown (hts _ mk_StairBowsModel_96) dX5_isSetting_31 ?_
      refine x_calli C w (x_runS (As := [.long (Int32.toInt64 a1), .long 1, .long 4]) (rest := []) C w me_X5_in ml_StairBowsModel_35 (c_X5_in l g ad μ _ (Int32.toInt64 a1) 1 4 h) ⟨rfl, rfl⟩ ⟨Nat.le_of_ble_eq_true rfl, Nat.le_of_ble_eq_true rfl⟩ rfl hl.1 rfl (Nat.le_of_ble_eq_true rfl) dX5_isSetting_34 ⟨Nat.le_of_ble_eq_true rfl, Nat.le_of_ble_eq_true rfl⟩) (fun r_3 m_2 h H locs w => ?_)
      exact x_zret C w h.1 h.2 dX5_isSetting_37
    · by_cases c_7 : a0.toInt = 1
      · have h := h.2.2.1 c_7
        refine lv_tableIn (off := 37) (tgt := 38) hx hb dX5_isSetting_1 (by omega) (by omega) (by rw [c_7]; rfl) (by decide) ?_
        refine lv_iload_n hx hb dX5_isSetting_38 rfl (lv_at hl 1 rfl) ?_
        refine lv_i2l (v := (Int32.toInt64 a1)) hx hb dX5_isSetting_39 rfl ?_
        refine lv_lconst (v := 1) hx hb dX5_isSetting_40 (by decide) ?_
        refine lv_ldc2 (v := 5) hx hb hown (hts _ mk_StairBowsModel_98) dX5_isSetting_41 ?_
        refine x_calli C w (x_runS (As := [.long (Int32.toInt64 a1), .long 1, .long 5]) (rest := []) C w me_X5_in ml_StairBowsModel_35 (c_X5_in l g ad μ _ (Int32.toInt64 a1) 1 5 h) ⟨rfl, rfl⟩ ⟨Nat.le_of_ble_eq_true rfl, Nat.le_of_ble_eq_true rfl⟩ rfl hl.1 rfl (Nat.le_of_ble_eq_true rfl) dX5_isSetting_44 ⟨Nat.le_of_ble_eq_true rfl, Nat.le_of_ble_eq_true rfl⟩) (fun r_6 m_5 h H locs w => ?_)
        exact x_zret C w h.1 h.2 dX5_isSetting_47
      · have c_10 : a0.toInt = 2 := by omega
        have h := h.2.2.2 c_10
        refine lv_tableIn (off := 47) (tgt := 48) hx hb dX5_isSetting_1 (by omega) (by omega) (by rw [c_10]; rfl) (by decide) ?_
        refine lv_iload_n hx hb dX5_isSetting_48 rfl (lv_at hl 1 rfl) ?_
        refine lv_i2l (v := (Int32.toInt64 a1)) hx hb dX5_isSetting_49 rfl ?_
        refine lv_lconst (v := 0) hx hb dX5_isSetting_50 (by decide) ?_
        refine lv_ldc2 (v := 9) hx hb hown (hts _ mk_StairBowsModel_100) dX5_isSetting_51 ?_
        refine x_calli C w (x_runS (As := [.long (Int32.toInt64 a1), .long 0, .long 9]) (rest := []) C w me_X5_in ml_StairBowsModel_35 (c_X5_in l g ad μ _ (Int32.toInt64 a1) 0 9 h) ⟨rfl, rfl⟩ ⟨Nat.le_of_ble_eq_true rfl, Nat.le_of_ble_eq_true rfl⟩ rfl hl.1 rfl (Nat.le_of_ble_eq_true rfl) dX5_isSetting_54 ⟨Nat.le_of_ble_eq_true rfl, Nat.le_of_ble_eq_true rfl⟩) (fun r_9 m_8 h H locs w => ?_)
        exact x_zret C w h.1 h.2 dX5_isSetting_57
abbrev rm_X5_isTooFull : Room := { frames := 3, cells := 0, slots := 0, locals := 67 }
noncomputable def wp_X5_isTooFull_L4 (v1 : Int32) (K : Int32 → Mem → Prop) (n : Nat) : Int32 → Int32 → Mem → Prop :=
  Nat.rec (motive := fun _ => Int32 → Int32 → Mem → Prop) (fun _ _ _ => False) (fun _ ih v2 v3 μ =>
    ((12 ≤ v3 → (bz v2 ∧ K v2 μ)) ∧ (¬ 12 ≤ v3 → ((¬ v2 = 0 → ih 1 (v3 + 1) μ) ∧ (v2 = 0 → (wp_X5_isLanding v3 μ (fun r_4 m_3 => ((r_4 = 0 → ih 0 (v3 + 1) m_3) ∧ (¬ r_4 = 0 → (wp_X5_peopleAt v3 m_3 (fun r_7 m_6 => ((r_7 ≤ v1 → ih 0 (v3 + 1) m_6) ∧ (¬ r_7 ≤ v1 → ih 1 (v3 + 1) m_6))))))))))))) n
theorem wp_X5_isTooFull_L4_s (v1 : Int32) (K : Int32 → Mem → Prop) (n : Nat) (v2 : Int32) (v3 : Int32) (μ : Mem) : wp_X5_isTooFull_L4 v1 K (n + 1) v2 v3 μ = (
    let ih := wp_X5_isTooFull_L4 v1 K n
    ((12 ≤ v3 → (bz v2 ∧ K v2 μ)) ∧ (¬ 12 ≤ v3 → ((¬ v2 = 0 → ih 1 (v3 + 1) μ) ∧ (v2 = 0 → (wp_X5_isLanding v3 μ (fun r_4 m_3 => ((r_4 = 0 → ih 0 (v3 + 1) m_3) ∧ (¬ r_4 = 0 → (wp_X5_peopleAt v3 m_3 (fun r_7 m_6 => ((r_7 ≤ v1 → ih 0 (v3 + 1) m_6) ∧ (¬ r_7 ≤ v1 → ih 1 (v3 + 1) m_6))))))))))))) := rfl
noncomputable def wp_X5_isTooFull (a1 : Int32) (μ : Mem) (K : Int32 → Mem → Prop) : Prop :=
    (∃ n, wp_X5_isTooFull_L4 a1 K n 0 0 μ)
set_option maxHeartbeats 4000000 in
set_option maxRecDepth 100000 in
theorem t_X5_isTooFull_L4 {g : Gv} {ad : Nat → Nat} {l : Launch} {p : Program} {e : Env} {s : State} {m : MethodId} {args : Array Value} {below : List Frame} {meth : Method} {c : Code} (C : Cx g p s m args meth c "StairBowsModel" cX5_isTooFull 4 (some .boolean)) {v1 : Int32}  {K : Int32 → Mem → Prop}    : ∀ (n : Nat) (v2 : Int32) (v3 : Int32) (μ : Mem) (H : Heap) (locs : List Loc) (ls : Array Slot), wp_X5_isTooFull_L4 v1 K n v2 v3 μ → Wd g ad μ (Aw ad s.heap.size) s H locs → lv_has ls 4 [(0, .ref (ad 287)), (1, .int v1), (2, .int v2), (3, .int v3)] → W p l e rm_X5_isTooFull s m args below meth c H locs 0 0 (MQ below (PostI g ad s.heap.size K) args s 0 0 (Aw ad s.heap.size)) (F0 m 4 ls []) := by
  obtain ⟨hx, hb, hml, -, hts, hown, -, -, hN⟩ := id C
  intro n
  induction n with
  | zero =>
    intro v2 v3 μ H locs ls h w hl
    exact (show False from h).elim
  | succ n ih =>
    intro v2 v3 μ H locs ls h w hl
    rw [wp_X5_isTooFull_L4_s] at h
    dsimp only at h
    refine lv_iload_n hx hb dX5_isTooFull_4 rfl (lv_at hl 3 rfl) ?_
    refine lv_bipush (v := 12) hx hb dX5_isTooFull_5 (by decide) ?_
    refine lv_icmp_ge (tgt := 43) hx hb dX5_isTooFull_7 (by decide) (fun c_1 => ?_) (fun c_1 => ?_)
    · have h := h.1 c_1
      refine lv_iload_n hx hb dX5_isTooFull_43 rfl (lv_at hl 2 rfl) ?_
      exact x_zret C w h.1 h.2 dX5_isTooFull_44
    · have h := h.2 c_1
      refine lv_iload_n hx hb dX5_isTooFull_10 rfl (lv_at hl 2 rfl) ?_
      refine lv_if_ne (tgt := 31) hx hb dX5_isTooFull_11 (by decide) (fun c_2 => ?_) (fun c_2 => ?_)
      · have h := h.1 c_2
        refine lv_iconst (v := 1) hx hb dX5_isTooFull_31 (by decide) ?_
        refine lv_goto (tgt := 36) hx hb dX5_isTooFull_32 (by decide) ?_
        refine lv_istore_n (lv' := [(2, .int 1), (0, .ref (ad 287)), (1, .int v1), (3, .int v3)]) hx hb dX5_isTooFull_36 rfl hl (by decide) rfl (fun ls hl => ?_)
        refine lv_iinc (v := (v3 + 1)) (lv' := [(3, .int (v3 + 1)), (2, .int 1), (0, .ref (ad 287)), (1, .int v1)]) hx hb dX5_isTooFull_37 hl (k := 3) rfl rfl (by decide) rfl (fun ls hl => ?_)
        refine lv_goto (tgt := 4) hx hb dX5_isTooFull_40 (by decide) ?_
        exact ih 1 (v3 + 1) μ _ _ _ h w (lv_sub hl [2, 3, 1, 0] rfl)
      · have h := h.2 c_2
        refine lv_aload_n hx hb dX5_isTooFull_14 rfl (lv_at hl 0 rfl) ?_
        refine lv_iload_n hx hb dX5_isTooFull_15 rfl (lv_at hl 3 rfl) ?_
        refine x_calli C w (x_runV (i := 287) (As := [.int v3]) (rest := []) C w (rfl : kd 287 = 7) (by decide) (ci := 5) rfl rfl rfl me_X5_isLanding ml_StairBowsModel_49 (c_X5_isLanding l g ad μ _ v3 h) ⟨rfl, rfl⟩ ⟨Nat.le_of_ble_eq_true rfl, Nat.le_of_ble_eq_true rfl⟩ rfl hl.1 rfl (Nat.le_of_ble_eq_true rfl) dX5_isTooFull_16 ⟨Nat.le_of_ble_eq_true rfl, Nat.le_of_ble_eq_true rfl⟩) (fun r_4 m_3 h H locs w => ?_)
        refine lv_if_eq (tgt := 35) hx hb dX5_isTooFull_19 (by decide) (fun c_5 => ?_) (fun c_5 => ?_)
        · have h := h.1 c_5
          refine lv_iconst (v := 0) hx hb dX5_isTooFull_35 (by decide) ?_
          refine lv_istore_n (lv' := [(2, .int 0), (0, .ref (ad 287)), (1, .int v1), (3, .int v3)]) hx hb dX5_isTooFull_36 rfl hl (by decide) rfl (fun ls hl => ?_)
          refine lv_iinc (v := (v3 + 1)) (lv' := [(3, .int (v3 + 1)), (2, .int 0), (0, .ref (ad 287)), (1, .int v1)]) hx hb dX5_isTooFull_37 hl (k := 3) rfl rfl (by decide) rfl (fun ls hl => ?_)
          refine lv_goto (tgt := 4) hx hb dX5_isTooFull_40 (by decide) ?_
          exact ih 0 (v3 + 1) m_3 _ _ _ h w (lv_sub hl [2, 3, 1, 0] rfl)
        · have h := h.2 c_5
          refine lv_aload_n hx hb dX5_isTooFull_22 rfl (lv_at hl 0 rfl) ?_
          refine lv_iload_n hx hb dX5_isTooFull_23 rfl (lv_at hl 3 rfl) ?_
          refine x_calli C w (x_runV (i := 287) (As := [.int v3]) (rest := []) C w (rfl : kd 287 = 7) (by decide) (ci := 5) rfl rfl rfl me_X5_peopleAt ml_StairBowsModel_53 (c_X5_peopleAt l g ad m_3 _ v3 h) ⟨rfl, rfl⟩ ⟨Nat.le_of_ble_eq_true rfl, Nat.le_of_ble_eq_true rfl⟩ rfl hl.1 rfl (Nat.le_of_ble_eq_true rfl) dX5_isTooFull_24 ⟨Nat.le_of_ble_eq_true rfl, Nat.le_of_ble_eq_true rfl⟩) (fun r_7 m_6 h H locs w => ?_)
          refine lv_iload_n hx hb dX5_isTooFull_27 rfl (lv_at hl 1 rfl) ?_
          refine lv_icmp_le (tgt := 35) hx hb dX5_isTooFull_28 (by decide) (fun c_8 => ?_) (fun c_8 => ?_)
          · have h := h.1 c_8
            refine lv_iconst (v := 0) hx hb dX5_isTooFull_35 (by decide) ?_
            refine lv_istore_n (lv' := [(2, .int 0), (0, .ref (ad 287)), (1, .int v1), (3, .int v3)]) hx hb dX5_isTooFull_36 rfl hl (by decide) rfl (fun ls hl => ?_)
            refine lv_iinc (v := (v3 + 1)) (lv' := [(3, .int (v3 + 1)), (2, .int 0), (0, .ref (ad 287)), (1, .int v1)]) hx hb dX5_isTooFull_37 hl (k := 3) rfl rfl (by decide) rfl (fun ls hl => ?_)
            refine lv_goto (tgt := 4) hx hb dX5_isTooFull_40 (by decide) ?_
            exact ih 0 (v3 + 1) m_6 _ _ _ h w (lv_sub hl [2, 3, 1, 0] rfl)
          · have h := h.2 c_8
            refine lv_iconst (v := 1) hx hb dX5_isTooFull_31 (by decide) ?_
            refine lv_goto (tgt := 36) hx hb dX5_isTooFull_32 (by decide) ?_
            refine lv_istore_n (lv' := [(2, .int 1), (0, .ref (ad 287)), (1, .int v1), (3, .int v3)]) hx hb dX5_isTooFull_36 rfl hl (by decide) rfl (fun ls hl => ?_)
            refine lv_iinc (v := (v3 + 1)) (lv' := [(3, .int (v3 + 1)), (2, .int 1), (0, .ref (ad 287)), (1, .int v1)]) hx hb dX5_isTooFull_37 hl (k := 3) rfl rfl (by decide) rfl (fun ls hl => ?_)
            refine lv_goto (tgt := 4) hx hb dX5_isTooFull_40 (by decide) ?_
            exact ih 1 (v3 + 1) m_6 _ _ _ h w (lv_sub hl [2, 3, 1, 0] rfl)
set_option maxHeartbeats 4000000 in
set_option maxRecDepth 100000 in
theorem c_X5_isTooFull (l : Launch) (g : Gv) (ad : Nat → Nat) (μ : Mem) (sz : Nat) (a1 : Int32) {K : Int32 → Mem → Prop} (h : wp_X5_isTooFull a1 μ K) : Met l yX5_isTooFull (wX yX5_isTooFull cX5_isTooFull 4 (some .boolean)) rm_X5_isTooFull (Pre g ad μ sz [.ref (ad 287), .int a1]) (PostI g ad sz K) 0 0 (Aw ad sz) := by
  refine Met.ofW (cc := cX5_isTooFull) (maxL := 4) (ret := (some .boolean)) (by decide) rfl ?_
  intro p e s m args below meth c s₁ B hml hv
  obtain ⟨rfl, rfl, C, w⟩ := x_start B hml hv
  obtain ⟨hx, hb, hml, -, hts, hown, -, -, hN⟩ := id C
  have hl := lv_entry ([.ref (ad 287), .int a1]) (n := 4) (Nat.le_of_ble_eq_true rfl)
  rw [lg_entry_eq]
  generalize (lg_sl ([.ref (ad 287), .int a1]) ++ List.replicate (4 - (lg_sl ([.ref (ad 287), .int a1])).length) Slot.unset).toArray = ls at hl ⊢
  have hl : lv_has ls 4 [(0, .ref (ad 287)), (1, .int a1)] := hl
  show W p l e rm_X5_isTooFull s m _ below meth c s.heap [] 0 0 _ _
  unfold wp_X5_isTooFull at h
  refine lv_iconst (v := 0) hx hb dX5_isTooFull_0 (by decide) ?_
  refine lv_istore_n (lv' := [(2, .int 0), (0, .ref (ad 287)), (1, .int a1)]) hx hb dX5_isTooFull_1 rfl hl (by decide) rfl (fun ls hl => ?_)
  refine lv_iconst (v := 0) hx hb dX5_isTooFull_2 (by decide) ?_
  refine lv_istore_n (lv' := [(3, .int 0), (2, .int 0), (0, .ref (ad 287)), (1, .int a1)]) hx hb dX5_isTooFull_3 rfl hl (by decide) rfl (fun ls hl => ?_)
  obtain ⟨n_9, h⟩ := h
  exact t_X5_isTooFull_L4 C n_9 0 0 μ _ _ _ h w (lv_sub hl [2, 3, 1, 0] rfl)
abbrev rm_X5_set : Room := { frames := 4, cells := 0, slots := 0, locals := 90 }
noncomputable def wp_X5_set (a1 : Int32) (a2 : Int32) (μ : Mem) (K : Int32 → Mem → Prop) : Prop :=
    (wp_X5_isSetting a1 a2 μ (fun r_2 m_1 => ((¬ r_2 = 0 → ((¬ a1 = 0 → (wp_X5_changes m_1 (fun m_5 => (vp_in a1 225 ∧ (vp_in a1 225 ∧ (∀ m_6, m_6 = up2 m_5 288 a1.toNatClampNeg a2 → K (m_5 288 a1.toNatClampNeg) m_6)))))) ∧ (a1 = 0 → (wp_X5_isTooFull a2 m_1 (fun r_9 m_8 => ((r_9 = 0 → (wp_X5_changes m_8 (fun m_11 => (vp_in a1 225 ∧ (vp_in a1 225 ∧ (∀ m_12, m_12 = up2 m_11 288 a1.toNatClampNeg a2 → K (m_11 288 a1.toNatClampNeg) m_12)))))) ∧ (¬ r_9 = 0 → K (-5) m_8))))))) ∧ (r_2 = 0 → K (-2) m_1))))
set_option maxHeartbeats 4000000 in
set_option maxRecDepth 100000 in
theorem c_X5_set (l : Launch) (g : Gv) (ad : Nat → Nat) (μ : Mem) (sz : Nat) (a1 : Int32) (a2 : Int32) {K : Int32 → Mem → Prop} (h : wp_X5_set a1 a2 μ K) : Met l yX5_set (wX yX5_set cX5_set 4 (some .int)) rm_X5_set (Pre g ad μ sz [.ref (ad 287), .int a1, .int a2]) (PostI g ad sz K) 0 0 (Aw ad sz) := by
  refine Met.ofW (cc := cX5_set) (maxL := 4) (ret := (some .int)) (by decide) rfl ?_
  intro p e s m args below meth c s₁ B hml hv
  obtain ⟨rfl, rfl, C, w⟩ := x_start B hml hv
  obtain ⟨hx, hb, hml, -, hts, hown, -, -, hN⟩ := id C
  have hl := lv_entry ([.ref (ad 287), .int a1, .int a2]) (n := 4) (Nat.le_of_ble_eq_true rfl)
  rw [lg_entry_eq]
  generalize (lg_sl ([.ref (ad 287), .int a1, .int a2]) ++ List.replicate (4 - (lg_sl ([.ref (ad 287), .int a1, .int a2])).length) Slot.unset).toArray = ls at hl ⊢
  have hl : lv_has ls 4 [(0, .ref (ad 287)), (1, .int a1), (2, .int a2)] := hl
  show W p l e rm_X5_set s m _ below meth c s.heap [] 0 0 _ _
  unfold wp_X5_set at h
  refine lv_iload_n hx hb dX5_set_0 rfl (lv_at hl 1 rfl) ?_
  refine lv_iload_n hx hb dX5_set_1 rfl (lv_at hl 2 rfl) ?_
  refine x_calli C w (x_runS (As := [.int a1, .int a2]) (rest := []) C w me_X5_isSetting ml_StairBowsModel_102 (c_X5_isSetting l g ad μ _ a1 a2 h) ⟨rfl, rfl⟩ ⟨Nat.le_of_ble_eq_true rfl, Nat.le_of_ble_eq_true rfl⟩ rfl hl.1 rfl (Nat.le_of_ble_eq_true rfl) dX5_set_2 ⟨Nat.le_of_ble_eq_true rfl, Nat.le_of_ble_eq_true rfl⟩) (fun r_2 m_1 h H locs w => ?_)
  refine lv_if_ne (tgt := 11) hx hb dX5_set_5 (by decide) (fun c_3 => ?_) (fun c_3 => ?_)
  · have h := h.1 c_3
    refine lv_iload_n hx hb dX5_set_11 rfl (lv_at hl 1 rfl) ?_
    refine lv_if_ne (tgt := 26) hx hb dX5_set_12 (by decide) (fun c_4 => ?_) (fun c_4 => ?_)
    · have h := h.1 c_4
      refine lv_aload_n hx hb dX5_set_26 rfl (lv_at hl 0 rfl) ?_
      refine x_callv C w (x_runV (i := 287) (As := []) (rest := []) C w (rfl : kd 287 = 7) (by decide) (ci := 5) rfl rfl rfl me_X5_changes ml_StairBowsModel_108 (c_X5_changes l g ad m_1 _  h) ⟨rfl, rfl⟩ ⟨Nat.le_of_ble_eq_true rfl, Nat.le_of_ble_eq_true rfl⟩ rfl hl.1 rfl (Nat.le_of_ble_eq_true rfl) dX5_set_27 ⟨Nat.le_of_ble_eq_true rfl, Nat.le_of_ble_eq_true rfl⟩) (fun m_5 h H locs w => ?_)
      refine lv_aload_n hx hb dX5_set_30 rfl (lv_at hl 0 rfl) ?_
      refine x_getM C w (k := 0) (v := .ref (ad 288)) (by decide) rfl mf_StairBowsModel_7 dX5_set_31 ?_
      refine lv_iload_n hx hb dX5_set_34 rfl (lv_at hl 1 rfl) ?_
      refine x_iald C w (i := 288) (K := 20) (j := a1) (n := 225) (jn := a1.toNatClampNeg) rfl (rfl : kd 288 = 20) (by decide) rfl (show vp_in a1 225 from h.1) dX5_set_35 ?_
      have h := h.2
      refine lv_istore_n (lv' := [(3, .int (m_5 288 a1.toNatClampNeg)), (0, .ref (ad 287)), (1, .int a1), (2, .int a2)]) hx hb dX5_set_36 rfl hl (by decide) rfl (fun ls hl => ?_)
      refine lv_aload_n hx hb dX5_set_37 rfl (lv_at hl 1 rfl) ?_
      refine x_getM C w (k := 0) (v := .ref (ad 288)) (by decide) rfl mf_StairBowsModel_7 dX5_set_38 ?_
      refine lv_iload_n hx hb dX5_set_41 rfl (lv_at hl 2 rfl) ?_
      refine lv_iload_n hx hb dX5_set_42 rfl (lv_at hl 3 rfl) ?_
      refine x_iast C w (i := 288) (K := 20) (n := 225) (jn := a1.toNatClampNeg) rfl (rfl : kd 288 = 20) (by decide) (fun _ => rfl) (show vp_in a1 225 from h.1) dX5_set_43 (fun m_6 e_7 H locs w => ?_)
      have h := h.2 m_6 e_7
      refine lv_iload_n hx hb dX5_set_44 rfl (lv_at hl 0 rfl) ?_
      exact x_iret C w h dX5_set_45
    · have h := h.2 c_4
      refine lv_aload_n hx hb dX5_set_15 rfl (lv_at hl 0 rfl) ?_
      refine lv_iload_n hx hb dX5_set_16 rfl (lv_at hl 2 rfl) ?_
      refine x_calli C w (x_runV (i := 287) (As := [.int a2]) (rest := []) C w (rfl : kd 287 = 7) (by decide) (ci := 5) rfl rfl rfl me_X5_isTooFull ml_StairBowsModel_105 (c_X5_isTooFull l g ad m_1 _ a2 h) ⟨rfl, rfl⟩ ⟨Nat.le_of_ble_eq_true rfl, Nat.le_of_ble_eq_true rfl⟩ rfl hl.1 rfl (Nat.le_of_ble_eq_true rfl) dX5_set_17 ⟨Nat.le_of_ble_eq_true rfl, Nat.le_of_ble_eq_true rfl⟩) (fun r_9 m_8 h H locs w => ?_)
      refine lv_if_eq (tgt := 26) hx hb dX5_set_20 (by decide) (fun c_10 => ?_) (fun c_10 => ?_)
      · have h := h.1 c_10
        refine lv_aload_n hx hb dX5_set_26 rfl (lv_at hl 0 rfl) ?_
        refine x_callv C w (x_runV (i := 287) (As := []) (rest := []) C w (rfl : kd 287 = 7) (by decide) (ci := 5) rfl rfl rfl me_X5_changes ml_StairBowsModel_108 (c_X5_changes l g ad m_8 _  h) ⟨rfl, rfl⟩ ⟨Nat.le_of_ble_eq_true rfl, Nat.le_of_ble_eq_true rfl⟩ rfl hl.1 rfl (Nat.le_of_ble_eq_true rfl) dX5_set_27 ⟨Nat.le_of_ble_eq_true rfl, Nat.le_of_ble_eq_true rfl⟩) (fun m_11 h H locs w => ?_)
        refine lv_aload_n hx hb dX5_set_30 rfl (lv_at hl 0 rfl) ?_
        refine x_getM C w (k := 0) (v := .ref (ad 288)) (by decide) rfl mf_StairBowsModel_7 dX5_set_31 ?_
        refine lv_iload_n hx hb dX5_set_34 rfl (lv_at hl 1 rfl) ?_
        refine x_iald C w (i := 288) (K := 20) (j := a1) (n := 225) (jn := a1.toNatClampNeg) rfl (rfl : kd 288 = 20) (by decide) rfl (show vp_in a1 225 from h.1) dX5_set_35 ?_
        have h := h.2
        refine lv_istore_n (lv' := [(3, .int (m_11 288 a1.toNatClampNeg)), (0, .ref (ad 287)), (1, .int a1), (2, .int a2)]) hx hb dX5_set_36 rfl hl (by decide) rfl (fun ls hl => ?_)
        refine lv_aload_n hx hb dX5_set_37 rfl (lv_at hl 1 rfl) ?_
        refine x_getM C w (k := 0) (v := .ref (ad 288)) (by decide) rfl mf_StairBowsModel_7 dX5_set_38 ?_
        refine lv_iload_n hx hb dX5_set_41 rfl (lv_at hl 2 rfl) ?_
        refine lv_iload_n hx hb dX5_set_42 rfl (lv_at hl 3 rfl) ?_
        refine x_iast C w (i := 288) (K := 20) (n := 225) (jn := a1.toNatClampNeg) rfl (rfl : kd 288 = 20) (by decide) (fun _ => rfl) (show vp_in a1 225 from h.1) dX5_set_43 (fun m_12 e_13 H locs w => ?_)
        have h := h.2 m_12 e_13
        refine lv_iload_n hx hb dX5_set_44 rfl (lv_at hl 0 rfl) ?_
        exact x_iret C w h dX5_set_45
      · have h := h.2 c_10
        refine lv_bipush (v := -5) hx hb dX5_set_23 (by decide) ?_
        exact x_iret C w h dX5_set_25
  · have h := h.2 c_3
    refine lv_bipush (v := -2) hx hb dX5_set_8 (by decide) ?_
    exact x_iret C w h dX5_set_10

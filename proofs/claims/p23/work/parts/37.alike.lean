/-! a method of the law, by program: condition and contract -/
abbrev rm_L_areAlike : Room := { frames := 8, cells := 0, slots := 0, locals := 177 }
noncomputable def wp_L_areAlike_L316 (K : Int32 → Mem → Mem → Prop) (n : Nat) : Int32 → Int32 → Mem → Mem → Prop :=
  Nat.rec (motive := fun _ => Int32 → Int32 → Mem → Mem → Prop) (fun _ _ _ _ => False) (fun _ ih v4 v5 μ μ2 =>
    ((48 ≤ v5 → (bz v4 ∧ K v4 μ μ2)) ∧ (¬ 48 ≤ v5 → ((v4 = 0 → ih 0 (v5 + 1) μ μ2) ∧ (¬ v4 = 0 → (wp_X4_step (v5 / 4) (v5 - (v5 / 4) * 4) μ (fun r_14 m_15 => (wp_X4_step (v5 / 4) (v5 - (v5 / 4) * 4) μ2 (fun r_16 m_17 => ((¬ r_14 = r_16 → ih 0 (v5 + 1) m_15 m_17) ∧ (r_14 = r_16 → ih 1 (v5 + 1) m_15 m_17))))))))))) n
theorem wp_L_areAlike_L316_s (K : Int32 → Mem → Mem → Prop) (n : Nat) (v4 : Int32) (v5 : Int32) (μ : Mem) (μ2 : Mem) : wp_L_areAlike_L316 K (n + 1) v4 v5 μ μ2 = (
    let ih := wp_L_areAlike_L316 K n
    ((48 ≤ v5 → (bz v4 ∧ K v4 μ μ2)) ∧ (¬ 48 ≤ v5 → ((v4 = 0 → ih 0 (v5 + 1) μ μ2) ∧ (¬ v4 = 0 → (wp_X4_step (v5 / 4) (v5 - (v5 / 4) * 4) μ (fun r_14 m_15 => (wp_X4_step (v5 / 4) (v5 - (v5 / 4) * 4) μ2 (fun r_16 m_17 => ((¬ r_14 = r_16 → ih 0 (v5 + 1) m_15 m_17) ∧ (r_14 = r_16 → ih 1 (v5 + 1) m_15 m_17))))))))))) := rfl
noncomputable def wp_L_areAlike_L190 (v5 : Int32) (K : Int32 → Mem → Mem → Prop) (E177 : Int32 → Int32 → Mem → Mem → Prop) (n : Nat) : Int32 → Int32 → Mem → Mem → Prop :=
  Nat.rec (motive := fun _ => Int32 → Int32 → Mem → Mem → Prop) (fun _ _ _ _ => False) (fun _ ih v4 v6 μ μ2 =>
    ((9 ≤ v6 → ((v4 = 0 → E177 0 (v5 + 1) μ μ2) ∧ (¬ v4 = 0 → (wp_X4_does v5 μ (fun r_22 m_23 => (wp_X4_does v5 μ2 (fun r_24 m_25 => ((¬ r_22 = r_24 → E177 0 (v5 + 1) m_23 m_25) ∧ (r_22 = r_24 → (wp_X4_untilArrived v5 m_23 (fun r_27 m_28 => (wp_X4_untilArrived v5 m_25 (fun r_29 m_30 => ((¬ r_27 = r_29 → E177 0 (v5 + 1) m_28 m_30) ∧ (r_27 = r_29 → E177 1 (v5 + 1) m_28 m_30))))))))))))))) ∧ (¬ 9 ≤ v6 → ((v4 = 0 → ih 0 (v6 + 1) μ μ2) ∧ (¬ v4 = 0 → ((¬ v6 = 6 → (wp_X4_person v5 v6 μ (fun r_34 m_35 => (wp_X4_person v5 v6 μ2 (fun r_36 m_37 => ((¬ r_34 = r_36 → ih 0 (v6 + 1) m_35 m_37) ∧ (r_34 = r_36 → ih 1 (v6 + 1) m_35 m_37))))))) ∧ (v6 = 6 → (wp_X4_person v5 6 μ (fun r_39 m_40 => (wp_X4_person v5 6 μ2 (fun r_41 m_42 => ((¬ (2 * r_39) = r_41 → ih 0 (v6 + 1) m_40 m_42) ∧ ((2 * r_39) = r_41 → ih 1 (v6 + 1) m_40 m_42))))))))))))) n
theorem wp_L_areAlike_L190_s (v5 : Int32) (K : Int32 → Mem → Mem → Prop) (E177 : Int32 → Int32 → Mem → Mem → Prop) (n : Nat) (v4 : Int32) (v6 : Int32) (μ : Mem) (μ2 : Mem) : wp_L_areAlike_L190 v5 K E177 (n + 1) v4 v6 μ μ2 = (
    let ih := wp_L_areAlike_L190 v5 K E177 n
    ((9 ≤ v6 → ((v4 = 0 → E177 0 (v5 + 1) μ μ2) ∧ (¬ v4 = 0 → (wp_X4_does v5 μ (fun r_22 m_23 => (wp_X4_does v5 μ2 (fun r_24 m_25 => ((¬ r_22 = r_24 → E177 0 (v5 + 1) m_23 m_25) ∧ (r_22 = r_24 → (wp_X4_untilArrived v5 m_23 (fun r_27 m_28 => (wp_X4_untilArrived v5 m_25 (fun r_29 m_30 => ((¬ r_27 = r_29 → E177 0 (v5 + 1) m_28 m_30) ∧ (r_27 = r_29 → E177 1 (v5 + 1) m_28 m_30))))))))))))))) ∧ (¬ 9 ≤ v6 → ((v4 = 0 → ih 0 (v6 + 1) μ μ2) ∧ (¬ v4 = 0 → ((¬ v6 = 6 → (wp_X4_person v5 v6 μ (fun r_34 m_35 => (wp_X4_person v5 v6 μ2 (fun r_36 m_37 => ((¬ r_34 = r_36 → ih 0 (v6 + 1) m_35 m_37) ∧ (r_34 = r_36 → ih 1 (v6 + 1) m_35 m_37))))))) ∧ (v6 = 6 → (wp_X4_person v5 6 μ (fun r_39 m_40 => (wp_X4_person v5 6 μ2 (fun r_41 m_42 => ((¬ (2 * r_39) = r_41 → ih 0 (v6 + 1) m_40 m_42) ∧ ((2 * r_39) = r_41 → ih 1 (v6 + 1) m_40 m_42))))))))))))) := rfl
noncomputable def wp_L_areAlike_L177 (K : Int32 → Mem → Mem → Prop) (n : Nat) : Int32 → Int32 → Mem → Mem → Prop :=
  Nat.rec (motive := fun _ => Int32 → Int32 → Mem → Mem → Prop) (fun _ _ _ _ => False) (fun _ ih v4 v5 μ μ2 =>
    (wp_X4_count 4 μ (fun r_9 m_10 => ((r_9 ≤ v5 → (∃ n, wp_L_areAlike_L316 K n v4 0 m_10 μ2)) ∧ (¬ r_9 ≤ v5 → (∃ n, wp_L_areAlike_L190 v5 K ih n v4 0 m_10 μ2)))))) n
theorem wp_L_areAlike_L177_s (K : Int32 → Mem → Mem → Prop) (n : Nat) (v4 : Int32) (v5 : Int32) (μ : Mem) (μ2 : Mem) : wp_L_areAlike_L177 K (n + 1) v4 v5 μ μ2 = (
    let ih := wp_L_areAlike_L177 K n
    (wp_X4_count 4 μ (fun r_9 m_10 => ((r_9 ≤ v5 → (∃ n, wp_L_areAlike_L316 K n v4 0 m_10 μ2)) ∧ (¬ r_9 ≤ v5 → (∃ n, wp_L_areAlike_L190 v5 K ih n v4 0 m_10 μ2)))))) := rfl
noncomputable def wp_L_areAlike_L121 (K : Int32 → Mem → Mem → Prop) (n : Nat) : Int32 → Int32 → Mem → Mem → Prop :=
  Nat.rec (motive := fun _ => Int32 → Int32 → Mem → Mem → Prop) (fun _ _ _ _ => False) (fun _ ih v4 v5 μ μ2 =>
    ((13 ≤ v5 → (∃ n, wp_L_areAlike_L177 K n v4 0 μ μ2)) ∧ (¬ 13 ≤ v5 → ((v4 = 0 → ih 0 (v5 + 1) μ μ2) ∧ (¬ v4 = 0 → ((v5 = 1 → ih 1 (v5 + 1) μ μ2) ∧ (¬ v5 = 1 → ((v5 = 10 → ih 1 (v5 + 1) μ μ2) ∧ (¬ v5 = 10 → (wp_X4_count v5 μ (fun r_49 m_50 => (wp_X4_count v5 μ2 (fun r_51 m_52 => ((¬ r_49 = r_51 → ih 0 (v5 + 1) m_50 m_52) ∧ (r_49 = r_51 → ih 1 (v5 + 1) m_50 m_52))))))))))))))) n
theorem wp_L_areAlike_L121_s (K : Int32 → Mem → Mem → Prop) (n : Nat) (v4 : Int32) (v5 : Int32) (μ : Mem) (μ2 : Mem) : wp_L_areAlike_L121 K (n + 1) v4 v5 μ μ2 = (
    let ih := wp_L_areAlike_L121 K n
    ((13 ≤ v5 → (∃ n, wp_L_areAlike_L177 K n v4 0 μ μ2)) ∧ (¬ 13 ≤ v5 → ((v4 = 0 → ih 0 (v5 + 1) μ μ2) ∧ (¬ v4 = 0 → ((v5 = 1 → ih 1 (v5 + 1) μ μ2) ∧ (¬ v5 = 1 → ((v5 = 10 → ih 1 (v5 + 1) μ μ2) ∧ (¬ v5 = 10 → (wp_X4_count v5 μ (fun r_49 m_50 => (wp_X4_count v5 μ2 (fun r_51 m_52 => ((¬ r_49 = r_51 → ih 0 (v5 + 1) m_50 m_52) ∧ (r_49 = r_51 → ih 1 (v5 + 1) m_50 m_52))))))))))))))) := rfl
noncomputable def wp_L_areAlike (a2 : Int32) (μ μ2 : Mem) (K : Int32 → Mem → Mem → Prop) : Prop :=
    (wp_L_up a2 200 μ (fun r_1 m_2 => (wp_X4_untilEmpty m_2 (fun r_3 m_4 => (wp_X4_untilEmpty μ2 (fun r_5 m_6 => ((¬ r_3 = r_5 → (∃ n, wp_L_areAlike_L121 K n 0 0 m_4 m_6)) ∧ (r_3 = r_5 → (wp_X4_bestLanding m_4 (fun r_55 m_56 => (wp_X4_bestLanding m_6 (fun r_57 m_58 => ((¬ r_55 = r_57 → (∃ n, wp_L_areAlike_L121 K n 0 0 m_56 m_58)) ∧ (r_55 = r_57 → (wp_X4_count 10 m_58 (fun r_61 m_62 => (wp_X4_count 10 m_56 (fun r_63 m_64 => ((¬ r_61 = (2 * r_63) → (∃ n, wp_L_areAlike_L121 K n 0 0 m_64 m_62)) ∧ (r_61 = (2 * r_63) → (wp_X4_ifPassed (1 + r_1) 0 m_64 (fun r_67 m_68 => (wp_X4_ifPassed (1 + r_1) 0 m_62 (fun r_69 m_70 => ((¬ r_67 = r_69 → (∃ n, wp_L_areAlike_L121 K n 0 0 m_68 m_70)) ∧ (r_67 = r_69 → (wp_X4_ifPassed (1 + r_1) 1 m_68 (fun r_73 m_74 => (wp_X4_ifPassed (1 + r_1) 1 m_70 (fun r_75 m_76 => ((¬ r_73 = r_75 → (∃ n, wp_L_areAlike_L121 K n 0 0 m_74 m_76)) ∧ (r_73 = r_75 → (wp_X4_ifPassed (1 + r_1) 2 m_74 (fun r_79 m_80 => (wp_X4_ifPassed (1 + r_1) 2 m_76 (fun r_81 m_82 => ((¬ (2 * r_79) = r_81 → (∃ n, wp_L_areAlike_L121 K n 0 0 m_80 m_82)) ∧ ((2 * r_79) = r_81 → (wp_X4_ifPassed (1 + r_1) 3 m_80 (fun r_85 m_86 => (wp_X4_ifPassed (1 + r_1) 3 m_82 (fun r_87 m_88 => ((¬ r_85 = r_87 → (∃ n, wp_L_areAlike_L121 K n 0 0 m_86 m_88)) ∧ (r_85 = r_87 → (∃ n, wp_L_areAlike_L121 K n 1 0 m_86 m_88)))))))))))))))))))))))))))))))))))))))))))))
set_option maxHeartbeats 4000000 in
set_option maxRecDepth 100000 in
theorem t_L_areAlike_L316 {g : Gv} {ad ad2 : Nat → Nat} {l : Launch} {p : Program} {e : Env} {s : State} {m : MethodId} {args : Array Value} {below : List Frame} {meth : Method} {c : Code} (C : Cx g p s m args meth c "StairBowsLaw" cL_areAlike 7 (some .boolean))   {K : Int32 → Mem → Mem → Prop}   : ∀ (n : Nat) (v4 : Int32) (v5 : Int32) (μ : Mem) (μ2 : Mem) (H : Heap) (locs : List Loc) (ls : Array Slot), wp_L_areAlike_L316 K n v4 v5 μ μ2 → Wd2 g ad μ ad2 μ2 (Aw2 ad ad2 s.heap.size) s H locs → lv_has ls 7 [(0, .ref (ad 0)), (1, .ref (ad2 0)), (4, .int v4), (5, .int v5)] → W p l e rm_L_areAlike s m args below meth c H locs 0 0 (MQ below (Post2 g ad ad2 s.heap.size K) args s 0 0 (Aw2 ad ad2 s.heap.size)) (F0 m 316 ls []) := by
  obtain ⟨hx, hb, hml, -, hts, hown, -, -, hN⟩ := id C
  intro n
  induction n with
  | zero =>
    intro v4 v5 μ μ2 H locs ls h w hl
    exact (show False from h).elim
  | succ n ih =>
    intro v4 v5 μ μ2 H locs ls h w hl
    rw [wp_L_areAlike_L316_s] at h
    dsimp only at h
    refine lv_iload hx hb dL_areAlike_316 (lv_at hl 3 rfl) ?_
    refine lv_bipush (v := 48) hx hb dL_areAlike_318 (by decide) ?_
    refine lv_icmp_ge (tgt := 368) hx hb dL_areAlike_320 (by decide) (fun c_12 => ?_) (fun c_12 => ?_)
    · have h := h.1 c_12
      refine lv_iload hx hb dL_areAlike_368 (lv_at hl 2 rfl) ?_
      exact x2_zret C w h.1 h.2 dL_areAlike_370
    · have h := h.2 c_12
      refine lv_iload hx hb dL_areAlike_323 (lv_at hl 2 rfl) ?_
      refine lv_if_eq (tgt := 359) hx hb dL_areAlike_325 (by decide) (fun c_13 => ?_) (fun c_13 => ?_)
      · have h := h.1 c_13
        refine lv_iconst (v := 0) hx hb dL_areAlike_359 (by decide) ?_
        refine lv_istore (lv' := [(4, .int 0), (0, .ref (ad 0)), (1, .ref (ad2 0)), (5, .int v5)]) hx hb dL_areAlike_360 hl (by decide) rfl (fun ls hl => ?_)
        refine lv_iinc (v := (v5 + 1)) (lv' := [(5, .int (v5 + 1)), (4, .int 0), (0, .ref (ad 0)), (1, .ref (ad2 0))]) hx hb dL_areAlike_362 hl (k := 3) rfl rfl (by decide) rfl (fun ls hl => ?_)
        refine lv_goto (tgt := 316) hx hb dL_areAlike_365 (by decide) ?_
        exact ih 0 (v5 + 1) μ μ2 _ _ _ h w (lv_sub hl [2, 3, 1, 0] rfl)
      · have h := h.2 c_13
        refine lv_aload_n hx hb dL_areAlike_328 rfl (lv_at hl 0 rfl) ?_
        refine lv_iload hx hb dL_areAlike_329 (lv_at hl 3 rfl) ?_
        refine lv_iconst (v := 4) hx hb dL_areAlike_331 (by decide) ?_
        refine lv_idiv hx hb dL_areAlike_332 (by decide) ?_
        refine lv_iload hx hb dL_areAlike_333 (lv_at hl 3 rfl) ?_
        refine lv_iconst (v := 4) hx hb dL_areAlike_335 (by decide) ?_
        refine lv_irem hx hb dL_areAlike_336 (by decide) ?_
        refine x2_calli C w (x_runV (ad := ad) (i := 0) (As := [.int (v5 / 4), .int (v5 - (v5 / 4) * 4)]) (rest := []) C w.1 (rfl : kd 0 = 0) (by decide) (ci := 4) rfl rfl rfl me_X4_step ml_StairBowsLaw_21 (c_X4_step l g ad μ _ (v5 / 4) (v5 - (v5 / 4) * 4) h) ⟨rfl, rfl⟩ ⟨Nat.le_of_ble_eq_true rfl, Nat.le_of_ble_eq_true rfl⟩ rfl hl.1 rfl (Nat.le_of_ble_eq_true rfl) dL_areAlike_337 ⟨Nat.le_of_ble_eq_true rfl, Nat.le_of_ble_eq_true rfl⟩) (fun r_14 m_15 h H locs w => ?_)
        refine lv_aload_n hx hb dL_areAlike_340 rfl (lv_at hl 1 rfl) ?_
        refine lv_iload hx hb dL_areAlike_341 (lv_at hl 3 rfl) ?_
        refine lv_iconst (v := 4) hx hb dL_areAlike_343 (by decide) ?_
        refine lv_idiv hx hb dL_areAlike_344 (by decide) ?_
        refine lv_iload hx hb dL_areAlike_345 (lv_at hl 3 rfl) ?_
        refine lv_iconst (v := 4) hx hb dL_areAlike_347 (by decide) ?_
        refine lv_irem hx hb dL_areAlike_348 (by decide) ?_
        refine x2_callip C w (x_runV (ad := ad2) (i := 0) (As := [.int (v5 / 4), .int (v5 - (v5 / 4) * 4)]) (rest := [.int r_14]) C w.2.1 (rfl : kd 0 = 0) (by decide) (ci := 4) rfl rfl rfl me_X4_step ml_StairBowsLaw_21 (c_X4_step l g ad2 μ2 _ (v5 / 4) (v5 - (v5 / 4) * 4) h) ⟨rfl, rfl⟩ ⟨Nat.le_of_ble_eq_true rfl, Nat.le_of_ble_eq_true rfl⟩ rfl hl.1 rfl (Nat.le_of_ble_eq_true rfl) dL_areAlike_349 ⟨Nat.le_of_ble_eq_true rfl, Nat.le_of_ble_eq_true rfl⟩) (fun r_16 m_17 h H locs w => ?_)
        refine lv_icmp_ne (tgt := 359) hx hb dL_areAlike_352 (by decide) (fun c_18 => ?_) (fun c_18 => ?_)
        · have h := h.1 c_18
          refine lv_iconst (v := 0) hx hb dL_areAlike_359 (by decide) ?_
          refine lv_istore (lv' := [(4, .int 0), (0, .ref (ad 0)), (1, .ref (ad2 0)), (5, .int v5)]) hx hb dL_areAlike_360 hl (by decide) rfl (fun ls hl => ?_)
          refine lv_iinc (v := (v5 + 1)) (lv' := [(5, .int (v5 + 1)), (4, .int 0), (0, .ref (ad 0)), (1, .ref (ad2 0))]) hx hb dL_areAlike_362 hl (k := 3) rfl rfl (by decide) rfl (fun ls hl => ?_)
          refine lv_goto (tgt := 316) hx hb dL_areAlike_365 (by decide) ?_
          exact ih 0 (v5 + 1) m_15 m_17 _ _ _ h w (lv_sub hl [2, 3, 1, 0] rfl)
        · have h := h.2 c_18
          refine lv_iconst (v := 1) hx hb dL_areAlike_355 (by decide) ?_
          refine lv_goto (tgt := 360) hx hb dL_areAlike_356 (by decide) ?_
          refine lv_istore (lv' := [(4, .int 1), (0, .ref (ad 0)), (1, .ref (ad2 0)), (5, .int v5)]) hx hb dL_areAlike_360 hl (by decide) rfl (fun ls hl => ?_)
          refine lv_iinc (v := (v5 + 1)) (lv' := [(5, .int (v5 + 1)), (4, .int 1), (0, .ref (ad 0)), (1, .ref (ad2 0))]) hx hb dL_areAlike_362 hl (k := 3) rfl rfl (by decide) rfl (fun ls hl => ?_)
          refine lv_goto (tgt := 316) hx hb dL_areAlike_365 (by decide) ?_
          exact ih 1 (v5 + 1) m_15 m_17 _ _ _ h w (lv_sub hl [2, 3, 1, 0] rfl)
set_option maxHeartbeats 4000000 in
set_option maxRecDepth 100000 in
theorem t_L_areAlike_L190 {g : Gv} {ad ad2 : Nat → Nat} {l : Launch} {p : Program} {e : Env} {s : State} {m : MethodId} {args : Array Value} {below : List Frame} {meth : Method} {c : Code} (C : Cx g p s m args meth c "StairBowsLaw" cL_areAlike 7 (some .boolean)) {v5 : Int32}  {K : Int32 → Mem → Mem → Prop} {E177 : Int32 → Int32 → Mem → Mem → Prop} (hE177 : ∀ (v4 : Int32) (v5 : Int32) (μ : Mem) (μ2 : Mem) (H : Heap) (locs : List Loc) (ls : Array Slot), E177 v4 v5 μ μ2 → Wd2 g ad μ ad2 μ2 (Aw2 ad ad2 s.heap.size) s H locs → lv_has ls 7 [(0, .ref (ad 0)), (1, .ref (ad2 0)), (4, .int v4), (5, .int v5)] → W p l e rm_L_areAlike s m args below meth c H locs 0 0 (MQ below (Post2 g ad ad2 s.heap.size K) args s 0 0 (Aw2 ad ad2 s.heap.size)) (F0 m 177 ls [])) : ∀ (n : Nat) (v4 : Int32) (v6 : Int32) (μ : Mem) (μ2 : Mem) (H : Heap) (locs : List Loc) (ls : Array Slot), wp_L_areAlike_L190 v5 K E177 n v4 v6 μ μ2 → Wd2 g ad μ ad2 μ2 (Aw2 ad ad2 s.heap.size) s H locs → lv_has ls 7 [(0, .ref (ad 0)), (1, .ref (ad2 0)), (4, .int v4), (5, .int v5), (6, .int v6)] → W p l e rm_L_areAlike s m args below meth c H locs 0 0 (MQ below (Post2 g ad ad2 s.heap.size K) args s 0 0 (Aw2 ad ad2 s.heap.size)) (F0 m 190 ls []) := by
  obtain ⟨hx, hb, hml, -, hts, hown, -, -, hN⟩ := id C
  intro n
  induction n with
  | zero =>
    intro v4 v6 μ μ2 H locs ls h w hl
    exact (show False from h).elim
  | succ n ih =>
    intro v4 v6 μ μ2 H locs ls h w hl
    rw [wp_L_areAlike_L190_s] at h
    dsimp only at h
    refine lv_iload hx hb dL_areAlike_190 (lv_at hl 4 rfl) ?_
    refine lv_bipush (v := 9) hx hb dL_areAlike_192 (by decide) ?_
    refine lv_icmp_ge (tgt := 265) hx hb dL_areAlike_194 (by decide) (fun c_20 => ?_) (fun c_20 => ?_)
    · have h := h.1 c_20
      refine lv_iload hx hb dL_areAlike_265 (lv_at hl 2 rfl) ?_
      refine lv_if_eq (tgt := 304) hx hb dL_areAlike_267 (by decide) (fun c_21 => ?_) (fun c_21 => ?_)
      · have h := h.1 c_21
        refine lv_iconst (v := 0) hx hb dL_areAlike_304 (by decide) ?_
        refine lv_istore (lv' := [(4, .int 0), (0, .ref (ad 0)), (1, .ref (ad2 0)), (5, .int v5), (6, .int v6)]) hx hb dL_areAlike_305 hl (by decide) rfl (fun ls hl => ?_)
        refine lv_iinc (v := (v5 + 1)) (lv' := [(5, .int (v5 + 1)), (4, .int 0), (0, .ref (ad 0)), (1, .ref (ad2 0)), (6, .int v6)]) hx hb dL_areAlike_307 hl (k := 3) rfl rfl (by decide) rfl (fun ls hl => ?_)
        refine lv_goto (tgt := 177) hx hb dL_areAlike_310 (by decide) ?_
        exact hE177 0 (v5 + 1) μ μ2 _ _ _ h w (lv_sub hl [2, 3, 1, 0] rfl)
      · have h := h.2 c_21
        refine lv_aload_n hx hb dL_areAlike_270 rfl (lv_at hl 0 rfl) ?_
        refine lv_iload hx hb dL_areAlike_271 (lv_at hl 3 rfl) ?_
        refine x2_calli C w (x_runV (ad := ad) (i := 0) (As := [.int v5]) (rest := []) C w.1 (rfl : kd 0 = 0) (by decide) (ci := 4) rfl rfl rfl me_X4_does ml_StairBowsLaw_73 (c_X4_does l g ad μ _ v5 h) ⟨rfl, rfl⟩ ⟨Nat.le_of_ble_eq_true rfl, Nat.le_of_ble_eq_true rfl⟩ rfl hl.1 rfl (Nat.le_of_ble_eq_true rfl) dL_areAlike_273 ⟨Nat.le_of_ble_eq_true rfl, Nat.le_of_ble_eq_true rfl⟩) (fun r_22 m_23 h H locs w => ?_)
        refine lv_aload_n hx hb dL_areAlike_276 rfl (lv_at hl 1 rfl) ?_
        refine lv_iload hx hb dL_areAlike_277 (lv_at hl 3 rfl) ?_
        refine x2_callip C w (x_runV (ad := ad2) (i := 0) (As := [.int v5]) (rest := [.int r_22]) C w.2.1 (rfl : kd 0 = 0) (by decide) (ci := 4) rfl rfl rfl me_X4_does ml_StairBowsLaw_73 (c_X4_does l g ad2 μ2 _ v5 h) ⟨rfl, rfl⟩ ⟨Nat.le_of_ble_eq_true rfl, Nat.le_of_ble_eq_true rfl⟩ rfl hl.1 rfl (Nat.le_of_ble_eq_true rfl) dL_areAlike_279 ⟨Nat.le_of_ble_eq_true rfl, Nat.le_of_ble_eq_true rfl⟩) (fun r_24 m_25 h H locs w => ?_)
        refine lv_icmp_ne (tgt := 304) hx hb dL_areAlike_282 (by decide) (fun c_26 => ?_) (fun c_26 => ?_)
        · have h := h.1 c_26
          refine lv_iconst (v := 0) hx hb dL_areAlike_304 (by decide) ?_
          refine lv_istore (lv' := [(4, .int 0), (0, .ref (ad 0)), (1, .ref (ad2 0)), (5, .int v5), (6, .int v6)]) hx hb dL_areAlike_305 hl (by decide) rfl (fun ls hl => ?_)
          refine lv_iinc (v := (v5 + 1)) (lv' := [(5, .int (v5 + 1)), (4, .int 0), (0, .ref (ad 0)), (1, .ref (ad2 0)), (6, .int v6)]) hx hb dL_areAlike_307 hl (k := 3) rfl rfl (by decide) rfl (fun ls hl => ?_)
          refine lv_goto (tgt := 177) hx hb dL_areAlike_310 (by decide) ?_
          exact hE177 0 (v5 + 1) m_23 m_25 _ _ _ h w (lv_sub hl [2, 3, 1, 0] rfl)
        · have h := h.2 c_26
          refine lv_aload_n hx hb dL_areAlike_285 rfl (lv_at hl 0 rfl) ?_
          refine lv_iload hx hb dL_areAlike_286 (lv_at hl 3 rfl) ?_
          refine x2_calli C w (x_runV (ad := ad) (i := 0) (As := [.int v5]) (rest := []) C w.1 (rfl : kd 0 = 0) (by decide) (ci := 4) rfl rfl rfl me_X4_untilArrived ml_StairBowsLaw_76 (c_X4_untilArrived l g ad m_23 _ v5 h) ⟨rfl, rfl⟩ ⟨Nat.le_of_ble_eq_true rfl, Nat.le_of_ble_eq_true rfl⟩ rfl hl.1 rfl (Nat.le_of_ble_eq_true rfl) dL_areAlike_288 ⟨Nat.le_of_ble_eq_true rfl, Nat.le_of_ble_eq_true rfl⟩) (fun r_27 m_28 h H locs w => ?_)
          refine lv_aload_n hx hb dL_areAlike_291 rfl (lv_at hl 1 rfl) ?_
          refine lv_iload hx hb dL_areAlike_292 (lv_at hl 3 rfl) ?_
          refine x2_callip C w (x_runV (ad := ad2) (i := 0) (As := [.int v5]) (rest := [.int r_27]) C w.2.1 (rfl : kd 0 = 0) (by decide) (ci := 4) rfl rfl rfl me_X4_untilArrived ml_StairBowsLaw_76 (c_X4_untilArrived l g ad2 m_25 _ v5 h) ⟨rfl, rfl⟩ ⟨Nat.le_of_ble_eq_true rfl, Nat.le_of_ble_eq_true rfl⟩ rfl hl.1 rfl (Nat.le_of_ble_eq_true rfl) dL_areAlike_294 ⟨Nat.le_of_ble_eq_true rfl, Nat.le_of_ble_eq_true rfl⟩) (fun r_29 m_30 h H locs w => ?_)
          refine lv_icmp_ne (tgt := 304) hx hb dL_areAlike_297 (by decide) (fun c_31 => ?_) (fun c_31 => ?_)
          · have h := h.1 c_31
            refine lv_iconst (v := 0) hx hb dL_areAlike_304 (by decide) ?_
            refine lv_istore (lv' := [(4, .int 0), (0, .ref (ad 0)), (1, .ref (ad2 0)), (5, .int v5), (6, .int v6)]) hx hb dL_areAlike_305 hl (by decide) rfl (fun ls hl => ?_)
            refine lv_iinc (v := (v5 + 1)) (lv' := [(5, .int (v5 + 1)), (4, .int 0), (0, .ref (ad 0)), (1, .ref (ad2 0)), (6, .int v6)]) hx hb dL_areAlike_307 hl (k := 3) rfl rfl (by decide) rfl (fun ls hl => ?_)
            refine lv_goto (tgt := 177) hx hb dL_areAlike_310 (by decide) ?_
            exact hE177 0 (v5 + 1) m_28 m_30 _ _ _ h w (lv_sub hl [2, 3, 1, 0] rfl)
          · have h := h.2 c_31
            refine lv_iconst (v := 1) hx hb dL_areAlike_300 (by decide) ?_
            refine lv_goto (tgt := 305) hx hb dL_areAlike_301 (by decide) ?_
            refine lv_istore (lv' := [(4, .int 1), (0, .ref (ad 0)), (1, .ref (ad2 0)), (5, .int v5), (6, .int v6)]) hx hb dL_areAlike_305 hl (by decide) rfl (fun ls hl => ?_)
            refine lv_iinc (v := (v5 + 1)) (lv' := [(5, .int (v5 + 1)), (4, .int 1), (0, .ref (ad 0)), (1, .ref (ad2 0)), (6, .int v6)]) hx hb dL_areAlike_307 hl (k := 3) rfl rfl (by decide) rfl (fun ls hl => ?_)
            refine lv_goto (tgt := 177) hx hb dL_areAlike_310 (by decide) ?_
            exact hE177 1 (v5 + 1) m_28 m_30 _ _ _ h w (lv_sub hl [2, 3, 1, 0] rfl)
    · have h := h.2 c_20
      refine lv_iload hx hb dL_areAlike_197 (lv_at hl 2 rfl) ?_
      refine lv_if_eq (tgt := 256) hx hb dL_areAlike_199 (by decide) (fun c_32 => ?_) (fun c_32 => ?_)
      · have h := h.1 c_32
        refine lv_iconst (v := 0) hx hb dL_areAlike_256 (by decide) ?_
        refine lv_istore (lv' := [(4, .int 0), (0, .ref (ad 0)), (1, .ref (ad2 0)), (5, .int v5), (6, .int v6)]) hx hb dL_areAlike_257 hl (by decide) rfl (fun ls hl => ?_)
        refine lv_iinc (v := (v6 + 1)) (lv' := [(6, .int (v6 + 1)), (4, .int 0), (0, .ref (ad 0)), (1, .ref (ad2 0)), (5, .int v5)]) hx hb dL_areAlike_259 hl (k := 4) rfl rfl (by decide) rfl (fun ls hl => ?_)
        refine lv_goto (tgt := 190) hx hb dL_areAlike_262 (by decide) ?_
        exact ih 0 (v6 + 1) μ μ2 _ _ _ h w (lv_sub hl [2, 3, 1, 4, 0] rfl)
      · have h := h.2 c_32
        refine lv_iload hx hb dL_areAlike_202 (lv_at hl 4 rfl) ?_
        refine lv_bipush (v := 6) hx hb dL_areAlike_204 (by decide) ?_
        refine lv_icmp_ne (tgt := 233) hx hb dL_areAlike_206 (by decide) (fun c_33 => ?_) (fun c_33 => ?_)
        · have h := h.1 c_33
          refine lv_aload_n hx hb dL_areAlike_233 rfl (lv_at hl 0 rfl) ?_
          refine lv_iload hx hb dL_areAlike_234 (lv_at hl 3 rfl) ?_
          refine lv_iload hx hb dL_areAlike_236 (lv_at hl 4 rfl) ?_
          refine x2_calli C w (x_runV (ad := ad) (i := 0) (As := [.int v5, .int v6]) (rest := []) C w.1 (rfl : kd 0 = 0) (by decide) (ci := 4) rfl rfl rfl me_X4_person ml_StairBowsLaw_31 (c_X4_person l g ad μ _ v5 v6 h) ⟨rfl, rfl⟩ ⟨Nat.le_of_ble_eq_true rfl, Nat.le_of_ble_eq_true rfl⟩ rfl hl.1 rfl (Nat.le_of_ble_eq_true rfl) dL_areAlike_238 ⟨Nat.le_of_ble_eq_true rfl, Nat.le_of_ble_eq_true rfl⟩) (fun r_34 m_35 h H locs w => ?_)
          refine lv_aload_n hx hb dL_areAlike_241 rfl (lv_at hl 1 rfl) ?_
          refine lv_iload hx hb dL_areAlike_242 (lv_at hl 3 rfl) ?_
          refine lv_iload hx hb dL_areAlike_244 (lv_at hl 4 rfl) ?_
          refine x2_callip C w (x_runV (ad := ad2) (i := 0) (As := [.int v5, .int v6]) (rest := [.int r_34]) C w.2.1 (rfl : kd 0 = 0) (by decide) (ci := 4) rfl rfl rfl me_X4_person ml_StairBowsLaw_31 (c_X4_person l g ad2 μ2 _ v5 v6 h) ⟨rfl, rfl⟩ ⟨Nat.le_of_ble_eq_true rfl, Nat.le_of_ble_eq_true rfl⟩ rfl hl.1 rfl (Nat.le_of_ble_eq_true rfl) dL_areAlike_246 ⟨Nat.le_of_ble_eq_true rfl, Nat.le_of_ble_eq_true rfl⟩) (fun r_36 m_37 h H locs w => ?_)
          refine lv_icmp_ne (tgt := 256) hx hb dL_areAlike_249 (by decide) (fun c_38 => ?_) (fun c_38 => ?_)
          · have h := h.1 c_38
            refine lv_iconst (v := 0) hx hb dL_areAlike_256 (by decide) ?_
            refine lv_istore (lv' := [(4, .int 0), (0, .ref (ad 0)), (1, .ref (ad2 0)), (5, .int v5), (6, .int v6)]) hx hb dL_areAlike_257 hl (by decide) rfl (fun ls hl => ?_)
            refine lv_iinc (v := (v6 + 1)) (lv' := [(6, .int (v6 + 1)), (4, .int 0), (0, .ref (ad 0)), (1, .ref (ad2 0)), (5, .int v5)]) hx hb dL_areAlike_259 hl (k := 4) rfl rfl (by decide) rfl (fun ls hl => ?_)
            refine lv_goto (tgt := 190) hx hb dL_areAlike_262 (by decide) ?_
            exact ih 0 (v6 + 1) m_35 m_37 _ _ _ h w (lv_sub hl [2, 3, 1, 4, 0] rfl)
          · have h := h.2 c_38
            refine lv_iconst (v := 1) hx hb dL_areAlike_252 (by decide) ?_
            refine lv_goto (tgt := 257) hx hb dL_areAlike_253 (by decide) ?_
            refine lv_istore (lv' := [(4, .int 1), (0, .ref (ad 0)), (1, .ref (ad2 0)), (5, .int v5), (6, .int v6)]) hx hb dL_areAlike_257 hl (by decide) rfl (fun ls hl => ?_)
            refine lv_iinc (v := (v6 + 1)) (lv' := [(6, .int (v6 + 1)), (4, .int 1), (0, .ref (ad 0)), (1, .ref (ad2 0)), (5, .int v5)]) hx hb dL_areAlike_259 hl (k := 4) rfl rfl (by decide) rfl (fun ls hl => ?_)
            refine lv_goto (tgt := 190) hx hb dL_areAlike_262 (by decide) ?_
            exact ih 1 (v6 + 1) m_35 m_37 _ _ _ h w (lv_sub hl [2, 3, 1, 4, 0] rfl)
        · have h := h.2 c_33
          refine lv_iconst (v := 2) hx hb dL_areAlike_209 (by decide) ?_
          refine lv_aload_n hx hb dL_areAlike_210 rfl (lv_at hl 0 rfl) ?_
          refine lv_iload hx hb dL_areAlike_211 (lv_at hl 3 rfl) ?_
          refine lv_bipush (v := 6) hx hb dL_areAlike_213 (by decide) ?_
          refine x2_calli C w (x_runV (ad := ad) (i := 0) (As := [.int v5, .int 6]) (rest := [.int 2]) C w.1 (rfl : kd 0 = 0) (by decide) (ci := 4) rfl rfl rfl me_X4_person ml_StairBowsLaw_31 (c_X4_person l g ad μ _ v5 6 h) ⟨rfl, rfl⟩ ⟨Nat.le_of_ble_eq_true rfl, Nat.le_of_ble_eq_true rfl⟩ rfl hl.1 rfl (Nat.le_of_ble_eq_true rfl) dL_areAlike_215 ⟨Nat.le_of_ble_eq_true rfl, Nat.le_of_ble_eq_true rfl⟩) (fun r_39 m_40 h H locs w => ?_)
          refine lv_imul hx hb dL_areAlike_218 ?_
          refine lv_aload_n hx hb dL_areAlike_219 rfl (lv_at hl 1 rfl) ?_
          refine lv_iload hx hb dL_areAlike_220 (lv_at hl 3 rfl) ?_
          refine lv_bipush (v := 6) hx hb dL_areAlike_222 (by decide) ?_
          refine x2_callip C w (x_runV (ad := ad2) (i := 0) (As := [.int v5, .int 6]) (rest := [.int (2 * r_39)]) C w.2.1 (rfl : kd 0 = 0) (by decide) (ci := 4) rfl rfl rfl me_X4_person ml_StairBowsLaw_31 (c_X4_person l g ad2 μ2 _ v5 6 h) ⟨rfl, rfl⟩ ⟨Nat.le_of_ble_eq_true rfl, Nat.le_of_ble_eq_true rfl⟩ rfl hl.1 rfl (Nat.le_of_ble_eq_true rfl) dL_areAlike_224 ⟨Nat.le_of_ble_eq_true rfl, Nat.le_of_ble_eq_true rfl⟩) (fun r_41 m_42 h H locs w => ?_)
          refine lv_icmp_ne (tgt := 256) hx hb dL_areAlike_227 (by decide) (fun c_43 => ?_) (fun c_43 => ?_)
          · have h := h.1 c_43
            refine lv_iconst (v := 0) hx hb dL_areAlike_256 (by decide) ?_
            refine lv_istore (lv' := [(4, .int 0), (0, .ref (ad 0)), (1, .ref (ad2 0)), (5, .int v5), (6, .int v6)]) hx hb dL_areAlike_257 hl (by decide) rfl (fun ls hl => ?_)
            refine lv_iinc (v := (v6 + 1)) (lv' := [(6, .int (v6 + 1)), (4, .int 0), (0, .ref (ad 0)), (1, .ref (ad2 0)), (5, .int v5)]) hx hb dL_areAlike_259 hl (k := 4) rfl rfl (by decide) rfl (fun ls hl => ?_)
            refine lv_goto (tgt := 190) hx hb dL_areAlike_262 (by decide) ?_
            exact ih 0 (v6 + 1) m_40 m_42 _ _ _ h w (lv_sub hl [2, 3, 1, 4, 0] rfl)
          · have h := h.2 c_43
            refine lv_goto (tgt := 252) hx hb dL_areAlike_230 (by decide) ?_
            refine lv_iconst (v := 1) hx hb dL_areAlike_252 (by decide) ?_
            refine lv_goto (tgt := 257) hx hb dL_areAlike_253 (by decide) ?_
            refine lv_istore (lv' := [(4, .int 1), (0, .ref (ad 0)), (1, .ref (ad2 0)), (5, .int v5), (6, .int v6)]) hx hb dL_areAlike_257 hl (by decide) rfl (fun ls hl => ?_)
            refine lv_iinc (v := (v6 + 1)) (lv' := [(6, .int (v6 + 1)), (4, .int 1), (0, .ref (ad 0)), (1, .ref (ad2 0)), (5, .int v5)]) hx hb dL_areAlike_259 hl (k := 4) rfl rfl (by decide) rfl (fun ls hl => ?_)
            refine lv_goto (tgt := 190) hx hb dL_areAlike_262 (by decide) ?_
            exact ih 1 (v6 + 1) m_40 m_42 _ _ _ h w (lv_sub hl [2, 3, 1, 4, 0] rfl)
set_option maxHeartbeats 4000000 in
set_option maxRecDepth 100000 in
theorem t_L_areAlike_L177 {g : Gv} {ad ad2 : Nat → Nat} {l : Launch} {p : Program} {e : Env} {s : State} {m : MethodId} {args : Array Value} {below : List Frame} {meth : Method} {c : Code} (C : Cx g p s m args meth c "StairBowsLaw" cL_areAlike 7 (some .boolean))   {K : Int32 → Mem → Mem → Prop}   : ∀ (n : Nat) (v4 : Int32) (v5 : Int32) (μ : Mem) (μ2 : Mem) (H : Heap) (locs : List Loc) (ls : Array Slot), wp_L_areAlike_L177 K n v4 v5 μ μ2 → Wd2 g ad μ ad2 μ2 (Aw2 ad ad2 s.heap.size) s H locs → lv_has ls 7 [(0, .ref (ad 0)), (1, .ref (ad2 0)), (4, .int v4), (5, .int v5)] → W p l e rm_L_areAlike s m args below meth c H locs 0 0 (MQ below (Post2 g ad ad2 s.heap.size K) args s 0 0 (Aw2 ad ad2 s.heap.size)) (F0 m 177 ls []) := by
  obtain ⟨hx, hb, hml, -, hts, hown, -, -, hN⟩ := id C
  intro n
  induction n with
  | zero =>
    intro v4 v5 μ μ2 H locs ls h w hl
    exact (show False from h).elim
  | succ n ih =>
    intro v4 v5 μ μ2 H locs ls h w hl
    rw [wp_L_areAlike_L177_s] at h
    dsimp only at h
    refine lv_iload hx hb dL_areAlike_177 (lv_at hl 3 rfl) ?_
    refine lv_aload_n hx hb dL_areAlike_179 rfl (lv_at hl 0 rfl) ?_
    refine lv_iconst (v := 4) hx hb dL_areAlike_180 (by decide) ?_
    refine x2_calli C w (x_runV (ad := ad) (i := 0) (As := [.int 4]) (rest := [.int v5]) C w.1 (rfl : kd 0 = 0) (by decide) (ci := 4) rfl rfl rfl me_X4_count ml_StairBowsLaw_9 (c_X4_count l g ad μ _ 4 h) ⟨rfl, rfl⟩ ⟨Nat.le_of_ble_eq_true rfl, Nat.le_of_ble_eq_true rfl⟩ rfl hl.1 rfl (Nat.le_of_ble_eq_true rfl) dL_areAlike_181 ⟨Nat.le_of_ble_eq_true rfl, Nat.le_of_ble_eq_true rfl⟩) (fun r_9 m_10 h H locs w => ?_)
    refine lv_icmp_ge (tgt := 313) hx hb dL_areAlike_184 (by decide) (fun c_11 => ?_) (fun c_11 => ?_)
    · have h := h.1 c_11
      refine lv_iconst (v := 0) hx hb dL_areAlike_313 (by decide) ?_
      refine lv_istore (lv' := [(5, .int 0), (0, .ref (ad 0)), (1, .ref (ad2 0)), (4, .int v4)]) hx hb dL_areAlike_314 hl (by decide) rfl (fun ls hl => ?_)
      obtain ⟨n_19, h⟩ := h
      exact t_L_areAlike_L316 C n_19 v4 0 m_10 μ2 _ _ _ h w (lv_sub hl [1, 2, 3, 0] rfl)
    · have h := h.2 c_11
      refine lv_iconst (v := 0) hx hb dL_areAlike_187 (by decide) ?_
      refine lv_istore (lv' := [(6, .int 0), (0, .ref (ad 0)), (1, .ref (ad2 0)), (4, .int v4), (5, .int v5)]) hx hb dL_areAlike_188 hl (by decide) rfl (fun ls hl => ?_)
      obtain ⟨n_44, h⟩ := h
      exact t_L_areAlike_L190 C ih n_44 v4 0 m_10 μ2 _ _ _ h w (lv_sub hl [1, 2, 3, 4, 0] rfl)
set_option maxHeartbeats 4000000 in
set_option maxRecDepth 100000 in
theorem t_L_areAlike_L121 {g : Gv} {ad ad2 : Nat → Nat} {l : Launch} {p : Program} {e : Env} {s : State} {m : MethodId} {args : Array Value} {below : List Frame} {meth : Method} {c : Code} (C : Cx g p s m args meth c "StairBowsLaw" cL_areAlike 7 (some .boolean))   {K : Int32 → Mem → Mem → Prop}   : ∀ (n : Nat) (v4 : Int32) (v5 : Int32) (μ : Mem) (μ2 : Mem) (H : Heap) (locs : List Loc) (ls : Array Slot), wp_L_areAlike_L121 K n v4 v5 μ μ2 → Wd2 g ad μ ad2 μ2 (Aw2 ad ad2 s.heap.size) s H locs → lv_has ls 7 [(0, .ref (ad 0)), (1, .ref (ad2 0)), (4, .int v4), (5, .int v5)] → W p l e rm_L_areAlike s m args below meth c H locs 0 0 (MQ below (Post2 g ad ad2 s.heap.size K) args s 0 0 (Aw2 ad ad2 s.heap.size)) (F0 m 121 ls []) := by
  obtain ⟨hx, hb, hml, -, hts, hown, -, -, hN⟩ := id C
  intro n
  induction n with
  | zero =>
    intro v4 v5 μ μ2 H locs ls h w hl
    exact (show False from h).elim
  | succ n ih =>
    intro v4 v5 μ μ2 H locs ls h w hl
    rw [wp_L_areAlike_L121_s] at h
    dsimp only at h
    refine lv_iload hx hb dL_areAlike_121 (lv_at hl 3 rfl) ?_
    refine lv_bipush (v := 13) hx hb dL_areAlike_123 (by decide) ?_
    refine lv_icmp_ge (tgt := 174) hx hb dL_areAlike_125 (by decide) (fun c_8 => ?_) (fun c_8 => ?_)
    · have h := h.1 c_8
      refine lv_iconst (v := 0) hx hb dL_areAlike_174 (by decide) ?_
      refine lv_istore (lv' := [(5, .int 0), (0, .ref (ad 0)), (1, .ref (ad2 0)), (4, .int v4)]) hx hb dL_areAlike_175 hl (by decide) rfl (fun ls hl => ?_)
      obtain ⟨n_45, h⟩ := h
      exact t_L_areAlike_L177 C n_45 v4 0 μ μ2 _ _ _ h w (lv_sub hl [1, 2, 3, 0] rfl)
    · have h := h.2 c_8
      refine lv_iload hx hb dL_areAlike_128 (lv_at hl 2 rfl) ?_
      refine lv_if_eq (tgt := 165) hx hb dL_areAlike_130 (by decide) (fun c_46 => ?_) (fun c_46 => ?_)
      · have h := h.1 c_46
        refine lv_iconst (v := 0) hx hb dL_areAlike_165 (by decide) ?_
        refine lv_istore (lv' := [(4, .int 0), (0, .ref (ad 0)), (1, .ref (ad2 0)), (5, .int v5)]) hx hb dL_areAlike_166 hl (by decide) rfl (fun ls hl => ?_)
        refine lv_iinc (v := (v5 + 1)) (lv' := [(5, .int (v5 + 1)), (4, .int 0), (0, .ref (ad 0)), (1, .ref (ad2 0))]) hx hb dL_areAlike_168 hl (k := 3) rfl rfl (by decide) rfl (fun ls hl => ?_)
        refine lv_goto (tgt := 121) hx hb dL_areAlike_171 (by decide) ?_
        exact ih 0 (v5 + 1) μ μ2 _ _ _ h w (lv_sub hl [2, 3, 1, 0] rfl)
      · have h := h.2 c_46
        refine lv_iload hx hb dL_areAlike_133 (lv_at hl 3 rfl) ?_
        refine lv_iconst (v := 1) hx hb dL_areAlike_135 (by decide) ?_
        refine lv_icmp_eq (tgt := 161) hx hb dL_areAlike_136 (by decide) (fun c_47 => ?_) (fun c_47 => ?_)
        · have h := h.1 c_47
          refine lv_iconst (v := 1) hx hb dL_areAlike_161 (by decide) ?_
          refine lv_goto (tgt := 166) hx hb dL_areAlike_162 (by decide) ?_
          refine lv_istore (lv' := [(4, .int 1), (0, .ref (ad 0)), (1, .ref (ad2 0)), (5, .int v5)]) hx hb dL_areAlike_166 hl (by decide) rfl (fun ls hl => ?_)
          refine lv_iinc (v := (v5 + 1)) (lv' := [(5, .int (v5 + 1)), (4, .int 1), (0, .ref (ad 0)), (1, .ref (ad2 0))]) hx hb dL_areAlike_168 hl (k := 3) rfl rfl (by decide) rfl (fun ls hl => ?_)
          refine lv_goto (tgt := 121) hx hb dL_areAlike_171 (by decide) ?_
          exact ih 1 (v5 + 1) μ μ2 _ _ _ h w (lv_sub hl [2, 3, 1, 0] rfl)
        · have h := h.2 c_47
          refine lv_iload hx hb dL_areAlike_139 (lv_at hl 3 rfl) ?_
          refine lv_bipush (v := 10) hx hb dL_areAlike_141 (by decide) ?_
          refine lv_icmp_eq (tgt := 161) hx hb dL_areAlike_143 (by decide) (fun c_48 => ?_) (fun c_48 => ?_)
          · have h := h.1 c_48
            refine lv_iconst (v := 1) hx hb dL_areAlike_161 (by decide) ?_
            refine lv_goto (tgt := 166) hx hb dL_areAlike_162 (by decide) ?_
            refine lv_istore (lv' := [(4, .int 1), (0, .ref (ad 0)), (1, .ref (ad2 0)), (5, .int v5)]) hx hb dL_areAlike_166 hl (by decide) rfl (fun ls hl => ?_)
            refine lv_iinc (v := (v5 + 1)) (lv' := [(5, .int (v5 + 1)), (4, .int 1), (0, .ref (ad 0)), (1, .ref (ad2 0))]) hx hb dL_areAlike_168 hl (k := 3) rfl rfl (by decide) rfl (fun ls hl => ?_)
            refine lv_goto (tgt := 121) hx hb dL_areAlike_171 (by decide) ?_
            exact ih 1 (v5 + 1) μ μ2 _ _ _ h w (lv_sub hl [2, 3, 1, 0] rfl)
          · have h := h.2 c_48
            refine lv_aload_n hx hb dL_areAlike_146 rfl (lv_at hl 0 rfl) ?_
            refine lv_iload hx hb dL_areAlike_147 (lv_at hl 3 rfl) ?_
            refine x2_calli C w (x_runV (ad := ad) (i := 0) (As := [.int v5]) (rest := []) C w.1 (rfl : kd 0 = 0) (by decide) (ci := 4) rfl rfl rfl me_X4_count ml_StairBowsLaw_9 (c_X4_count l g ad μ _ v5 h) ⟨rfl, rfl⟩ ⟨Nat.le_of_ble_eq_true rfl, Nat.le_of_ble_eq_true rfl⟩ rfl hl.1 rfl (Nat.le_of_ble_eq_true rfl) dL_areAlike_149 ⟨Nat.le_of_ble_eq_true rfl, Nat.le_of_ble_eq_true rfl⟩) (fun r_49 m_50 h H locs w => ?_)
            refine lv_aload_n hx hb dL_areAlike_152 rfl (lv_at hl 1 rfl) ?_
            refine lv_iload hx hb dL_areAlike_153 (lv_at hl 3 rfl) ?_
            refine x2_callip C w (x_runV (ad := ad2) (i := 0) (As := [.int v5]) (rest := [.int r_49]) C w.2.1 (rfl : kd 0 = 0) (by decide) (ci := 4) rfl rfl rfl me_X4_count ml_StairBowsLaw_9 (c_X4_count l g ad2 μ2 _ v5 h) ⟨rfl, rfl⟩ ⟨Nat.le_of_ble_eq_true rfl, Nat.le_of_ble_eq_true rfl⟩ rfl hl.1 rfl (Nat.le_of_ble_eq_true rfl) dL_areAlike_155 ⟨Nat.le_of_ble_eq_true rfl, Nat.le_of_ble_eq_true rfl⟩) (fun r_51 m_52 h H locs w => ?_)
            refine lv_icmp_ne (tgt := 165) hx hb dL_areAlike_158 (by decide) (fun c_53 => ?_) (fun c_53 => ?_)
            · have h := h.1 c_53
              refine lv_iconst (v := 0) hx hb dL_areAlike_165 (by decide) ?_
              refine lv_istore (lv' := [(4, .int 0), (0, .ref (ad 0)), (1, .ref (ad2 0)), (5, .int v5)]) hx hb dL_areAlike_166 hl (by decide) rfl (fun ls hl => ?_)
              refine lv_iinc (v := (v5 + 1)) (lv' := [(5, .int (v5 + 1)), (4, .int 0), (0, .ref (ad 0)), (1, .ref (ad2 0))]) hx hb dL_areAlike_168 hl (k := 3) rfl rfl (by decide) rfl (fun ls hl => ?_)
              refine lv_goto (tgt := 121) hx hb dL_areAlike_171 (by decide) ?_
              exact ih 0 (v5 + 1) m_50 m_52 _ _ _ h w (lv_sub hl [2, 3, 1, 0] rfl)
            · have h := h.2 c_53
              refine lv_iconst (v := 1) hx hb dL_areAlike_161 (by decide) ?_
              refine lv_goto (tgt := 166) hx hb dL_areAlike_162 (by decide) ?_
              refine lv_istore (lv' := [(4, .int 1), (0, .ref (ad 0)), (1, .ref (ad2 0)), (5, .int v5)]) hx hb dL_areAlike_166 hl (by decide) rfl (fun ls hl => ?_)
              refine lv_iinc (v := (v5 + 1)) (lv' := [(5, .int (v5 + 1)), (4, .int 1), (0, .ref (ad 0)), (1, .ref (ad2 0))]) hx hb dL_areAlike_168 hl (k := 3) rfl rfl (by decide) rfl (fun ls hl => ?_)
              refine lv_goto (tgt := 121) hx hb dL_areAlike_171 (by decide) ?_
              exact ih 1 (v5 + 1) m_50 m_52 _ _ _ h w (lv_sub hl [2, 3, 1, 0] rfl)
set_option maxHeartbeats 4000000 in
set_option maxRecDepth 100000 in
theorem c_L_areAlike (l : Launch) (g : Gv) (ad : Nat → Nat) (μ : Mem) (ad2 : Nat → Nat) (μ2 : Mem) (sz : Nat) (a2 : Int32) {K : Int32 → Mem → Mem → Prop} (h : wp_L_areAlike a2 μ μ2 K) : Met l yL_areAlike (wX yL_areAlike cL_areAlike 7 (some .boolean)) rm_L_areAlike (Pre2 g ad μ ad2 μ2 sz [.ref (ad 0), .ref (ad2 0), .int a2]) (Post2 g ad ad2 sz K) 0 0 (Aw2 ad ad2 sz) := by
  refine Met.ofW (cc := cL_areAlike) (maxL := 7) (ret := (some .boolean)) (by decide) rfl ?_
  intro p e s m args below meth c s₁ B hml hv
  obtain ⟨rfl, rfl, C, w⟩ := x2_start B hml hv
  obtain ⟨hx, hb, hml, -, hts, hown, -, -, hN⟩ := id C
  have hl := lv_entry ([.ref (ad 0), .ref (ad2 0), .int a2]) (n := 7) (Nat.le_of_ble_eq_true rfl)
  rw [lg_entry_eq]
  generalize (lg_sl ([.ref (ad 0), .ref (ad2 0), .int a2]) ++ List.replicate (7 - (lg_sl ([.ref (ad 0), .ref (ad2 0), .int a2])).length) Slot.unset).toArray = ls at hl ⊢
  have hl : lv_has ls 7 [(0, .ref (ad 0)), (1, .ref (ad2 0)), (2, .int a2)] := hl
  show W p l e rm_L_areAlike s m _ below meth c s.heap [] 0 0 _ _
  unfold wp_L_areAlike at h
  refine lv_iconst (v := 1) hx hb dL_areAlike_0 (by decide) ?_
  refine lv_iload_n hx hb dL_areAlike_1 rfl (lv_at hl 2 rfl) ?_
  refine lv_sipush (v := 200) hx hb dL_areAlike_2 (by decide) ?_
  refine x2_calli C w (x_runS (ad := ad) (As := [.int a2, .int 200]) (rest := [.int 1]) C w.1 me_L_up ml_StairBowsLaw_15 (c_L_up l g ad μ _ a2 200 h) ⟨rfl, rfl⟩ ⟨Nat.le_of_ble_eq_true rfl, Nat.le_of_ble_eq_true rfl⟩ rfl hl.1 rfl (Nat.le_of_ble_eq_true rfl) dL_areAlike_5 ⟨Nat.le_of_ble_eq_true rfl, Nat.le_of_ble_eq_true rfl⟩) (fun r_1 m_2 h H locs w => ?_)
  refine lv_iadd hx hb dL_areAlike_8 ?_
  refine lv_istore_n (lv' := [(3, .int (1 + r_1)), (0, .ref (ad 0)), (1, .ref (ad2 0)), (2, .int a2)]) hx hb dL_areAlike_9 rfl hl (by decide) rfl (fun ls hl => ?_)
  refine lv_aload_n hx hb dL_areAlike_10 rfl (lv_at hl 1 rfl) ?_
  refine x2_calli C w (x_runV (ad := ad) (i := 0) (As := []) (rest := []) C w.1 (rfl : kd 0 = 0) (by decide) (ci := 4) rfl rfl rfl me_X4_untilEmpty ml_StairBowsLaw_37 (c_X4_untilEmpty l g ad m_2 _  h) ⟨rfl, rfl⟩ ⟨Nat.le_of_ble_eq_true rfl, Nat.le_of_ble_eq_true rfl⟩ rfl hl.1 rfl (Nat.le_of_ble_eq_true rfl) dL_areAlike_11 ⟨Nat.le_of_ble_eq_true rfl, Nat.le_of_ble_eq_true rfl⟩) (fun r_3 m_4 h H locs w => ?_)
  refine lv_aload_n hx hb dL_areAlike_14 rfl (lv_at hl 2 rfl) ?_
  refine x2_callip C w (x_runV (ad := ad2) (i := 0) (As := []) (rest := [.int r_3]) C w.2.1 (rfl : kd 0 = 0) (by decide) (ci := 4) rfl rfl rfl me_X4_untilEmpty ml_StairBowsLaw_37 (c_X4_untilEmpty l g ad2 μ2 _  h) ⟨rfl, rfl⟩ ⟨Nat.le_of_ble_eq_true rfl, Nat.le_of_ble_eq_true rfl⟩ rfl hl.1 rfl (Nat.le_of_ble_eq_true rfl) dL_areAlike_15 ⟨Nat.le_of_ble_eq_true rfl, Nat.le_of_ble_eq_true rfl⟩) (fun r_5 m_6 h H locs w => ?_)
  refine lv_icmp_ne (tgt := 115) hx hb dL_areAlike_18 (by decide) (fun c_7 => ?_) (fun c_7 => ?_)
  · have h := h.1 c_7
    refine lv_iconst (v := 0) hx hb dL_areAlike_115 (by decide) ?_
    refine lv_istore (lv' := [(4, .int 0), (3, .int (1 + r_1)), (0, .ref (ad 0)), (1, .ref (ad2 0)), (2, .int a2)]) hx hb dL_areAlike_116 hl (by decide) rfl (fun ls hl => ?_)
    refine lv_iconst (v := 0) hx hb dL_areAlike_118 (by decide) ?_
    refine lv_istore (lv' := [(5, .int 0), (4, .int 0), (3, .int (1 + r_1)), (0, .ref (ad 0)), (1, .ref (ad2 0)), (2, .int a2)]) hx hb dL_areAlike_119 hl (by decide) rfl (fun ls hl => ?_)
    obtain ⟨n_54, h⟩ := h
    exact t_L_areAlike_L121 C n_54 0 0 m_4 m_6 _ _ _ h w (lv_sub hl [3, 4, 1, 0] rfl)
  · have h := h.2 c_7
    refine lv_aload_n hx hb dL_areAlike_21 rfl (lv_at hl 1 rfl) ?_
    refine x2_calli C w (x_runV (ad := ad) (i := 0) (As := []) (rest := []) C w.1 (rfl : kd 0 = 0) (by decide) (ci := 4) rfl rfl rfl me_X4_bestLanding ml_StairBowsLaw_67 (c_X4_bestLanding l g ad m_4 _  h) ⟨rfl, rfl⟩ ⟨Nat.le_of_ble_eq_true rfl, Nat.le_of_ble_eq_true rfl⟩ rfl hl.1 rfl (Nat.le_of_ble_eq_true rfl) dL_areAlike_22 ⟨Nat.le_of_ble_eq_true rfl, Nat.le_of_ble_eq_true rfl⟩) (fun r_55 m_56 h H locs w => ?_)
    refine lv_aload_n hx hb dL_areAlike_25 rfl (lv_at hl 2 rfl) ?_
    refine x2_callip C w (x_runV (ad := ad2) (i := 0) (As := []) (rest := [.int r_55]) C w.2.1 (rfl : kd 0 = 0) (by decide) (ci := 4) rfl rfl rfl me_X4_bestLanding ml_StairBowsLaw_67 (c_X4_bestLanding l g ad2 m_6 _  h) ⟨rfl, rfl⟩ ⟨Nat.le_of_ble_eq_true rfl, Nat.le_of_ble_eq_true rfl⟩ rfl hl.1 rfl (Nat.le_of_ble_eq_true rfl) dL_areAlike_26 ⟨Nat.le_of_ble_eq_true rfl, Nat.le_of_ble_eq_true rfl⟩) (fun r_57 m_58 h H locs w => ?_)
    refine lv_icmp_ne (tgt := 115) hx hb dL_areAlike_29 (by decide) (fun c_59 => ?_) (fun c_59 => ?_)
    · have h := h.1 c_59
      refine lv_iconst (v := 0) hx hb dL_areAlike_115 (by decide) ?_
      refine lv_istore (lv' := [(4, .int 0), (3, .int (1 + r_1)), (0, .ref (ad 0)), (1, .ref (ad2 0)), (2, .int a2)]) hx hb dL_areAlike_116 hl (by decide) rfl (fun ls hl => ?_)
      refine lv_iconst (v := 0) hx hb dL_areAlike_118 (by decide) ?_
      refine lv_istore (lv' := [(5, .int 0), (4, .int 0), (3, .int (1 + r_1)), (0, .ref (ad 0)), (1, .ref (ad2 0)), (2, .int a2)]) hx hb dL_areAlike_119 hl (by decide) rfl (fun ls hl => ?_)
      obtain ⟨n_60, h⟩ := h
      exact t_L_areAlike_L121 C n_60 0 0 m_56 m_58 _ _ _ h w (lv_sub hl [3, 4, 1, 0] rfl)
    · have h := h.2 c_59
      refine lv_aload_n hx hb dL_areAlike_32 rfl (lv_at hl 2 rfl) ?_
      refine lv_bipush (v := 10) hx hb dL_areAlike_33 (by decide) ?_
      refine x2_callip C w (x_runV (ad := ad2) (i := 0) (As := [.int 10]) (rest := []) C w.2.1 (rfl : kd 0 = 0) (by decide) (ci := 4) rfl rfl rfl me_X4_count ml_StairBowsLaw_9 (c_X4_count l g ad2 m_58 _ 10 h) ⟨rfl, rfl⟩ ⟨Nat.le_of_ble_eq_true rfl, Nat.le_of_ble_eq_true rfl⟩ rfl hl.1 rfl (Nat.le_of_ble_eq_true rfl) dL_areAlike_35 ⟨Nat.le_of_ble_eq_true rfl, Nat.le_of_ble_eq_true rfl⟩) (fun r_61 m_62 h H locs w => ?_)
      refine lv_iconst (v := 2) hx hb dL_areAlike_38 (by decide) ?_
      refine lv_aload_n hx hb dL_areAlike_39 rfl (lv_at hl 1 rfl) ?_
      refine lv_bipush (v := 10) hx hb dL_areAlike_40 (by decide) ?_
      refine x2_calli C w (x_runV (ad := ad) (i := 0) (As := [.int 10]) (rest := [.int 2, .int r_61]) C w.1 (rfl : kd 0 = 0) (by decide) (ci := 4) rfl rfl rfl me_X4_count ml_StairBowsLaw_9 (c_X4_count l g ad m_56 _ 10 h) ⟨rfl, rfl⟩ ⟨Nat.le_of_ble_eq_true rfl, Nat.le_of_ble_eq_true rfl⟩ rfl hl.1 rfl (Nat.le_of_ble_eq_true rfl) dL_areAlike_42 ⟨Nat.le_of_ble_eq_true rfl, Nat.le_of_ble_eq_true rfl⟩) (fun r_63 m_64 h H locs w => ?_)
      refine lv_imul hx hb dL_areAlike_45 ?_
      refine lv_icmp_ne (tgt := 115) hx hb dL_areAlike_46 (by decide) (fun c_65 => ?_) (fun c_65 => ?_)
      · have h := h.1 c_65
        refine lv_iconst (v := 0) hx hb dL_areAlike_115 (by decide) ?_
        refine lv_istore (lv' := [(4, .int 0), (3, .int (1 + r_1)), (0, .ref (ad 0)), (1, .ref (ad2 0)), (2, .int a2)]) hx hb dL_areAlike_116 hl (by decide) rfl (fun ls hl => ?_)
        refine lv_iconst (v := 0) hx hb dL_areAlike_118 (by decide) ?_
        refine lv_istore (lv' := [(5, .int 0), (4, .int 0), (3, .int (1 + r_1)), (0, .ref (ad 0)), (1, .ref (ad2 0)), (2, .int a2)]) hx hb dL_areAlike_119 hl (by decide) rfl (fun ls hl => ?_)
        obtain ⟨n_66, h⟩ := h
        exact t_L_areAlike_L121 C n_66 0 0 m_64 m_62 _ _ _ h w (lv_sub hl [3, 4, 1, 0] rfl)
      · have h := h.2 c_65
        refine lv_aload_n hx hb dL_areAlike_49 rfl (lv_at hl 1 rfl) ?_
        refine lv_iload_n hx hb dL_areAlike_50 rfl (lv_at hl 0 rfl) ?_
        refine lv_iconst (v := 0) hx hb dL_areAlike_51 (by decide) ?_
        refine x2_calli C w (x_runV (ad := ad) (i := 0) (As := [.int (1 + r_1), .int 0]) (rest := []) C w.1 (rfl : kd 0 = 0) (by decide) (ci := 4) rfl rfl rfl me_X4_ifPassed ml_StairBowsLaw_70 (c_X4_ifPassed l g ad m_64 _ (1 + r_1) 0 h) ⟨rfl, rfl⟩ ⟨Nat.le_of_ble_eq_true rfl, Nat.le_of_ble_eq_true rfl⟩ rfl hl.1 rfl (Nat.le_of_ble_eq_true rfl) dL_areAlike_52 ⟨Nat.le_of_ble_eq_true rfl, Nat.le_of_ble_eq_true rfl⟩) (fun r_67 m_68 h H locs w => ?_)
        refine lv_aload_n hx hb dL_areAlike_55 rfl (lv_at hl 2 rfl) ?_
        refine lv_iload_n hx hb dL_areAlike_56 rfl (lv_at hl 0 rfl) ?_
        refine lv_iconst (v := 0) hx hb dL_areAlike_57 (by decide) ?_
        refine x2_callip C w (x_runV (ad := ad2) (i := 0) (As := [.int (1 + r_1), .int 0]) (rest := [.int r_67]) C w.2.1 (rfl : kd 0 = 0) (by decide) (ci := 4) rfl rfl rfl me_X4_ifPassed ml_StairBowsLaw_70 (c_X4_ifPassed l g ad2 m_62 _ (1 + r_1) 0 h) ⟨rfl, rfl⟩ ⟨Nat.le_of_ble_eq_true rfl, Nat.le_of_ble_eq_true rfl⟩ rfl hl.1 rfl (Nat.le_of_ble_eq_true rfl) dL_areAlike_58 ⟨Nat.le_of_ble_eq_true rfl, Nat.le_of_ble_eq_true rfl⟩) (fun r_69 m_70 h H locs w => ?_)
        refine lv_icmp_ne (tgt := 115) hx hb dL_areAlike_61 (by decide) (fun c_71 => ?_) (fun c_71 => ?_)
        · have h := h.1 c_71
          refine lv_iconst (v := 0) hx hb dL_areAlike_115 (by decide) ?_
          refine lv_istore (lv' := [(4, .int 0), (3, .int (1 + r_1)), (0, .ref (ad 0)), (1, .ref (ad2 0)), (2, .int a2)]) hx hb dL_areAlike_116 hl (by decide) rfl (fun ls hl => ?_)
          refine lv_iconst (v := 0) hx hb dL_areAlike_118 (by decide) ?_
          refine lv_istore (lv' := [(5, .int 0), (4, .int 0), (3, .int (1 + r_1)), (0, .ref (ad 0)), (1, .ref (ad2 0)), (2, .int a2)]) hx hb dL_areAlike_119 hl (by decide) rfl (fun ls hl => ?_)
          obtain ⟨n_72, h⟩ := h
          exact t_L_areAlike_L121 C n_72 0 0 m_68 m_70 _ _ _ h w (lv_sub hl [3, 4, 1, 0] rfl)
        · have h := h.2 c_71
          refine lv_aload_n hx hb dL_areAlike_64 rfl (lv_at hl 1 rfl) ?_
          refine lv_iload_n hx hb dL_areAlike_65 rfl (lv_at hl 0 rfl) ?_
          refine lv_iconst (v := 1) hx hb dL_areAlike_66 (by decide) ?_
          refine x2_calli C w (x_runV (ad := ad) (i := 0) (As := [.int (1 + r_1), .int 1]) (rest := []) C w.1 (rfl : kd 0 = 0) (by decide) (ci := 4) rfl rfl rfl me_X4_ifPassed ml_StairBowsLaw_70 (c_X4_ifPassed l g ad m_68 _ (1 + r_1) 1 h) ⟨rfl, rfl⟩ ⟨Nat.le_of_ble_eq_true rfl, Nat.le_of_ble_eq_true rfl⟩ rfl hl.1 rfl (Nat.le_of_ble_eq_true rfl) dL_areAlike_67 ⟨Nat.le_of_ble_eq_true rfl, Nat.le_of_ble_eq_true rfl⟩) (fun r_73 m_74 h H locs w => ?_)
          refine lv_aload_n hx hb dL_areAlike_70 rfl (lv_at hl 2 rfl) ?_
          refine lv_iload_n hx hb dL_areAlike_71 rfl (lv_at hl 0 rfl) ?_
          refine lv_iconst (v := 1) hx hb dL_areAlike_72 (by decide) ?_
          refine x2_callip C w (x_runV (ad := ad2) (i := 0) (As := [.int (1 + r_1), .int 1]) (rest := [.int r_73]) C w.2.1 (rfl : kd 0 = 0) (by decide) (ci := 4) rfl rfl rfl me_X4_ifPassed ml_StairBowsLaw_70 (c_X4_ifPassed l g ad2 m_70 _ (1 + r_1) 1 h) ⟨rfl, rfl⟩ ⟨Nat.le_of_ble_eq_true rfl, Nat.le_of_ble_eq_true rfl⟩ rfl hl.1 rfl (Nat.le_of_ble_eq_true rfl) dL_areAlike_73 ⟨Nat.le_of_ble_eq_true rfl, Nat.le_of_ble_eq_true rfl⟩) (fun r_75 m_76 h H locs w => ?_)
          refine lv_icmp_ne (tgt := 115) hx hb dL_areAlike_76 (by decide) (fun c_77 => ?_) (fun c_77 => ?_)
          · have h := h.1 c_77
            refine lv_iconst (v := 0) hx hb dL_areAlike_115 (by decide) ?_
            refine lv_istore (lv' := [(4, .int 0), (3, .int (1 + r_1)), (0, .ref (ad 0)), (1, .ref (ad2 0)), (2, .int a2)]) hx hb dL_areAlike_116 hl (by decide) rfl (fun ls hl => ?_)
            refine lv_iconst (v := 0) hx hb dL_areAlike_118 (by decide) ?_
            refine lv_istore (lv' := [(5, .int 0), (4, .int 0), (3, .int (1 + r_1)), (0, .ref (ad 0)), (1, .ref (ad2 0)), (2, .int a2)]) hx hb dL_areAlike_119 hl (by decide) rfl (fun ls hl => ?_)
            obtain ⟨n_78, h⟩ := h
            exact t_L_areAlike_L121 C n_78 0 0 m_74 m_76 _ _ _ h w (lv_sub hl [3, 4, 1, 0] rfl)
          · have h := h.2 c_77
            refine lv_iconst (v := 2) hx hb dL_areAlike_79 (by decide) ?_
            refine lv_aload_n hx hb dL_areAlike_80 rfl (lv_at hl 1 rfl) ?_
            refine lv_iload_n hx hb dL_areAlike_81 rfl (lv_at hl 0 rfl) ?_
            refine lv_iconst (v := 2) hx hb dL_areAlike_82 (by decide) ?_
            refine x2_calli C w (x_runV (ad := ad) (i := 0) (As := [.int (1 + r_1), .int 2]) (rest := [.int 2]) C w.1 (rfl : kd 0 = 0) (by decide) (ci := 4) rfl rfl rfl me_X4_ifPassed ml_StairBowsLaw_70 (c_X4_ifPassed l g ad m_74 _ (1 + r_1) 2 h) ⟨rfl, rfl⟩ ⟨Nat.le_of_ble_eq_true rfl, Nat.le_of_ble_eq_true rfl⟩ rfl hl.1 rfl (Nat.le_of_ble_eq_true rfl) dL_areAlike_83 ⟨Nat.le_of_ble_eq_true rfl, Nat.le_of_ble_eq_true rfl⟩) (fun r_79 m_80 h H locs w => ?_)
            refine lv_imul hx hb dL_areAlike_86 ?_
            refine lv_aload_n hx hb dL_areAlike_87 rfl (lv_at hl 2 rfl) ?_
            refine lv_iload_n hx hb dL_areAlike_88 rfl (lv_at hl 0 rfl) ?_
            refine lv_iconst (v := 2) hx hb dL_areAlike_89 (by decide) ?_
            refine x2_callip C w (x_runV (ad := ad2) (i := 0) (As := [.int (1 + r_1), .int 2]) (rest := [.int (2 * r_79)]) C w.2.1 (rfl : kd 0 = 0) (by decide) (ci := 4) rfl rfl rfl me_X4_ifPassed ml_StairBowsLaw_70 (c_X4_ifPassed l g ad2 m_76 _ (1 + r_1) 2 h) ⟨rfl, rfl⟩ ⟨Nat.le_of_ble_eq_true rfl, Nat.le_of_ble_eq_true rfl⟩ rfl hl.1 rfl (Nat.le_of_ble_eq_true rfl) dL_areAlike_90 ⟨Nat.le_of_ble_eq_true rfl, Nat.le_of_ble_eq_true rfl⟩) (fun r_81 m_82 h H locs w => ?_)
            refine lv_icmp_ne (tgt := 115) hx hb dL_areAlike_93 (by decide) (fun c_83 => ?_) (fun c_83 => ?_)
            · have h := h.1 c_83
              refine lv_iconst (v := 0) hx hb dL_areAlike_115 (by decide) ?_
              refine lv_istore (lv' := [(4, .int 0), (3, .int (1 + r_1)), (0, .ref (ad 0)), (1, .ref (ad2 0)), (2, .int a2)]) hx hb dL_areAlike_116 hl (by decide) rfl (fun ls hl => ?_)
              refine lv_iconst (v := 0) hx hb dL_areAlike_118 (by decide) ?_
              refine lv_istore (lv' := [(5, .int 0), (4, .int 0), (3, .int (1 + r_1)), (0, .ref (ad 0)), (1, .ref (ad2 0)), (2, .int a2)]) hx hb dL_areAlike_119 hl (by decide) rfl (fun ls hl => ?_)
              obtain ⟨n_84, h⟩ := h
              exact t_L_areAlike_L121 C n_84 0 0 m_80 m_82 _ _ _ h w (lv_sub hl [3, 4, 1, 0] rfl)
            · have h := h.2 c_83
              refine lv_aload_n hx hb dL_areAlike_96 rfl (lv_at hl 1 rfl) ?_
              refine lv_iload_n hx hb dL_areAlike_97 rfl (lv_at hl 0 rfl) ?_
              refine lv_iconst (v := 3) hx hb dL_areAlike_98 (by decide) ?_
              refine x2_calli C w (x_runV (ad := ad) (i := 0) (As := [.int (1 + r_1), .int 3]) (rest := []) C w.1 (rfl : kd 0 = 0) (by decide) (ci := 4) rfl rfl rfl me_X4_ifPassed ml_StairBowsLaw_70 (c_X4_ifPassed l g ad m_80 _ (1 + r_1) 3 h) ⟨rfl, rfl⟩ ⟨Nat.le_of_ble_eq_true rfl, Nat.le_of_ble_eq_true rfl⟩ rfl hl.1 rfl (Nat.le_of_ble_eq_true rfl) dL_areAlike_99 ⟨Nat.le_of_ble_eq_true rfl, Nat.le_of_ble_eq_true rfl⟩) (fun r_85 m_86 h H locs w => ?_)
              refine lv_aload_n hx hb dL_areAlike_102 rfl (lv_at hl 2 rfl) ?_
              refine lv_iload_n hx hb dL_areAlike_103 rfl (lv_at hl 0 rfl) ?_
              refine lv_iconst (v := 3) hx hb dL_areAlike_104 (by decide) ?_
              refine x2_callip C w (x_runV (ad := ad2) (i := 0) (As := [.int (1 + r_1), .int 3]) (rest := [.int r_85]) C w.2.1 (rfl : kd 0 = 0) (by decide) (ci := 4) rfl rfl rfl me_X4_ifPassed ml_StairBowsLaw_70 (c_X4_ifPassed l g ad2 m_82 _ (1 + r_1) 3 h) ⟨rfl, rfl⟩ ⟨Nat.le_of_ble_eq_true rfl, Nat.le_of_ble_eq_true rfl⟩ rfl hl.1 rfl (Nat.le_of_ble_eq_true rfl) dL_areAlike_105 ⟨Nat.le_of_ble_eq_true rfl, Nat.le_of_ble_eq_true rfl⟩) (fun r_87 m_88 h H locs w => ?_)
              refine lv_icmp_ne (tgt := 115) hx hb dL_areAlike_108 (by decide) (fun c_89 => ?_) (fun c_89 => ?_)
              · have h := h.1 c_89
                refine lv_iconst (v := 0) hx hb dL_areAlike_115 (by decide) ?_
                refine lv_istore (lv' := [(4, .int 0), (3, .int (1 + r_1)), (0, .ref (ad 0)), (1, .ref (ad2 0)), (2, .int a2)]) hx hb dL_areAlike_116 hl (by decide) rfl (fun ls hl => ?_)
                refine lv_iconst (v := 0) hx hb dL_areAlike_118 (by decide) ?_
                refine lv_istore (lv' := [(5, .int 0), (4, .int 0), (3, .int (1 + r_1)), (0, .ref (ad 0)), (1, .ref (ad2 0)), (2, .int a2)]) hx hb dL_areAlike_119 hl (by decide) rfl (fun ls hl => ?_)
                obtain ⟨n_90, h⟩ := h
                exact t_L_areAlike_L121 C n_90 0 0 m_86 m_88 _ _ _ h w (lv_sub hl [3, 4, 1, 0] rfl)
              · have h := h.2 c_89
                refine lv_iconst (v := 1) hx hb dL_areAlike_111 (by decide) ?_
                refine lv_goto (tgt := 116) hx hb dL_areAlike_112 (by decide) ?_
                refine lv_istore (lv' := [(4, .int 1), (3, .int (1 + r_1)), (0, .ref (ad 0)), (1, .ref (ad2 0)), (2, .int a2)]) hx hb dL_areAlike_116 hl (by decide) rfl (fun ls hl => ?_)
                refine lv_iconst (v := 0) hx hb dL_areAlike_118 (by decide) ?_
                refine lv_istore (lv' := [(5, .int 0), (4, .int 1), (3, .int (1 + r_1)), (0, .ref (ad 0)), (1, .ref (ad2 0)), (2, .int a2)]) hx hb dL_areAlike_119 hl (by decide) rfl (fun ls hl => ?_)
                obtain ⟨n_91, h⟩ := h
                exact t_L_areAlike_L121 C n_91 1 0 m_86 m_88 _ _ _ h w (lv_sub hl [3, 4, 1, 0] rfl)

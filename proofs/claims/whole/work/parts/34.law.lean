/-! THE LAW'S CASES, by program (wip/whole/p34.py) -/
theorem ml_StairBowsLaw_13 : Cond.methodLink "StairBowsLaw" 13 yX4_set ∈ tb_G := tb_in 186 (by decide +kernel) rfl
theorem ml_StairBowsLaw_17 : Cond.methodLink "StairBowsLaw" 17 yX5_set ∈ tb_G := tb_in 479 (by decide +kernel) rfl
theorem ml_StairBowsLaw_18 : Cond.methodLink "StairBowsLaw" 18 yX4_landing ∈ tb_G := tb_in 223 (by decide +kernel) rfl
theorem ml_StairBowsLaw_22 : Cond.methodLink "StairBowsLaw" 22 yX5_landing ∈ tb_G := tb_in 516 (by decide +kernel) rfl
theorem ml_StairBowsLaw_23 : Cond.methodLink "StairBowsLaw" 23 yX4_come ∈ tb_G := tb_in 245 (by decide +kernel) rfl
theorem ml_StairBowsLaw_26 : Cond.methodLink "StairBowsLaw" 26 yX5_come ∈ tb_G := tb_in 528 (by decide +kernel) rfl
theorem ml_StairBowsLaw_27 : Cond.methodLink "StairBowsLaw" 27 yX4_read ∈ tb_G := tb_in 257 (by decide +kernel) rfl
theorem ml_StairBowsLaw_31 : Cond.methodLink "StairBowsLaw" 31 yX5_read ∈ tb_G := tb_in 540 (by decide +kernel) rfl
theorem ml_StairBowsLaw_32 : Cond.methodLink "StairBowsLaw" 32 yX4_turn ∈ tb_G := tb_in 277 (by decide +kernel) rfl
theorem ml_StairBowsLaw_36 : Cond.methodLink "StairBowsLaw" 36 yX5_turn ∈ tb_G := tb_in 554 (by decide +kernel) rfl
theorem ml_StairBowsLaw_37 : Cond.methodLink "StairBowsLaw" 37 yX4_pass ∈ tb_G := tb_in 285 (by decide +kernel) rfl
theorem ml_StairBowsLaw_40 : Cond.methodLink "StairBowsLaw" 40 yX5_pass ∈ tb_G := tb_in 562 (by decide +kernel) rfl
theorem ml_StairBowsLaw_41 : Cond.methodLink "StairBowsLaw" 41 yX4_person ∈ tb_G := tb_in 347 (by decide +kernel) rfl
theorem ml_StairBowsLaw_44 : Cond.methodLink "StairBowsLaw" 44 yX5_person ∈ tb_G := tb_in 615 (by decide +kernel) rfl
theorem ml_StairBowsLaw_45 : Cond.methodLink "StairBowsLaw" 45 yX4_step ∈ tb_G := tb_in 356 (by decide +kernel) rfl
theorem ml_StairBowsLaw_48 : Cond.methodLink "StairBowsLaw" 48 yX5_step ∈ tb_G := tb_in 620 (by decide +kernel) rfl
theorem ml_StairBowsLaw_49 : Cond.methodLink "StairBowsLaw" 49 yX4_does ∈ tb_G := tb_in 365 (by decide +kernel) rfl
theorem ml_StairBowsLaw_52 : Cond.methodLink "StairBowsLaw" 52 yX5_does ∈ tb_G := tb_in 628 (by decide +kernel) rfl
theorem ml_StairBowsLaw_53 : Cond.methodLink "StairBowsLaw" 53 yX4_count ∈ tb_G := tb_in 370 (by decide +kernel) rfl
theorem ml_StairBowsLaw_56 : Cond.methodLink "StairBowsLaw" 56 yX5_count ∈ tb_G := tb_in 640 (by decide +kernel) rfl
theorem ml_StairBowsLaw_57 : Cond.methodLink "StairBowsLaw" 57 yX4_untilArrived ∈ tb_G := tb_in 379 (by decide +kernel) rfl
theorem ml_StairBowsLaw_60 : Cond.methodLink "StairBowsLaw" 60 yX5_untilArrived ∈ tb_G := tb_in 645 (by decide +kernel) rfl
theorem ml_StairBowsLaw_61 : Cond.methodLink "StairBowsLaw" 61 yX4_untilEmpty ∈ tb_G := tb_in 384 (by decide +kernel) rfl
theorem ml_StairBowsLaw_64 : Cond.methodLink "StairBowsLaw" 64 yX5_untilEmpty ∈ tb_G := tb_in 657 (by decide +kernel) rfl
theorem ml_StairBowsLaw_65 : Cond.methodLink "StairBowsLaw" 65 yX4_ifPassed ∈ tb_G := tb_in 396 (by decide +kernel) rfl
theorem ml_StairBowsLaw_68 : Cond.methodLink "StairBowsLaw" 68 yX5_ifPassed ∈ tb_G := tb_in 661 (by decide +kernel) rfl
theorem ml_StairBowsLaw_69 : Cond.methodLink "StairBowsLaw" 69 yX4_bestLanding ∈ tb_G := tb_in 400 (by decide +kernel) rfl
theorem ml_StairBowsLaw_72 : Cond.methodLink "StairBowsLaw" 72 yX5_bestLanding ∈ tb_G := tb_in 667 (by decide +kernel) rfl
theorem mk_StairBowsLaw_73 : Cond.constantLong "StairBowsLaw" 73 (4294967295) ∈ tb_G := tb_in 702 (by decide +kernel) rfl
theorem ml_StairBowsLaw_75 : Cond.methodLink "StairBowsLaw" 75 yX4_put ∈ tb_G := tb_in 404 (by decide +kernel) rfl
theorem ml_StairBowsLaw_79 : Cond.methodLink "StairBowsLaw" 79 yX5_put ∈ tb_G := tb_in 672 (by decide +kernel) rfl
theorem ml_StairBowsLaw_80 : Cond.methodLink "StairBowsLaw" 80 yX4_wipe ∈ tb_G := tb_in 418 (by decide +kernel) rfl
theorem ml_StairBowsLaw_83 : Cond.methodLink "StairBowsLaw" 83 yX5_wipe ∈ tb_G := tb_in 682 (by decide +kernel) rfl
theorem ml_StairBowsLaw_84 : Cond.methodLink "StairBowsLaw" 84 yX4_fault ∈ tb_G := tb_in 422 (by decide +kernel) rfl
theorem ml_StairBowsLaw_87 : Cond.methodLink "StairBowsLaw" 87 yX5_fault ∈ tb_G := tb_in 686 (by decide +kernel) rfl
theorem ml_StairBowsLaw_88 : Cond.methodLink "StairBowsLaw" 88 yX4_undo ∈ tb_G := tb_in 426 (by decide +kernel) rfl
theorem ml_StairBowsLaw_91 : Cond.methodLink "StairBowsLaw" 91 yX5_undo ∈ tb_G := tb_in 687 (by decide +kernel) rfl
theorem ml_StairBowsLaw_92 : Cond.methodLink "StairBowsLaw" 92 yX4_save ∈ tb_G := tb_in 434 (by decide +kernel) rfl
theorem ml_StairBowsLaw_95 : Cond.methodLink "StairBowsLaw" 95 yX5_save ∈ tb_G := tb_in 691 (by decide +kernel) rfl
theorem ml_StairBowsLaw_96 : Cond.methodLink "StairBowsLaw" 96 yX4_restore ∈ tb_G := tb_in 441 (by decide +kernel) rfl
theorem ml_StairBowsLaw_99 : Cond.methodLink "StairBowsLaw" 99 yX5_restore ∈ tb_G := tb_in 698 (by decide +kernel) rfl
set_option maxHeartbeats 4000000 in
set_option maxRecDepth 100000 in
theorem t_law_0 {g : Gv} {ad : Nat → Nat} {μ : Mem} {l : Launch} {p : Program} {e : Env} {s : State} {m : MethodId} {args : Array Value} {below : List Frame} {meth : Method} {c : Code} {cells slots b L i : Nat} {xs : Nat → Int32} {A : Nat → Prop} {H : Heap} {locs : List Loc} {ls : Array Slot} {Q : State → Prop} (C : Cx g p s m args meth c "StairBowsLaw" cL_law 4 ret) (hcs : cells ≤ room_1.cells ∧ slots ≤ room_1.slots) (hX : va_X b L xs s s.heap) (hbl : b < s.heap.size) (hbA : ¬ A b) (hL : L ≤ 1536) (hi : i + 3 ≤ L) (hI : Inv μ) (w : Wd g ad μ A s H locs) (hl : lv_has ls 4 [(0, .ref b), (1, .ref (ad 0)), (2, .ref (ad 287)), (3, .int (nI i))])
    (kk : ∀ (μ2 : Mem) (H : Heap) (locs : List Loc), Inv μ2 → Wd g ad μ2 A s H locs → W p l e room_1 s m args below meth c H locs cells slots Q (F0 m 650 ls [])) : W p l e room_1 s m args below meth c H locs cells slots Q (F0 m 128 ls []) := by
  obtain ⟨hx, hb, hml, -, hts, hown, -, -, hN⟩ := id C
  have j1 : vp_in (nI i + 1) L := by rw [nI_1]; exact vp_in_nI (by omega) (by omega)
  have j2 : vp_in (nI i + 2) L := by rw [show nI i + 2 = nI (i + 2) from nI_add i 2]; exact vp_in_nI (by omega) (by omega)
  refine lv_aload_n hx hb dL_law_128 rfl (lv_at hl 1 rfl) ?_
  refine lv_aload_n hx hb dL_law_129 rfl (lv_at hl 0 rfl) ?_
  refine lv_iload_n hx hb dL_law_130 rfl (lv_at hl 3 rfl) ?_
  refine lv_iconst (v := 1) hx hb dL_law_131 (by decide) ?_
  refine lv_iadd hx hb dL_law_132 ?_
  refine va_sld hx hb hX hbl hbA w.2.2.1 j1 dL_law_133 ?_
  refine lv_aload_n hx hb dL_law_134 rfl (lv_at hl 0 rfl) ?_
  refine lv_iload_n hx hb dL_law_135 rfl (lv_at hl 3 rfl) ?_
  refine lv_iconst (v := 2) hx hb dL_law_136 (by decide) ?_
  refine lv_iadd hx hb dL_law_137 ?_
  refine va_sld hx hb hX hbl hbA w.2.2.1 j2 dL_law_138 ?_
  refine x_calli C w (x_runV (i := 0) (As := [.int (xs (nI i + 1).toNatClampNeg), .int (xs (nI i + 2).toNatClampNeg)]) (rest := []) C w (K := 0) rfl (by decide) (ci := 4) rfl rfl rfl me_X4_set ml_StairBowsLaw_13 (c_X4_set l g ad μ _ (xs (nI i + 1).toNatClampNeg) (xs (nI i + 2).toNatClampNeg) (op_set hI)) ⟨rfl, rfl⟩ ⟨Nat.le_of_ble_eq_true rfl, Nat.le_of_ble_eq_true rfl⟩ rfl hl.1 rfl (Nat.le_of_ble_eq_true rfl) dL_law_139 hcs) (fun r1 μ1 h H locs w => ?_)
  refine lv_aload_n hx hb dL_law_142 rfl (lv_at hl 2 rfl) ?_
  refine lv_aload_n hx hb dL_law_143 rfl (lv_at hl 0 rfl) ?_
  refine lv_iload_n hx hb dL_law_144 rfl (lv_at hl 3 rfl) ?_
  refine lv_iconst (v := 1) hx hb dL_law_145 (by decide) ?_
  refine lv_iadd hx hb dL_law_146 ?_
  refine va_sld hx hb hX hbl hbA w.2.2.1 j1 dL_law_147 ?_
  refine lv_aload_n hx hb dL_law_148 rfl (lv_at hl 0 rfl) ?_
  refine lv_iload_n hx hb dL_law_149 rfl (lv_at hl 3 rfl) ?_
  refine lv_iconst (v := 2) hx hb dL_law_150 (by decide) ?_
  refine lv_iadd hx hb dL_law_151 ?_
  refine va_sld hx hb hX hbl hbA w.2.2.1 j2 dL_law_152 ?_
  refine x_calli C w (x_runV (i := 287) (As := [.int (xs (nI i + 1).toNatClampNeg), .int (xs (nI i + 2).toNatClampNeg)]) (rest := [.int r1]) C w (K := 7) rfl (by decide) (ci := 5) rfl rfl rfl me_X5_set ml_StairBowsLaw_17 (c_X5_set l g ad μ1 _ (xs (nI i + 1).toNatClampNeg) (xs (nI i + 2).toNatClampNeg) h) ⟨rfl, rfl⟩ ⟨Nat.le_of_ble_eq_true rfl, Nat.le_of_ble_eq_true rfl⟩ rfl hl.1 rfl (Nat.le_of_ble_eq_true rfl) dL_law_153 hcs) (fun r2 μ2 h H locs w => ?_)
  obtain ⟨e, hI2⟩ := h
  refine lv_icmp_eq (tgt := 650) hx hb dL_law_156 (by decide) (fun _ => ?_) (fun c9 => absurd e c9)
  exact kk μ2 H locs hI2 w
set_option maxHeartbeats 4000000 in
set_option maxRecDepth 100000 in
theorem t_law_1 {g : Gv} {ad : Nat → Nat} {μ : Mem} {l : Launch} {p : Program} {e : Env} {s : State} {m : MethodId} {args : Array Value} {below : List Frame} {meth : Method} {c : Code} {cells slots b L i : Nat} {xs : Nat → Int32} {A : Nat → Prop} {H : Heap} {locs : List Loc} {ls : Array Slot} {Q : State → Prop} (C : Cx g p s m args meth c "StairBowsLaw" cL_law 4 ret) (hcs : cells ≤ room_1.cells ∧ slots ≤ room_1.slots) (hX : va_X b L xs s s.heap) (hbl : b < s.heap.size) (hbA : ¬ A b) (hL : L ≤ 1536) (hi : i + 3 ≤ L) (hI : Inv μ) (w : Wd g ad μ A s H locs) (hl : lv_has ls 4 [(0, .ref b), (1, .ref (ad 0)), (2, .ref (ad 287)), (3, .int (nI i))])
    (kk : ∀ (μ2 : Mem) (H : Heap) (locs : List Loc), Inv μ2 → Wd g ad μ2 A s H locs → W p l e room_1 s m args below meth c H locs cells slots Q (F0 m 650 ls [])) : W p l e room_1 s m args below meth c H locs cells slots Q (F0 m 161 ls []) := by
  obtain ⟨hx, hb, hml, -, hts, hown, -, -, hN⟩ := id C
  have j1 : vp_in (nI i + 1) L := by rw [nI_1]; exact vp_in_nI (by omega) (by omega)
  have j2 : vp_in (nI i + 2) L := by rw [show nI i + 2 = nI (i + 2) from nI_add i 2]; exact vp_in_nI (by omega) (by omega)
  refine lv_aload_n hx hb dL_law_161 rfl (lv_at hl 1 rfl) ?_
  refine lv_aload_n hx hb dL_law_162 rfl (lv_at hl 0 rfl) ?_
  refine lv_iload_n hx hb dL_law_163 rfl (lv_at hl 3 rfl) ?_
  refine lv_iconst (v := 1) hx hb dL_law_164 (by decide) ?_
  refine lv_iadd hx hb dL_law_165 ?_
  refine va_sld hx hb hX hbl hbA w.2.2.1 j1 dL_law_166 ?_
  refine lv_aload_n hx hb dL_law_167 rfl (lv_at hl 0 rfl) ?_
  refine lv_iload_n hx hb dL_law_168 rfl (lv_at hl 3 rfl) ?_
  refine lv_iconst (v := 2) hx hb dL_law_169 (by decide) ?_
  refine lv_iadd hx hb dL_law_170 ?_
  refine va_sld hx hb hX hbl hbA w.2.2.1 j2 dL_law_171 ?_
  refine lv_if_eq (tgt := 179) hx hb dL_law_172 (by decide) (fun cy => ?_) (fun cy => ?_)
  · skip
    refine lv_iconst (v := 0) hx hb dL_law_179 (by decide) ?_
    refine x_calli C w (x_runV (i := 0) (As := [.int (xs (nI i + 1).toNatClampNeg), .int 0]) (rest := []) C w (K := 0) rfl (by decide) (ci := 4) rfl rfl rfl me_X4_landing ml_StairBowsLaw_18 (c_X4_landing l g ad μ _ (xs (nI i + 1).toNatClampNeg) 0 (op_landing hI)) ⟨rfl, rfl⟩ ⟨Nat.le_of_ble_eq_true rfl, Nat.le_of_ble_eq_true rfl⟩ rfl hl.1 rfl (Nat.le_of_ble_eq_true rfl) dL_law_180 hcs) (fun r1 μ1 h H locs w => ?_)
    refine lv_aload_n hx hb dL_law_183 rfl (lv_at hl 2 rfl) ?_
    refine lv_aload_n hx hb dL_law_184 rfl (lv_at hl 0 rfl) ?_
    refine lv_iload_n hx hb dL_law_185 rfl (lv_at hl 3 rfl) ?_
    refine lv_iconst (v := 1) hx hb dL_law_186 (by decide) ?_
    refine lv_iadd hx hb dL_law_187 ?_
    refine va_sld hx hb hX hbl hbA w.2.2.1 j1 dL_law_188 ?_
    refine lv_aload_n hx hb dL_law_189 rfl (lv_at hl 0 rfl) ?_
    refine lv_iload_n hx hb dL_law_190 rfl (lv_at hl 3 rfl) ?_
    refine lv_iconst (v := 2) hx hb dL_law_191 (by decide) ?_
    refine lv_iadd hx hb dL_law_192 ?_
    refine va_sld hx hb hX hbl hbA w.2.2.1 j2 dL_law_193 ?_
    refine lv_if_eq (tgt := 201) hx hb dL_law_194 (by decide) (fun _ => ?_) (fun c2 => absurd cy c2)
    refine lv_iconst (v := 0) hx hb dL_law_201 (by decide) ?_
    refine x_calli C w (x_runV (i := 287) (As := [.int (xs (nI i + 1).toNatClampNeg), .int 0]) (rest := [.int r1]) C w (K := 7) rfl (by decide) (ci := 5) rfl rfl rfl me_X5_landing ml_StairBowsLaw_22 (c_X5_landing l g ad μ1 _ (xs (nI i + 1).toNatClampNeg) 0 h) ⟨rfl, rfl⟩ ⟨Nat.le_of_ble_eq_true rfl, Nat.le_of_ble_eq_true rfl⟩ rfl hl.1 rfl (Nat.le_of_ble_eq_true rfl) dL_law_202 hcs) (fun r2 μ2 h H locs w => ?_)
    obtain ⟨e, hI2⟩ := h
    refine lv_icmp_eq (tgt := 650) hx hb dL_law_205 (by decide) (fun _ => ?_) (fun c9 => absurd e c9)
    exact kk μ2 H locs hI2 w
  · skip
    refine lv_iconst (v := 1) hx hb dL_law_175 (by decide) ?_
    refine lv_goto (tgt := 180) hx hb dL_law_176 (by decide) ?_
    refine x_calli C w (x_runV (i := 0) (As := [.int (xs (nI i + 1).toNatClampNeg), .int 1]) (rest := []) C w (K := 0) rfl (by decide) (ci := 4) rfl rfl rfl me_X4_landing ml_StairBowsLaw_18 (c_X4_landing l g ad μ _ (xs (nI i + 1).toNatClampNeg) 1 (op_landing hI)) ⟨rfl, rfl⟩ ⟨Nat.le_of_ble_eq_true rfl, Nat.le_of_ble_eq_true rfl⟩ rfl hl.1 rfl (Nat.le_of_ble_eq_true rfl) dL_law_180 hcs) (fun r1 μ1 h H locs w => ?_)
    refine lv_aload_n hx hb dL_law_183 rfl (lv_at hl 2 rfl) ?_
    refine lv_aload_n hx hb dL_law_184 rfl (lv_at hl 0 rfl) ?_
    refine lv_iload_n hx hb dL_law_185 rfl (lv_at hl 3 rfl) ?_
    refine lv_iconst (v := 1) hx hb dL_law_186 (by decide) ?_
    refine lv_iadd hx hb dL_law_187 ?_
    refine va_sld hx hb hX hbl hbA w.2.2.1 j1 dL_law_188 ?_
    refine lv_aload_n hx hb dL_law_189 rfl (lv_at hl 0 rfl) ?_
    refine lv_iload_n hx hb dL_law_190 rfl (lv_at hl 3 rfl) ?_
    refine lv_iconst (v := 2) hx hb dL_law_191 (by decide) ?_
    refine lv_iadd hx hb dL_law_192 ?_
    refine va_sld hx hb hX hbl hbA w.2.2.1 j2 dL_law_193 ?_
    refine lv_if_eq (tgt := 201) hx hb dL_law_194 (by decide) (fun c2 => absurd c2 cy) (fun _ => ?_)
    refine lv_iconst (v := 1) hx hb dL_law_197 (by decide) ?_
    refine lv_goto (tgt := 202) hx hb dL_law_198 (by decide) ?_
    refine x_calli C w (x_runV (i := 287) (As := [.int (xs (nI i + 1).toNatClampNeg), .int 1]) (rest := [.int r1]) C w (K := 7) rfl (by decide) (ci := 5) rfl rfl rfl me_X5_landing ml_StairBowsLaw_22 (c_X5_landing l g ad μ1 _ (xs (nI i + 1).toNatClampNeg) 1 h) ⟨rfl, rfl⟩ ⟨Nat.le_of_ble_eq_true rfl, Nat.le_of_ble_eq_true rfl⟩ rfl hl.1 rfl (Nat.le_of_ble_eq_true rfl) dL_law_202 hcs) (fun r2 μ2 h H locs w => ?_)
    obtain ⟨e, hI2⟩ := h
    refine lv_icmp_eq (tgt := 650) hx hb dL_law_205 (by decide) (fun _ => ?_) (fun c9 => absurd e c9)
    exact kk μ2 H locs hI2 w
set_option maxHeartbeats 4000000 in
set_option maxRecDepth 100000 in
theorem t_law_2 {g : Gv} {ad : Nat → Nat} {μ : Mem} {l : Launch} {p : Program} {e : Env} {s : State} {m : MethodId} {args : Array Value} {below : List Frame} {meth : Method} {c : Code} {cells slots b L i : Nat} {xs : Nat → Int32} {A : Nat → Prop} {H : Heap} {locs : List Loc} {ls : Array Slot} {Q : State → Prop} (C : Cx g p s m args meth c "StairBowsLaw" cL_law 4 ret) (hcs : cells ≤ room_1.cells ∧ slots ≤ room_1.slots) (hX : va_X b L xs s s.heap) (hbl : b < s.heap.size) (hbA : ¬ A b) (hL : L ≤ 1536) (hi : i + 3 ≤ L) (hI : Inv μ) (w : Wd g ad μ A s H locs) (hl : lv_has ls 4 [(0, .ref b), (1, .ref (ad 0)), (2, .ref (ad 287)), (3, .int (nI i))])
    (kk : ∀ (μ2 : Mem) (H : Heap) (locs : List Loc), Inv μ2 → Wd g ad μ2 A s H locs → W p l e room_1 s m args below meth c H locs cells slots Q (F0 m 650 ls [])) : W p l e room_1 s m args below meth c H locs cells slots Q (F0 m 210 ls []) := by
  obtain ⟨hx, hb, hml, -, hts, hown, -, -, hN⟩ := id C
  have j1 : vp_in (nI i + 1) L := by rw [nI_1]; exact vp_in_nI (by omega) (by omega)
  have j2 : vp_in (nI i + 2) L := by rw [show nI i + 2 = nI (i + 2) from nI_add i 2]; exact vp_in_nI (by omega) (by omega)
  refine lv_aload_n hx hb dL_law_210 rfl (lv_at hl 1 rfl) ?_
  refine lv_aload_n hx hb dL_law_211 rfl (lv_at hl 0 rfl) ?_
  refine lv_iload_n hx hb dL_law_212 rfl (lv_at hl 3 rfl) ?_
  refine lv_iconst (v := 1) hx hb dL_law_213 (by decide) ?_
  refine lv_iadd hx hb dL_law_214 ?_
  refine va_sld hx hb hX hbl hbA w.2.2.1 j1 dL_law_215 ?_
  refine lv_aload_n hx hb dL_law_216 rfl (lv_at hl 0 rfl) ?_
  refine lv_iload_n hx hb dL_law_217 rfl (lv_at hl 3 rfl) ?_
  refine lv_iconst (v := 2) hx hb dL_law_218 (by decide) ?_
  refine lv_iadd hx hb dL_law_219 ?_
  refine va_sld hx hb hX hbl hbA w.2.2.1 j2 dL_law_220 ?_
  refine lv_if_eq (tgt := 228) hx hb dL_law_221 (by decide) (fun cy => ?_) (fun cy => ?_)
  · skip
    refine lv_iconst (v := 0) hx hb dL_law_228 (by decide) ?_
    refine x_calli C w (x_runV (i := 0) (As := [.int (xs (nI i + 1).toNatClampNeg), .int 0]) (rest := []) C w (K := 0) rfl (by decide) (ci := 4) rfl rfl rfl me_X4_come ml_StairBowsLaw_23 (c_X4_come l g ad μ _ (xs (nI i + 1).toNatClampNeg) 0 (op_come (Or.inl rfl) hI)) ⟨rfl, rfl⟩ ⟨Nat.le_of_ble_eq_true rfl, Nat.le_of_ble_eq_true rfl⟩ rfl hl.1 rfl (Nat.le_of_ble_eq_true rfl) dL_law_229 hcs) (fun r1 μ1 h H locs w => ?_)
    refine lv_aload_n hx hb dL_law_232 rfl (lv_at hl 2 rfl) ?_
    refine lv_aload_n hx hb dL_law_233 rfl (lv_at hl 0 rfl) ?_
    refine lv_iload_n hx hb dL_law_234 rfl (lv_at hl 3 rfl) ?_
    refine lv_iconst (v := 1) hx hb dL_law_235 (by decide) ?_
    refine lv_iadd hx hb dL_law_236 ?_
    refine va_sld hx hb hX hbl hbA w.2.2.1 j1 dL_law_237 ?_
    refine lv_aload_n hx hb dL_law_238 rfl (lv_at hl 0 rfl) ?_
    refine lv_iload_n hx hb dL_law_239 rfl (lv_at hl 3 rfl) ?_
    refine lv_iconst (v := 2) hx hb dL_law_240 (by decide) ?_
    refine lv_iadd hx hb dL_law_241 ?_
    refine va_sld hx hb hX hbl hbA w.2.2.1 j2 dL_law_242 ?_
    refine lv_if_eq (tgt := 250) hx hb dL_law_243 (by decide) (fun _ => ?_) (fun c2 => absurd cy c2)
    refine lv_iconst (v := 0) hx hb dL_law_250 (by decide) ?_
    refine x_calli C w (x_runV (i := 287) (As := [.int (xs (nI i + 1).toNatClampNeg), .int 0]) (rest := [.int r1]) C w (K := 7) rfl (by decide) (ci := 5) rfl rfl rfl me_X5_come ml_StairBowsLaw_26 (c_X5_come l g ad μ1 _ (xs (nI i + 1).toNatClampNeg) 0 h) ⟨rfl, rfl⟩ ⟨Nat.le_of_ble_eq_true rfl, Nat.le_of_ble_eq_true rfl⟩ rfl hl.1 rfl (Nat.le_of_ble_eq_true rfl) dL_law_251 hcs) (fun r2 μ2 h H locs w => ?_)
    obtain ⟨e, hI2⟩ := h
    refine lv_icmp_eq (tgt := 650) hx hb dL_law_254 (by decide) (fun _ => ?_) (fun c9 => absurd e c9)
    exact kk μ2 H locs hI2 w
  · skip
    refine lv_iconst (v := 1) hx hb dL_law_224 (by decide) ?_
    refine lv_goto (tgt := 229) hx hb dL_law_225 (by decide) ?_
    refine x_calli C w (x_runV (i := 0) (As := [.int (xs (nI i + 1).toNatClampNeg), .int 1]) (rest := []) C w (K := 0) rfl (by decide) (ci := 4) rfl rfl rfl me_X4_come ml_StairBowsLaw_23 (c_X4_come l g ad μ _ (xs (nI i + 1).toNatClampNeg) 1 (op_come (Or.inr rfl) hI)) ⟨rfl, rfl⟩ ⟨Nat.le_of_ble_eq_true rfl, Nat.le_of_ble_eq_true rfl⟩ rfl hl.1 rfl (Nat.le_of_ble_eq_true rfl) dL_law_229 hcs) (fun r1 μ1 h H locs w => ?_)
    refine lv_aload_n hx hb dL_law_232 rfl (lv_at hl 2 rfl) ?_
    refine lv_aload_n hx hb dL_law_233 rfl (lv_at hl 0 rfl) ?_
    refine lv_iload_n hx hb dL_law_234 rfl (lv_at hl 3 rfl) ?_
    refine lv_iconst (v := 1) hx hb dL_law_235 (by decide) ?_
    refine lv_iadd hx hb dL_law_236 ?_
    refine va_sld hx hb hX hbl hbA w.2.2.1 j1 dL_law_237 ?_
    refine lv_aload_n hx hb dL_law_238 rfl (lv_at hl 0 rfl) ?_
    refine lv_iload_n hx hb dL_law_239 rfl (lv_at hl 3 rfl) ?_
    refine lv_iconst (v := 2) hx hb dL_law_240 (by decide) ?_
    refine lv_iadd hx hb dL_law_241 ?_
    refine va_sld hx hb hX hbl hbA w.2.2.1 j2 dL_law_242 ?_
    refine lv_if_eq (tgt := 250) hx hb dL_law_243 (by decide) (fun c2 => absurd c2 cy) (fun _ => ?_)
    refine lv_iconst (v := 1) hx hb dL_law_246 (by decide) ?_
    refine lv_goto (tgt := 251) hx hb dL_law_247 (by decide) ?_
    refine x_calli C w (x_runV (i := 287) (As := [.int (xs (nI i + 1).toNatClampNeg), .int 1]) (rest := [.int r1]) C w (K := 7) rfl (by decide) (ci := 5) rfl rfl rfl me_X5_come ml_StairBowsLaw_26 (c_X5_come l g ad μ1 _ (xs (nI i + 1).toNatClampNeg) 1 h) ⟨rfl, rfl⟩ ⟨Nat.le_of_ble_eq_true rfl, Nat.le_of_ble_eq_true rfl⟩ rfl hl.1 rfl (Nat.le_of_ble_eq_true rfl) dL_law_251 hcs) (fun r2 μ2 h H locs w => ?_)
    obtain ⟨e, hI2⟩ := h
    refine lv_icmp_eq (tgt := 650) hx hb dL_law_254 (by decide) (fun _ => ?_) (fun c9 => absurd e c9)
    exact kk μ2 H locs hI2 w
set_option maxHeartbeats 4000000 in
set_option maxRecDepth 100000 in
theorem t_law_3 {g : Gv} {ad : Nat → Nat} {μ : Mem} {l : Launch} {p : Program} {e : Env} {s : State} {m : MethodId} {args : Array Value} {below : List Frame} {meth : Method} {c : Code} {cells slots b L i : Nat} {xs : Nat → Int32} {A : Nat → Prop} {H : Heap} {locs : List Loc} {ls : Array Slot} {Q : State → Prop} (C : Cx g p s m args meth c "StairBowsLaw" cL_law 4 ret) (hcs : cells ≤ room_1.cells ∧ slots ≤ room_1.slots) (hX : va_X b L xs s s.heap) (hbl : b < s.heap.size) (hbA : ¬ A b) (hL : L ≤ 1536) (hi : i + 3 ≤ L) (hI : Inv μ) (w : Wd g ad μ A s H locs) (hl : lv_has ls 4 [(0, .ref b), (1, .ref (ad 0)), (2, .ref (ad 287)), (3, .int (nI i))])
    (kk : ∀ (μ2 : Mem) (H : Heap) (locs : List Loc), Inv μ2 → Wd g ad μ2 A s H locs → W p l e room_1 s m args below meth c H locs cells slots Q (F0 m 650 ls [])) : W p l e room_1 s m args below meth c H locs cells slots Q (F0 m 259 ls []) := by
  obtain ⟨hx, hb, hml, -, hts, hown, -, -, hN⟩ := id C
  have j1 : vp_in (nI i + 1) L := by rw [nI_1]; exact vp_in_nI (by omega) (by omega)
  have j2 : vp_in (nI i + 2) L := by rw [show nI i + 2 = nI (i + 2) from nI_add i 2]; exact vp_in_nI (by omega) (by omega)
  refine lv_aload_n hx hb dL_law_259 rfl (lv_at hl 1 rfl) ?_
  refine x_calli C w (x_runV (i := 0) (As := []) (rest := []) C w (K := 0) rfl (by decide) (ci := 4) rfl rfl rfl me_X4_read ml_StairBowsLaw_27 (c_X4_read l g ad μ _  (op_read hI)) ⟨rfl, rfl⟩ ⟨Nat.le_of_ble_eq_true rfl, Nat.le_of_ble_eq_true rfl⟩ rfl hl.1 rfl (Nat.le_of_ble_eq_true rfl) dL_law_260 hcs) (fun r1 μ1 h H locs w => ?_)
  refine lv_aload_n hx hb dL_law_263 rfl (lv_at hl 2 rfl) ?_
  refine x_calli C w (x_runV (i := 287) (As := []) (rest := [.int r1]) C w (K := 7) rfl (by decide) (ci := 5) rfl rfl rfl me_X5_read ml_StairBowsLaw_31 (c_X5_read l g ad μ1 _  h) ⟨rfl, rfl⟩ ⟨Nat.le_of_ble_eq_true rfl, Nat.le_of_ble_eq_true rfl⟩ rfl hl.1 rfl (Nat.le_of_ble_eq_true rfl) dL_law_264 hcs) (fun r2 μ2 h H locs w => ?_)
  obtain ⟨e, hI2⟩ := h
  refine lv_icmp_eq (tgt := 650) hx hb dL_law_267 (by decide) (fun _ => ?_) (fun c9 => absurd e c9)
  exact kk μ2 H locs hI2 w
set_option maxHeartbeats 4000000 in
set_option maxRecDepth 100000 in
theorem t_law_4 {g : Gv} {ad : Nat → Nat} {μ : Mem} {l : Launch} {p : Program} {e : Env} {s : State} {m : MethodId} {args : Array Value} {below : List Frame} {meth : Method} {c : Code} {cells slots b L i : Nat} {xs : Nat → Int32} {A : Nat → Prop} {H : Heap} {locs : List Loc} {ls : Array Slot} {Q : State → Prop} (C : Cx g p s m args meth c "StairBowsLaw" cL_law 4 ret) (hcs : cells ≤ room_1.cells ∧ slots ≤ room_1.slots) (hX : va_X b L xs s s.heap) (hbl : b < s.heap.size) (hbA : ¬ A b) (hL : L ≤ 1536) (hi : i + 3 ≤ L) (hI : Inv μ) (w : Wd g ad μ A s H locs) (hl : lv_has ls 4 [(0, .ref b), (1, .ref (ad 0)), (2, .ref (ad 287)), (3, .int (nI i))])
    (kk : ∀ (μ2 : Mem) (H : Heap) (locs : List Loc), Inv μ2 → Wd g ad μ2 A s H locs → W p l e room_1 s m args below meth c H locs cells slots Q (F0 m 650 ls [])) : W p l e room_1 s m args below meth c H locs cells slots Q (F0 m 272 ls []) := by
  obtain ⟨hx, hb, hml, -, hts, hown, -, -, hN⟩ := id C
  have j1 : vp_in (nI i + 1) L := by rw [nI_1]; exact vp_in_nI (by omega) (by omega)
  have j2 : vp_in (nI i + 2) L := by rw [show nI i + 2 = nI (i + 2) from nI_add i 2]; exact vp_in_nI (by omega) (by omega)
  refine lv_aload_n hx hb dL_law_272 rfl (lv_at hl 1 rfl) ?_
  refine lv_aload_n hx hb dL_law_273 rfl (lv_at hl 0 rfl) ?_
  refine lv_iload_n hx hb dL_law_274 rfl (lv_at hl 3 rfl) ?_
  refine lv_iconst (v := 1) hx hb dL_law_275 (by decide) ?_
  refine lv_iadd hx hb dL_law_276 ?_
  refine va_sld hx hb hX hbl hbA w.2.2.1 j1 dL_law_277 ?_
  refine x_calli C w (x_runV (i := 0) (As := [.int (xs (nI i + 1).toNatClampNeg)]) (rest := []) C w (K := 0) rfl (by decide) (ci := 4) rfl rfl rfl me_X4_turn ml_StairBowsLaw_32 (c_X4_turn l g ad μ _ (xs (nI i + 1).toNatClampNeg) (op_turn hI)) ⟨rfl, rfl⟩ ⟨Nat.le_of_ble_eq_true rfl, Nat.le_of_ble_eq_true rfl⟩ rfl hl.1 rfl (Nat.le_of_ble_eq_true rfl) dL_law_278 hcs) (fun r1 μ1 h H locs w => ?_)
  refine lv_aload_n hx hb dL_law_281 rfl (lv_at hl 2 rfl) ?_
  refine lv_aload_n hx hb dL_law_282 rfl (lv_at hl 0 rfl) ?_
  refine lv_iload_n hx hb dL_law_283 rfl (lv_at hl 3 rfl) ?_
  refine lv_iconst (v := 1) hx hb dL_law_284 (by decide) ?_
  refine lv_iadd hx hb dL_law_285 ?_
  refine va_sld hx hb hX hbl hbA w.2.2.1 j1 dL_law_286 ?_
  refine x_calli C w (x_runV (i := 287) (As := [.int (xs (nI i + 1).toNatClampNeg)]) (rest := [.int r1]) C w (K := 7) rfl (by decide) (ci := 5) rfl rfl rfl me_X5_turn ml_StairBowsLaw_36 (c_X5_turn l g ad μ1 _ (xs (nI i + 1).toNatClampNeg) h) ⟨rfl, rfl⟩ ⟨Nat.le_of_ble_eq_true rfl, Nat.le_of_ble_eq_true rfl⟩ rfl hl.1 rfl (Nat.le_of_ble_eq_true rfl) dL_law_287 hcs) (fun r2 μ2 h H locs w => ?_)
  obtain ⟨e, hI2⟩ := h
  refine lv_icmp_eq (tgt := 650) hx hb dL_law_290 (by decide) (fun _ => ?_) (fun c9 => absurd e c9)
  exact kk μ2 H locs hI2 w
set_option maxHeartbeats 4000000 in
set_option maxRecDepth 100000 in
theorem t_law_5 {g : Gv} {ad : Nat → Nat} {μ : Mem} {l : Launch} {p : Program} {e : Env} {s : State} {m : MethodId} {args : Array Value} {below : List Frame} {meth : Method} {c : Code} {cells slots b L i : Nat} {xs : Nat → Int32} {A : Nat → Prop} {H : Heap} {locs : List Loc} {ls : Array Slot} {Q : State → Prop} (C : Cx g p s m args meth c "StairBowsLaw" cL_law 4 ret) (hcs : cells ≤ room_1.cells ∧ slots ≤ room_1.slots) (hX : va_X b L xs s s.heap) (hbl : b < s.heap.size) (hbA : ¬ A b) (hL : L ≤ 1536) (hi : i + 3 ≤ L) (hI : Inv μ) (w : Wd g ad μ A s H locs) (hl : lv_has ls 4 [(0, .ref b), (1, .ref (ad 0)), (2, .ref (ad 287)), (3, .int (nI i))])
    (kk : ∀ (μ2 : Mem) (H : Heap) (locs : List Loc), Inv μ2 → Wd g ad μ2 A s H locs → W p l e room_1 s m args below meth c H locs cells slots Q (F0 m 650 ls [])) : W p l e room_1 s m args below meth c H locs cells slots Q (F0 m 295 ls []) := by
  obtain ⟨hx, hb, hml, -, hts, hown, -, -, hN⟩ := id C
  have j1 : vp_in (nI i + 1) L := by rw [nI_1]; exact vp_in_nI (by omega) (by omega)
  have j2 : vp_in (nI i + 2) L := by rw [show nI i + 2 = nI (i + 2) from nI_add i 2]; exact vp_in_nI (by omega) (by omega)
  refine lv_aload_n hx hb dL_law_295 rfl (lv_at hl 1 rfl) ?_
  refine lv_aload_n hx hb dL_law_296 rfl (lv_at hl 0 rfl) ?_
  refine lv_iload_n hx hb dL_law_297 rfl (lv_at hl 3 rfl) ?_
  refine lv_iconst (v := 1) hx hb dL_law_298 (by decide) ?_
  refine lv_iadd hx hb dL_law_299 ?_
  refine va_sld hx hb hX hbl hbA w.2.2.1 j1 dL_law_300 ?_
  refine x_calli C w (x_runV (i := 0) (As := [.int (xs (nI i + 1).toNatClampNeg)]) (rest := []) C w (K := 0) rfl (by decide) (ci := 4) rfl rfl rfl me_X4_pass ml_StairBowsLaw_37 (c_X4_pass l g ad μ _ (xs (nI i + 1).toNatClampNeg) (op_pass hI)) ⟨rfl, rfl⟩ ⟨Nat.le_of_ble_eq_true rfl, Nat.le_of_ble_eq_true rfl⟩ rfl hl.1 rfl (Nat.le_of_ble_eq_true rfl) dL_law_301 hcs) (fun r1 μ1 h H locs w => ?_)
  refine lv_aload_n hx hb dL_law_304 rfl (lv_at hl 2 rfl) ?_
  refine lv_aload_n hx hb dL_law_305 rfl (lv_at hl 0 rfl) ?_
  refine lv_iload_n hx hb dL_law_306 rfl (lv_at hl 3 rfl) ?_
  refine lv_iconst (v := 1) hx hb dL_law_307 (by decide) ?_
  refine lv_iadd hx hb dL_law_308 ?_
  refine va_sld hx hb hX hbl hbA w.2.2.1 j1 dL_law_309 ?_
  refine x_calli C w (x_runV (i := 287) (As := [.int (xs (nI i + 1).toNatClampNeg)]) (rest := [.int r1]) C w (K := 7) rfl (by decide) (ci := 5) rfl rfl rfl me_X5_pass ml_StairBowsLaw_40 (c_X5_pass l g ad μ1 _ (xs (nI i + 1).toNatClampNeg) h) ⟨rfl, rfl⟩ ⟨Nat.le_of_ble_eq_true rfl, Nat.le_of_ble_eq_true rfl⟩ rfl hl.1 rfl (Nat.le_of_ble_eq_true rfl) dL_law_310 hcs) (fun r2 μ2 h H locs w => ?_)
  obtain ⟨e, hI2⟩ := h
  refine lv_icmp_eq (tgt := 650) hx hb dL_law_313 (by decide) (fun _ => ?_) (fun c9 => absurd e c9)
  exact kk μ2 H locs hI2 w
set_option maxHeartbeats 4000000 in
set_option maxRecDepth 100000 in
theorem t_law_6 {g : Gv} {ad : Nat → Nat} {μ : Mem} {l : Launch} {p : Program} {e : Env} {s : State} {m : MethodId} {args : Array Value} {below : List Frame} {meth : Method} {c : Code} {cells slots b L i : Nat} {xs : Nat → Int32} {A : Nat → Prop} {H : Heap} {locs : List Loc} {ls : Array Slot} {Q : State → Prop} (C : Cx g p s m args meth c "StairBowsLaw" cL_law 4 ret) (hcs : cells ≤ room_1.cells ∧ slots ≤ room_1.slots) (hX : va_X b L xs s s.heap) (hbl : b < s.heap.size) (hbA : ¬ A b) (hL : L ≤ 1536) (hi : i + 3 ≤ L) (hI : Inv μ) (w : Wd g ad μ A s H locs) (hl : lv_has ls 4 [(0, .ref b), (1, .ref (ad 0)), (2, .ref (ad 287)), (3, .int (nI i))])
    (kk : ∀ (μ2 : Mem) (H : Heap) (locs : List Loc), Inv μ2 → Wd g ad μ2 A s H locs → W p l e room_1 s m args below meth c H locs cells slots Q (F0 m 650 ls [])) : W p l e room_1 s m args below meth c H locs cells slots Q (F0 m 318 ls []) := by
  obtain ⟨hx, hb, hml, -, hts, hown, -, -, hN⟩ := id C
  have j1 : vp_in (nI i + 1) L := by rw [nI_1]; exact vp_in_nI (by omega) (by omega)
  have j2 : vp_in (nI i + 2) L := by rw [show nI i + 2 = nI (i + 2) from nI_add i 2]; exact vp_in_nI (by omega) (by omega)
  refine lv_aload_n hx hb dL_law_318 rfl (lv_at hl 1 rfl) ?_
  refine lv_aload_n hx hb dL_law_319 rfl (lv_at hl 0 rfl) ?_
  refine lv_iload_n hx hb dL_law_320 rfl (lv_at hl 3 rfl) ?_
  refine lv_iconst (v := 1) hx hb dL_law_321 (by decide) ?_
  refine lv_iadd hx hb dL_law_322 ?_
  refine va_sld hx hb hX hbl hbA w.2.2.1 j1 dL_law_323 ?_
  refine lv_aload_n hx hb dL_law_324 rfl (lv_at hl 0 rfl) ?_
  refine lv_iload_n hx hb dL_law_325 rfl (lv_at hl 3 rfl) ?_
  refine lv_iconst (v := 2) hx hb dL_law_326 (by decide) ?_
  refine lv_iadd hx hb dL_law_327 ?_
  refine va_sld hx hb hX hbl hbA w.2.2.1 j2 dL_law_328 ?_
  refine x_calli C w (x_runV (i := 0) (As := [.int (xs (nI i + 1).toNatClampNeg), .int (xs (nI i + 2).toNatClampNeg)]) (rest := []) C w (K := 0) rfl (by decide) (ci := 4) rfl rfl rfl me_X4_person ml_StairBowsLaw_41 (c_X4_person l g ad μ _ (xs (nI i + 1).toNatClampNeg) (xs (nI i + 2).toNatClampNeg) (op_person hI)) ⟨rfl, rfl⟩ ⟨Nat.le_of_ble_eq_true rfl, Nat.le_of_ble_eq_true rfl⟩ rfl hl.1 rfl (Nat.le_of_ble_eq_true rfl) dL_law_329 hcs) (fun r1 μ1 h H locs w => ?_)
  refine lv_aload_n hx hb dL_law_332 rfl (lv_at hl 2 rfl) ?_
  refine lv_aload_n hx hb dL_law_333 rfl (lv_at hl 0 rfl) ?_
  refine lv_iload_n hx hb dL_law_334 rfl (lv_at hl 3 rfl) ?_
  refine lv_iconst (v := 1) hx hb dL_law_335 (by decide) ?_
  refine lv_iadd hx hb dL_law_336 ?_
  refine va_sld hx hb hX hbl hbA w.2.2.1 j1 dL_law_337 ?_
  refine lv_aload_n hx hb dL_law_338 rfl (lv_at hl 0 rfl) ?_
  refine lv_iload_n hx hb dL_law_339 rfl (lv_at hl 3 rfl) ?_
  refine lv_iconst (v := 2) hx hb dL_law_340 (by decide) ?_
  refine lv_iadd hx hb dL_law_341 ?_
  refine va_sld hx hb hX hbl hbA w.2.2.1 j2 dL_law_342 ?_
  refine x_calli C w (x_runV (i := 287) (As := [.int (xs (nI i + 1).toNatClampNeg), .int (xs (nI i + 2).toNatClampNeg)]) (rest := [.int r1]) C w (K := 7) rfl (by decide) (ci := 5) rfl rfl rfl me_X5_person ml_StairBowsLaw_44 (c_X5_person l g ad μ1 _ (xs (nI i + 1).toNatClampNeg) (xs (nI i + 2).toNatClampNeg) h) ⟨rfl, rfl⟩ ⟨Nat.le_of_ble_eq_true rfl, Nat.le_of_ble_eq_true rfl⟩ rfl hl.1 rfl (Nat.le_of_ble_eq_true rfl) dL_law_343 hcs) (fun r2 μ2 h H locs w => ?_)
  obtain ⟨e, hI2⟩ := h
  refine lv_icmp_eq (tgt := 650) hx hb dL_law_346 (by decide) (fun _ => ?_) (fun c9 => absurd e c9)
  exact kk μ2 H locs hI2 w
set_option maxHeartbeats 4000000 in
set_option maxRecDepth 100000 in
theorem t_law_7 {g : Gv} {ad : Nat → Nat} {μ : Mem} {l : Launch} {p : Program} {e : Env} {s : State} {m : MethodId} {args : Array Value} {below : List Frame} {meth : Method} {c : Code} {cells slots b L i : Nat} {xs : Nat → Int32} {A : Nat → Prop} {H : Heap} {locs : List Loc} {ls : Array Slot} {Q : State → Prop} (C : Cx g p s m args meth c "StairBowsLaw" cL_law 4 ret) (hcs : cells ≤ room_1.cells ∧ slots ≤ room_1.slots) (hX : va_X b L xs s s.heap) (hbl : b < s.heap.size) (hbA : ¬ A b) (hL : L ≤ 1536) (hi : i + 3 ≤ L) (hI : Inv μ) (w : Wd g ad μ A s H locs) (hl : lv_has ls 4 [(0, .ref b), (1, .ref (ad 0)), (2, .ref (ad 287)), (3, .int (nI i))])
    (kk : ∀ (μ2 : Mem) (H : Heap) (locs : List Loc), Inv μ2 → Wd g ad μ2 A s H locs → W p l e room_1 s m args below meth c H locs cells slots Q (F0 m 650 ls [])) : W p l e room_1 s m args below meth c H locs cells slots Q (F0 m 351 ls []) := by
  obtain ⟨hx, hb, hml, -, hts, hown, -, -, hN⟩ := id C
  have j1 : vp_in (nI i + 1) L := by rw [nI_1]; exact vp_in_nI (by omega) (by omega)
  have j2 : vp_in (nI i + 2) L := by rw [show nI i + 2 = nI (i + 2) from nI_add i 2]; exact vp_in_nI (by omega) (by omega)
  refine lv_aload_n hx hb dL_law_351 rfl (lv_at hl 1 rfl) ?_
  refine lv_aload_n hx hb dL_law_352 rfl (lv_at hl 0 rfl) ?_
  refine lv_iload_n hx hb dL_law_353 rfl (lv_at hl 3 rfl) ?_
  refine lv_iconst (v := 1) hx hb dL_law_354 (by decide) ?_
  refine lv_iadd hx hb dL_law_355 ?_
  refine va_sld hx hb hX hbl hbA w.2.2.1 j1 dL_law_356 ?_
  refine lv_aload_n hx hb dL_law_357 rfl (lv_at hl 0 rfl) ?_
  refine lv_iload_n hx hb dL_law_358 rfl (lv_at hl 3 rfl) ?_
  refine lv_iconst (v := 2) hx hb dL_law_359 (by decide) ?_
  refine lv_iadd hx hb dL_law_360 ?_
  refine va_sld hx hb hX hbl hbA w.2.2.1 j2 dL_law_361 ?_
  refine x_calli C w (x_runV (i := 0) (As := [.int (xs (nI i + 1).toNatClampNeg), .int (xs (nI i + 2).toNatClampNeg)]) (rest := []) C w (K := 0) rfl (by decide) (ci := 4) rfl rfl rfl me_X4_step ml_StairBowsLaw_45 (c_X4_step l g ad μ _ (xs (nI i + 1).toNatClampNeg) (xs (nI i + 2).toNatClampNeg) (op_step hI)) ⟨rfl, rfl⟩ ⟨Nat.le_of_ble_eq_true rfl, Nat.le_of_ble_eq_true rfl⟩ rfl hl.1 rfl (Nat.le_of_ble_eq_true rfl) dL_law_362 hcs) (fun r1 μ1 h H locs w => ?_)
  refine lv_aload_n hx hb dL_law_365 rfl (lv_at hl 2 rfl) ?_
  refine lv_aload_n hx hb dL_law_366 rfl (lv_at hl 0 rfl) ?_
  refine lv_iload_n hx hb dL_law_367 rfl (lv_at hl 3 rfl) ?_
  refine lv_iconst (v := 1) hx hb dL_law_368 (by decide) ?_
  refine lv_iadd hx hb dL_law_369 ?_
  refine va_sld hx hb hX hbl hbA w.2.2.1 j1 dL_law_370 ?_
  refine lv_aload_n hx hb dL_law_371 rfl (lv_at hl 0 rfl) ?_
  refine lv_iload_n hx hb dL_law_372 rfl (lv_at hl 3 rfl) ?_
  refine lv_iconst (v := 2) hx hb dL_law_373 (by decide) ?_
  refine lv_iadd hx hb dL_law_374 ?_
  refine va_sld hx hb hX hbl hbA w.2.2.1 j2 dL_law_375 ?_
  refine x_calli C w (x_runV (i := 287) (As := [.int (xs (nI i + 1).toNatClampNeg), .int (xs (nI i + 2).toNatClampNeg)]) (rest := [.int r1]) C w (K := 7) rfl (by decide) (ci := 5) rfl rfl rfl me_X5_step ml_StairBowsLaw_48 (c_X5_step l g ad μ1 _ (xs (nI i + 1).toNatClampNeg) (xs (nI i + 2).toNatClampNeg) h) ⟨rfl, rfl⟩ ⟨Nat.le_of_ble_eq_true rfl, Nat.le_of_ble_eq_true rfl⟩ rfl hl.1 rfl (Nat.le_of_ble_eq_true rfl) dL_law_376 hcs) (fun r2 μ2 h H locs w => ?_)
  obtain ⟨e, hI2⟩ := h
  refine lv_icmp_eq (tgt := 650) hx hb dL_law_379 (by decide) (fun _ => ?_) (fun c9 => absurd e c9)
  exact kk μ2 H locs hI2 w
set_option maxHeartbeats 4000000 in
set_option maxRecDepth 100000 in
theorem t_law_8 {g : Gv} {ad : Nat → Nat} {μ : Mem} {l : Launch} {p : Program} {e : Env} {s : State} {m : MethodId} {args : Array Value} {below : List Frame} {meth : Method} {c : Code} {cells slots b L i : Nat} {xs : Nat → Int32} {A : Nat → Prop} {H : Heap} {locs : List Loc} {ls : Array Slot} {Q : State → Prop} (C : Cx g p s m args meth c "StairBowsLaw" cL_law 4 ret) (hcs : cells ≤ room_1.cells ∧ slots ≤ room_1.slots) (hX : va_X b L xs s s.heap) (hbl : b < s.heap.size) (hbA : ¬ A b) (hL : L ≤ 1536) (hi : i + 3 ≤ L) (hI : Inv μ) (w : Wd g ad μ A s H locs) (hl : lv_has ls 4 [(0, .ref b), (1, .ref (ad 0)), (2, .ref (ad 287)), (3, .int (nI i))])
    (kk : ∀ (μ2 : Mem) (H : Heap) (locs : List Loc), Inv μ2 → Wd g ad μ2 A s H locs → W p l e room_1 s m args below meth c H locs cells slots Q (F0 m 650 ls [])) : W p l e room_1 s m args below meth c H locs cells slots Q (F0 m 384 ls []) := by
  obtain ⟨hx, hb, hml, -, hts, hown, -, -, hN⟩ := id C
  have j1 : vp_in (nI i + 1) L := by rw [nI_1]; exact vp_in_nI (by omega) (by omega)
  have j2 : vp_in (nI i + 2) L := by rw [show nI i + 2 = nI (i + 2) from nI_add i 2]; exact vp_in_nI (by omega) (by omega)
  refine lv_aload_n hx hb dL_law_384 rfl (lv_at hl 1 rfl) ?_
  refine lv_aload_n hx hb dL_law_385 rfl (lv_at hl 0 rfl) ?_
  refine lv_iload_n hx hb dL_law_386 rfl (lv_at hl 3 rfl) ?_
  refine lv_iconst (v := 1) hx hb dL_law_387 (by decide) ?_
  refine lv_iadd hx hb dL_law_388 ?_
  refine va_sld hx hb hX hbl hbA w.2.2.1 j1 dL_law_389 ?_
  refine x_calli C w (x_runV (i := 0) (As := [.int (xs (nI i + 1).toNatClampNeg)]) (rest := []) C w (K := 0) rfl (by decide) (ci := 4) rfl rfl rfl me_X4_does ml_StairBowsLaw_49 (c_X4_does l g ad μ _ (xs (nI i + 1).toNatClampNeg) (op_does hI)) ⟨rfl, rfl⟩ ⟨Nat.le_of_ble_eq_true rfl, Nat.le_of_ble_eq_true rfl⟩ rfl hl.1 rfl (Nat.le_of_ble_eq_true rfl) dL_law_390 hcs) (fun r1 μ1 h H locs w => ?_)
  refine lv_aload_n hx hb dL_law_393 rfl (lv_at hl 2 rfl) ?_
  refine lv_aload_n hx hb dL_law_394 rfl (lv_at hl 0 rfl) ?_
  refine lv_iload_n hx hb dL_law_395 rfl (lv_at hl 3 rfl) ?_
  refine lv_iconst (v := 1) hx hb dL_law_396 (by decide) ?_
  refine lv_iadd hx hb dL_law_397 ?_
  refine va_sld hx hb hX hbl hbA w.2.2.1 j1 dL_law_398 ?_
  refine x_calli C w (x_runV (i := 287) (As := [.int (xs (nI i + 1).toNatClampNeg)]) (rest := [.int r1]) C w (K := 7) rfl (by decide) (ci := 5) rfl rfl rfl me_X5_does ml_StairBowsLaw_52 (c_X5_does l g ad μ1 _ (xs (nI i + 1).toNatClampNeg) h) ⟨rfl, rfl⟩ ⟨Nat.le_of_ble_eq_true rfl, Nat.le_of_ble_eq_true rfl⟩ rfl hl.1 rfl (Nat.le_of_ble_eq_true rfl) dL_law_399 hcs) (fun r2 μ2 h H locs w => ?_)
  obtain ⟨e, hI2⟩ := h
  refine lv_icmp_eq (tgt := 650) hx hb dL_law_402 (by decide) (fun _ => ?_) (fun c9 => absurd e c9)
  exact kk μ2 H locs hI2 w
set_option maxHeartbeats 4000000 in
set_option maxRecDepth 100000 in
theorem t_law_9 {g : Gv} {ad : Nat → Nat} {μ : Mem} {l : Launch} {p : Program} {e : Env} {s : State} {m : MethodId} {args : Array Value} {below : List Frame} {meth : Method} {c : Code} {cells slots b L i : Nat} {xs : Nat → Int32} {A : Nat → Prop} {H : Heap} {locs : List Loc} {ls : Array Slot} {Q : State → Prop} (C : Cx g p s m args meth c "StairBowsLaw" cL_law 4 ret) (hcs : cells ≤ room_1.cells ∧ slots ≤ room_1.slots) (hX : va_X b L xs s s.heap) (hbl : b < s.heap.size) (hbA : ¬ A b) (hL : L ≤ 1536) (hi : i + 3 ≤ L) (hI : Inv μ) (w : Wd g ad μ A s H locs) (hl : lv_has ls 4 [(0, .ref b), (1, .ref (ad 0)), (2, .ref (ad 287)), (3, .int (nI i))])
    (kk : ∀ (μ2 : Mem) (H : Heap) (locs : List Loc), Inv μ2 → Wd g ad μ2 A s H locs → W p l e room_1 s m args below meth c H locs cells slots Q (F0 m 650 ls [])) : W p l e room_1 s m args below meth c H locs cells slots Q (F0 m 407 ls []) := by
  obtain ⟨hx, hb, hml, -, hts, hown, -, -, hN⟩ := id C
  have j1 : vp_in (nI i + 1) L := by rw [nI_1]; exact vp_in_nI (by omega) (by omega)
  have j2 : vp_in (nI i + 2) L := by rw [show nI i + 2 = nI (i + 2) from nI_add i 2]; exact vp_in_nI (by omega) (by omega)
  refine lv_aload_n hx hb dL_law_407 rfl (lv_at hl 1 rfl) ?_
  refine lv_aload_n hx hb dL_law_408 rfl (lv_at hl 0 rfl) ?_
  refine lv_iload_n hx hb dL_law_409 rfl (lv_at hl 3 rfl) ?_
  refine lv_iconst (v := 1) hx hb dL_law_410 (by decide) ?_
  refine lv_iadd hx hb dL_law_411 ?_
  refine va_sld hx hb hX hbl hbA w.2.2.1 j1 dL_law_412 ?_
  refine x_calli C w (x_runV (i := 0) (As := [.int (xs (nI i + 1).toNatClampNeg)]) (rest := []) C w (K := 0) rfl (by decide) (ci := 4) rfl rfl rfl me_X4_count ml_StairBowsLaw_53 (c_X4_count l g ad μ _ (xs (nI i + 1).toNatClampNeg) (op_count hI)) ⟨rfl, rfl⟩ ⟨Nat.le_of_ble_eq_true rfl, Nat.le_of_ble_eq_true rfl⟩ rfl hl.1 rfl (Nat.le_of_ble_eq_true rfl) dL_law_413 hcs) (fun r1 μ1 h H locs w => ?_)
  refine lv_aload_n hx hb dL_law_416 rfl (lv_at hl 2 rfl) ?_
  refine lv_aload_n hx hb dL_law_417 rfl (lv_at hl 0 rfl) ?_
  refine lv_iload_n hx hb dL_law_418 rfl (lv_at hl 3 rfl) ?_
  refine lv_iconst (v := 1) hx hb dL_law_419 (by decide) ?_
  refine lv_iadd hx hb dL_law_420 ?_
  refine va_sld hx hb hX hbl hbA w.2.2.1 j1 dL_law_421 ?_
  refine x_calli C w (x_runV (i := 287) (As := [.int (xs (nI i + 1).toNatClampNeg)]) (rest := [.int r1]) C w (K := 7) rfl (by decide) (ci := 5) rfl rfl rfl me_X5_count ml_StairBowsLaw_56 (c_X5_count l g ad μ1 _ (xs (nI i + 1).toNatClampNeg) h) ⟨rfl, rfl⟩ ⟨Nat.le_of_ble_eq_true rfl, Nat.le_of_ble_eq_true rfl⟩ rfl hl.1 rfl (Nat.le_of_ble_eq_true rfl) dL_law_422 hcs) (fun r2 μ2 h H locs w => ?_)
  obtain ⟨e, hI2⟩ := h
  refine lv_icmp_eq (tgt := 650) hx hb dL_law_425 (by decide) (fun _ => ?_) (fun c9 => absurd e c9)
  exact kk μ2 H locs hI2 w
set_option maxHeartbeats 4000000 in
set_option maxRecDepth 100000 in
theorem t_law_10 {g : Gv} {ad : Nat → Nat} {μ : Mem} {l : Launch} {p : Program} {e : Env} {s : State} {m : MethodId} {args : Array Value} {below : List Frame} {meth : Method} {c : Code} {cells slots b L i : Nat} {xs : Nat → Int32} {A : Nat → Prop} {H : Heap} {locs : List Loc} {ls : Array Slot} {Q : State → Prop} (C : Cx g p s m args meth c "StairBowsLaw" cL_law 4 ret) (hcs : cells ≤ room_1.cells ∧ slots ≤ room_1.slots) (hX : va_X b L xs s s.heap) (hbl : b < s.heap.size) (hbA : ¬ A b) (hL : L ≤ 1536) (hi : i + 3 ≤ L) (hI : Inv μ) (w : Wd g ad μ A s H locs) (hl : lv_has ls 4 [(0, .ref b), (1, .ref (ad 0)), (2, .ref (ad 287)), (3, .int (nI i))])
    (kk : ∀ (μ2 : Mem) (H : Heap) (locs : List Loc), Inv μ2 → Wd g ad μ2 A s H locs → W p l e room_1 s m args below meth c H locs cells slots Q (F0 m 650 ls [])) : W p l e room_1 s m args below meth c H locs cells slots Q (F0 m 430 ls []) := by
  obtain ⟨hx, hb, hml, -, hts, hown, -, -, hN⟩ := id C
  have j1 : vp_in (nI i + 1) L := by rw [nI_1]; exact vp_in_nI (by omega) (by omega)
  have j2 : vp_in (nI i + 2) L := by rw [show nI i + 2 = nI (i + 2) from nI_add i 2]; exact vp_in_nI (by omega) (by omega)
  refine lv_aload_n hx hb dL_law_430 rfl (lv_at hl 1 rfl) ?_
  refine lv_aload_n hx hb dL_law_431 rfl (lv_at hl 0 rfl) ?_
  refine lv_iload_n hx hb dL_law_432 rfl (lv_at hl 3 rfl) ?_
  refine lv_iconst (v := 1) hx hb dL_law_433 (by decide) ?_
  refine lv_iadd hx hb dL_law_434 ?_
  refine va_sld hx hb hX hbl hbA w.2.2.1 j1 dL_law_435 ?_
  refine x_calli C w (x_runV (i := 0) (As := [.int (xs (nI i + 1).toNatClampNeg)]) (rest := []) C w (K := 0) rfl (by decide) (ci := 4) rfl rfl rfl me_X4_untilArrived ml_StairBowsLaw_57 (c_X4_untilArrived l g ad μ _ (xs (nI i + 1).toNatClampNeg) (op_untilArrived hI)) ⟨rfl, rfl⟩ ⟨Nat.le_of_ble_eq_true rfl, Nat.le_of_ble_eq_true rfl⟩ rfl hl.1 rfl (Nat.le_of_ble_eq_true rfl) dL_law_436 hcs) (fun r1 μ1 h H locs w => ?_)
  refine lv_aload_n hx hb dL_law_439 rfl (lv_at hl 2 rfl) ?_
  refine lv_aload_n hx hb dL_law_440 rfl (lv_at hl 0 rfl) ?_
  refine lv_iload_n hx hb dL_law_441 rfl (lv_at hl 3 rfl) ?_
  refine lv_iconst (v := 1) hx hb dL_law_442 (by decide) ?_
  refine lv_iadd hx hb dL_law_443 ?_
  refine va_sld hx hb hX hbl hbA w.2.2.1 j1 dL_law_444 ?_
  refine x_calli C w (x_runV (i := 287) (As := [.int (xs (nI i + 1).toNatClampNeg)]) (rest := [.int r1]) C w (K := 7) rfl (by decide) (ci := 5) rfl rfl rfl me_X5_untilArrived ml_StairBowsLaw_60 (c_X5_untilArrived l g ad μ1 _ (xs (nI i + 1).toNatClampNeg) h) ⟨rfl, rfl⟩ ⟨Nat.le_of_ble_eq_true rfl, Nat.le_of_ble_eq_true rfl⟩ rfl hl.1 rfl (Nat.le_of_ble_eq_true rfl) dL_law_445 hcs) (fun r2 μ2 h H locs w => ?_)
  obtain ⟨e, hI2⟩ := h
  refine lv_icmp_eq (tgt := 650) hx hb dL_law_448 (by decide) (fun _ => ?_) (fun c9 => absurd e c9)
  exact kk μ2 H locs hI2 w
set_option maxHeartbeats 4000000 in
set_option maxRecDepth 100000 in
theorem t_law_11 {g : Gv} {ad : Nat → Nat} {μ : Mem} {l : Launch} {p : Program} {e : Env} {s : State} {m : MethodId} {args : Array Value} {below : List Frame} {meth : Method} {c : Code} {cells slots b L i : Nat} {xs : Nat → Int32} {A : Nat → Prop} {H : Heap} {locs : List Loc} {ls : Array Slot} {Q : State → Prop} (C : Cx g p s m args meth c "StairBowsLaw" cL_law 4 ret) (hcs : cells ≤ room_1.cells ∧ slots ≤ room_1.slots) (hX : va_X b L xs s s.heap) (hbl : b < s.heap.size) (hbA : ¬ A b) (hL : L ≤ 1536) (hi : i + 3 ≤ L) (hI : Inv μ) (w : Wd g ad μ A s H locs) (hl : lv_has ls 4 [(0, .ref b), (1, .ref (ad 0)), (2, .ref (ad 287)), (3, .int (nI i))])
    (kk : ∀ (μ2 : Mem) (H : Heap) (locs : List Loc), Inv μ2 → Wd g ad μ2 A s H locs → W p l e room_1 s m args below meth c H locs cells slots Q (F0 m 650 ls [])) : W p l e room_1 s m args below meth c H locs cells slots Q (F0 m 453 ls []) := by
  obtain ⟨hx, hb, hml, -, hts, hown, -, -, hN⟩ := id C
  have j1 : vp_in (nI i + 1) L := by rw [nI_1]; exact vp_in_nI (by omega) (by omega)
  have j2 : vp_in (nI i + 2) L := by rw [show nI i + 2 = nI (i + 2) from nI_add i 2]; exact vp_in_nI (by omega) (by omega)
  refine lv_aload_n hx hb dL_law_453 rfl (lv_at hl 1 rfl) ?_
  refine x_calli C w (x_runV (i := 0) (As := []) (rest := []) C w (K := 0) rfl (by decide) (ci := 4) rfl rfl rfl me_X4_untilEmpty ml_StairBowsLaw_61 (c_X4_untilEmpty l g ad μ _  (op_untilEmpty hI)) ⟨rfl, rfl⟩ ⟨Nat.le_of_ble_eq_true rfl, Nat.le_of_ble_eq_true rfl⟩ rfl hl.1 rfl (Nat.le_of_ble_eq_true rfl) dL_law_454 hcs) (fun r1 μ1 h H locs w => ?_)
  refine lv_aload_n hx hb dL_law_457 rfl (lv_at hl 2 rfl) ?_
  refine x_calli C w (x_runV (i := 287) (As := []) (rest := [.int r1]) C w (K := 7) rfl (by decide) (ci := 5) rfl rfl rfl me_X5_untilEmpty ml_StairBowsLaw_64 (c_X5_untilEmpty l g ad μ1 _  h) ⟨rfl, rfl⟩ ⟨Nat.le_of_ble_eq_true rfl, Nat.le_of_ble_eq_true rfl⟩ rfl hl.1 rfl (Nat.le_of_ble_eq_true rfl) dL_law_458 hcs) (fun r2 μ2 h H locs w => ?_)
  obtain ⟨e, hI2⟩ := h
  refine lv_icmp_eq (tgt := 650) hx hb dL_law_461 (by decide) (fun _ => ?_) (fun c9 => absurd e c9)
  exact kk μ2 H locs hI2 w
set_option maxHeartbeats 4000000 in
set_option maxRecDepth 100000 in
theorem t_law_12 {g : Gv} {ad : Nat → Nat} {μ : Mem} {l : Launch} {p : Program} {e : Env} {s : State} {m : MethodId} {args : Array Value} {below : List Frame} {meth : Method} {c : Code} {cells slots b L i : Nat} {xs : Nat → Int32} {A : Nat → Prop} {H : Heap} {locs : List Loc} {ls : Array Slot} {Q : State → Prop} (C : Cx g p s m args meth c "StairBowsLaw" cL_law 4 ret) (hcs : cells ≤ room_1.cells ∧ slots ≤ room_1.slots) (hX : va_X b L xs s s.heap) (hbl : b < s.heap.size) (hbA : ¬ A b) (hL : L ≤ 1536) (hi : i + 3 ≤ L) (hI : Inv μ) (w : Wd g ad μ A s H locs) (hl : lv_has ls 4 [(0, .ref b), (1, .ref (ad 0)), (2, .ref (ad 287)), (3, .int (nI i))])
    (kk : ∀ (μ2 : Mem) (H : Heap) (locs : List Loc), Inv μ2 → Wd g ad μ2 A s H locs → W p l e room_1 s m args below meth c H locs cells slots Q (F0 m 650 ls [])) : W p l e room_1 s m args below meth c H locs cells slots Q (F0 m 466 ls []) := by
  obtain ⟨hx, hb, hml, -, hts, hown, -, -, hN⟩ := id C
  have j1 : vp_in (nI i + 1) L := by rw [nI_1]; exact vp_in_nI (by omega) (by omega)
  have j2 : vp_in (nI i + 2) L := by rw [show nI i + 2 = nI (i + 2) from nI_add i 2]; exact vp_in_nI (by omega) (by omega)
  refine lv_aload_n hx hb dL_law_466 rfl (lv_at hl 1 rfl) ?_
  refine lv_aload_n hx hb dL_law_467 rfl (lv_at hl 0 rfl) ?_
  refine lv_iload_n hx hb dL_law_468 rfl (lv_at hl 3 rfl) ?_
  refine lv_iconst (v := 1) hx hb dL_law_469 (by decide) ?_
  refine lv_iadd hx hb dL_law_470 ?_
  refine va_sld hx hb hX hbl hbA w.2.2.1 j1 dL_law_471 ?_
  refine lv_aload_n hx hb dL_law_472 rfl (lv_at hl 0 rfl) ?_
  refine lv_iload_n hx hb dL_law_473 rfl (lv_at hl 3 rfl) ?_
  refine lv_iconst (v := 2) hx hb dL_law_474 (by decide) ?_
  refine lv_iadd hx hb dL_law_475 ?_
  refine va_sld hx hb hX hbl hbA w.2.2.1 j2 dL_law_476 ?_
  refine x_calli C w (x_runV (i := 0) (As := [.int (xs (nI i + 1).toNatClampNeg), .int (xs (nI i + 2).toNatClampNeg)]) (rest := []) C w (K := 0) rfl (by decide) (ci := 4) rfl rfl rfl me_X4_ifPassed ml_StairBowsLaw_65 (c_X4_ifPassed l g ad μ _ (xs (nI i + 1).toNatClampNeg) (xs (nI i + 2).toNatClampNeg) (op_ifPassed hI)) ⟨rfl, rfl⟩ ⟨Nat.le_of_ble_eq_true rfl, Nat.le_of_ble_eq_true rfl⟩ rfl hl.1 rfl (Nat.le_of_ble_eq_true rfl) dL_law_477 hcs) (fun r1 μ1 h H locs w => ?_)
  refine lv_aload_n hx hb dL_law_480 rfl (lv_at hl 2 rfl) ?_
  refine lv_aload_n hx hb dL_law_481 rfl (lv_at hl 0 rfl) ?_
  refine lv_iload_n hx hb dL_law_482 rfl (lv_at hl 3 rfl) ?_
  refine lv_iconst (v := 1) hx hb dL_law_483 (by decide) ?_
  refine lv_iadd hx hb dL_law_484 ?_
  refine va_sld hx hb hX hbl hbA w.2.2.1 j1 dL_law_485 ?_
  refine lv_aload_n hx hb dL_law_486 rfl (lv_at hl 0 rfl) ?_
  refine lv_iload_n hx hb dL_law_487 rfl (lv_at hl 3 rfl) ?_
  refine lv_iconst (v := 2) hx hb dL_law_488 (by decide) ?_
  refine lv_iadd hx hb dL_law_489 ?_
  refine va_sld hx hb hX hbl hbA w.2.2.1 j2 dL_law_490 ?_
  refine x_calli C w (x_runV (i := 287) (As := [.int (xs (nI i + 1).toNatClampNeg), .int (xs (nI i + 2).toNatClampNeg)]) (rest := [.int r1]) C w (K := 7) rfl (by decide) (ci := 5) rfl rfl rfl me_X5_ifPassed ml_StairBowsLaw_68 (c_X5_ifPassed l g ad μ1 _ (xs (nI i + 1).toNatClampNeg) (xs (nI i + 2).toNatClampNeg) h) ⟨rfl, rfl⟩ ⟨Nat.le_of_ble_eq_true rfl, Nat.le_of_ble_eq_true rfl⟩ rfl hl.1 rfl (Nat.le_of_ble_eq_true rfl) dL_law_491 hcs) (fun r2 μ2 h H locs w => ?_)
  obtain ⟨e, hI2⟩ := h
  refine lv_icmp_eq (tgt := 650) hx hb dL_law_494 (by decide) (fun _ => ?_) (fun c9 => absurd e c9)
  exact kk μ2 H locs hI2 w
set_option maxHeartbeats 4000000 in
set_option maxRecDepth 100000 in
theorem t_law_13 {g : Gv} {ad : Nat → Nat} {μ : Mem} {l : Launch} {p : Program} {e : Env} {s : State} {m : MethodId} {args : Array Value} {below : List Frame} {meth : Method} {c : Code} {cells slots b L i : Nat} {xs : Nat → Int32} {A : Nat → Prop} {H : Heap} {locs : List Loc} {ls : Array Slot} {Q : State → Prop} (C : Cx g p s m args meth c "StairBowsLaw" cL_law 4 ret) (hcs : cells ≤ room_1.cells ∧ slots ≤ room_1.slots) (hX : va_X b L xs s s.heap) (hbl : b < s.heap.size) (hbA : ¬ A b) (hL : L ≤ 1536) (hi : i + 3 ≤ L) (hI : Inv μ) (w : Wd g ad μ A s H locs) (hl : lv_has ls 4 [(0, .ref b), (1, .ref (ad 0)), (2, .ref (ad 287)), (3, .int (nI i))])
    (kk : ∀ (μ2 : Mem) (H : Heap) (locs : List Loc), Inv μ2 → Wd g ad μ2 A s H locs → W p l e room_1 s m args below meth c H locs cells slots Q (F0 m 650 ls [])) : W p l e room_1 s m args below meth c H locs cells slots Q (F0 m 499 ls []) := by
  obtain ⟨hx, hb, hml, -, hts, hown, -, -, hN⟩ := id C
  have j1 : vp_in (nI i + 1) L := by rw [nI_1]; exact vp_in_nI (by omega) (by omega)
  have j2 : vp_in (nI i + 2) L := by rw [show nI i + 2 = nI (i + 2) from nI_add i 2]; exact vp_in_nI (by omega) (by omega)
  refine lv_aload_n hx hb dL_law_499 rfl (lv_at hl 1 rfl) ?_
  refine x_calli C w (x_runV (i := 0) (As := []) (rest := []) C w (K := 0) rfl (by decide) (ci := 4) rfl rfl rfl me_X4_bestLanding ml_StairBowsLaw_69 (c_X4_bestLanding l g ad μ _  (op_bestLanding hI)) ⟨rfl, rfl⟩ ⟨Nat.le_of_ble_eq_true rfl, Nat.le_of_ble_eq_true rfl⟩ rfl hl.1 rfl (Nat.le_of_ble_eq_true rfl) dL_law_500 hcs) (fun r1 μ1 h H locs w => ?_)
  refine lv_aload_n hx hb dL_law_503 rfl (lv_at hl 2 rfl) ?_
  refine x_calli C w (x_runV (i := 287) (As := []) (rest := [.int r1]) C w (K := 7) rfl (by decide) (ci := 5) rfl rfl rfl me_X5_bestLanding ml_StairBowsLaw_72 (c_X5_bestLanding l g ad μ1 _  h) ⟨rfl, rfl⟩ ⟨Nat.le_of_ble_eq_true rfl, Nat.le_of_ble_eq_true rfl⟩ rfl hl.1 rfl (Nat.le_of_ble_eq_true rfl) dL_law_504 hcs) (fun r2 μ2 h H locs w => ?_)
  obtain ⟨e, hI2⟩ := h
  refine lv_icmp_eq (tgt := 650) hx hb dL_law_507 (by decide) (fun _ => ?_) (fun c9 => absurd e c9)
  exact kk μ2 H locs hI2 w
set_option maxHeartbeats 4000000 in
set_option maxRecDepth 100000 in
theorem t_law_14 {g : Gv} {ad : Nat → Nat} {μ : Mem} {l : Launch} {p : Program} {e : Env} {s : State} {m : MethodId} {args : Array Value} {below : List Frame} {meth : Method} {c : Code} {cells slots b L i : Nat} {xs : Nat → Int32} {A : Nat → Prop} {H : Heap} {locs : List Loc} {ls : Array Slot} {Q : State → Prop} (C : Cx g p s m args meth c "StairBowsLaw" cL_law 4 ret) (hcs : cells ≤ room_1.cells ∧ slots ≤ room_1.slots) (hX : va_X b L xs s s.heap) (hbl : b < s.heap.size) (hbA : ¬ A b) (hL : L ≤ 1536) (hi : i + 3 ≤ L) (hI : Inv μ) (w : Wd g ad μ A s H locs) (hl : lv_has ls 4 [(0, .ref b), (1, .ref (ad 0)), (2, .ref (ad 287)), (3, .int (nI i))])
    (kk : ∀ (μ2 : Mem) (H : Heap) (locs : List Loc), Inv μ2 → Wd g ad μ2 A s H locs → W p l e room_1 s m args below meth c H locs cells slots Q (F0 m 650 ls [])) : W p l e room_1 s m args below meth c H locs cells slots Q (F0 m 512 ls []) := by
  obtain ⟨hx, hb, hml, -, hts, hown, -, -, hN⟩ := id C
  have j1 : vp_in (nI i + 1) L := by rw [nI_1]; exact vp_in_nI (by omega) (by omega)
  have j2 : vp_in (nI i + 2) L := by rw [show nI i + 2 = nI (i + 2) from nI_add i 2]; exact vp_in_nI (by omega) (by omega)
  refine lv_aload_n hx hb dL_law_512 rfl (lv_at hl 1 rfl) ?_
  refine lv_aload_n hx hb dL_law_513 rfl (lv_at hl 0 rfl) ?_
  refine lv_iload_n hx hb dL_law_514 rfl (lv_at hl 3 rfl) ?_
  refine lv_iconst (v := 1) hx hb dL_law_515 (by decide) ?_
  refine lv_iadd hx hb dL_law_516 ?_
  refine va_sld hx hb hX hbl hbA w.2.2.1 j1 dL_law_517 ?_
  refine lv_i2l hx hb dL_law_518 rfl ?_
  refine lv_bipush (v := 32) hx hb dL_law_519 (by decide) ?_
  refine lv_lshl hx hb dL_law_521 rfl ?_
  refine lv_aload_n hx hb dL_law_522 rfl (lv_at hl 0 rfl) ?_
  refine lv_iload_n hx hb dL_law_523 rfl (lv_at hl 3 rfl) ?_
  refine lv_iconst (v := 2) hx hb dL_law_524 (by decide) ?_
  refine lv_iadd hx hb dL_law_525 ?_
  refine va_sld hx hb hX hbl hbA w.2.2.1 j2 dL_law_526 ?_
  refine lv_i2l hx hb dL_law_527 rfl ?_
  refine lv_ldc2 (v := 4294967295) hx hb hown (hts _ mk_StairBowsLaw_73) dL_law_528 ?_
  refine lv_land hx hb dL_law_531 ?_
  refine lv_lor hx hb dL_law_532 ?_
  refine x_calli C w (x_runV (i := 0) (As := [.long (((xs (nI i + 1).toNatClampNeg).toInt64 <<< ((32 : Int32).toInt64 &&& 63)) ||| ((xs (nI i + 2).toNatClampNeg).toInt64 &&& 4294967295))]) (rest := []) C w (K := 0) rfl (by decide) (ci := 4) rfl rfl rfl me_X4_put ml_StairBowsLaw_75 (c_X4_put l g ad μ _ (((xs (nI i + 1).toNatClampNeg).toInt64 <<< ((32 : Int32).toInt64 &&& 63)) ||| ((xs (nI i + 2).toNatClampNeg).toInt64 &&& 4294967295)) (op_put hI)) ⟨rfl, rfl⟩ ⟨Nat.le_of_ble_eq_true rfl, Nat.le_of_ble_eq_true rfl⟩ rfl hl.1 rfl (Nat.le_of_ble_eq_true rfl) dL_law_533 hcs) (fun r1 μ1 h H locs w => ?_)
  refine lv_aload_n hx hb dL_law_536 rfl (lv_at hl 2 rfl) ?_
  refine lv_aload_n hx hb dL_law_537 rfl (lv_at hl 0 rfl) ?_
  refine lv_iload_n hx hb dL_law_538 rfl (lv_at hl 3 rfl) ?_
  refine lv_iconst (v := 1) hx hb dL_law_539 (by decide) ?_
  refine lv_iadd hx hb dL_law_540 ?_
  refine va_sld hx hb hX hbl hbA w.2.2.1 j1 dL_law_541 ?_
  refine lv_i2l hx hb dL_law_542 rfl ?_
  refine lv_bipush (v := 32) hx hb dL_law_543 (by decide) ?_
  refine lv_lshl hx hb dL_law_545 rfl ?_
  refine lv_aload_n hx hb dL_law_546 rfl (lv_at hl 0 rfl) ?_
  refine lv_iload_n hx hb dL_law_547 rfl (lv_at hl 3 rfl) ?_
  refine lv_iconst (v := 2) hx hb dL_law_548 (by decide) ?_
  refine lv_iadd hx hb dL_law_549 ?_
  refine va_sld hx hb hX hbl hbA w.2.2.1 j2 dL_law_550 ?_
  refine lv_i2l hx hb dL_law_551 rfl ?_
  refine lv_ldc2 (v := 4294967295) hx hb hown (hts _ mk_StairBowsLaw_73) dL_law_552 ?_
  refine lv_land hx hb dL_law_555 ?_
  refine lv_lor hx hb dL_law_556 ?_
  refine x_calli C w (x_runV (i := 287) (As := [.long (((xs (nI i + 1).toNatClampNeg).toInt64 <<< ((32 : Int32).toInt64 &&& 63)) ||| ((xs (nI i + 2).toNatClampNeg).toInt64 &&& 4294967295))]) (rest := [.int r1]) C w (K := 7) rfl (by decide) (ci := 5) rfl rfl rfl me_X5_put ml_StairBowsLaw_79 (c_X5_put l g ad μ1 _ (((xs (nI i + 1).toNatClampNeg).toInt64 <<< ((32 : Int32).toInt64 &&& 63)) ||| ((xs (nI i + 2).toNatClampNeg).toInt64 &&& 4294967295)) h) ⟨rfl, rfl⟩ ⟨Nat.le_of_ble_eq_true rfl, Nat.le_of_ble_eq_true rfl⟩ rfl hl.1 rfl (Nat.le_of_ble_eq_true rfl) dL_law_557 hcs) (fun r2 μ2 h H locs w => ?_)
  obtain ⟨e, hI2⟩ := h
  refine lv_icmp_eq (tgt := 650) hx hb dL_law_560 (by decide) (fun _ => ?_) (fun c9 => absurd e c9)
  exact kk μ2 H locs hI2 w
set_option maxHeartbeats 4000000 in
set_option maxRecDepth 100000 in
theorem t_law_15 {g : Gv} {ad : Nat → Nat} {μ : Mem} {l : Launch} {p : Program} {e : Env} {s : State} {m : MethodId} {args : Array Value} {below : List Frame} {meth : Method} {c : Code} {cells slots b L i : Nat} {xs : Nat → Int32} {A : Nat → Prop} {H : Heap} {locs : List Loc} {ls : Array Slot} {Q : State → Prop} (C : Cx g p s m args meth c "StairBowsLaw" cL_law 4 ret) (hcs : cells ≤ room_1.cells ∧ slots ≤ room_1.slots) (hX : va_X b L xs s s.heap) (hbl : b < s.heap.size) (hbA : ¬ A b) (hL : L ≤ 1536) (hi : i + 3 ≤ L) (hI : Inv μ) (w : Wd g ad μ A s H locs) (hl : lv_has ls 4 [(0, .ref b), (1, .ref (ad 0)), (2, .ref (ad 287)), (3, .int (nI i))])
    (kk : ∀ (μ2 : Mem) (H : Heap) (locs : List Loc), Inv μ2 → Wd g ad μ2 A s H locs → W p l e room_1 s m args below meth c H locs cells slots Q (F0 m 650 ls [])) : W p l e room_1 s m args below meth c H locs cells slots Q (F0 m 565 ls []) := by
  obtain ⟨hx, hb, hml, -, hts, hown, -, -, hN⟩ := id C
  have j1 : vp_in (nI i + 1) L := by rw [nI_1]; exact vp_in_nI (by omega) (by omega)
  have j2 : vp_in (nI i + 2) L := by rw [show nI i + 2 = nI (i + 2) from nI_add i 2]; exact vp_in_nI (by omega) (by omega)
  refine lv_aload_n hx hb dL_law_565 rfl (lv_at hl 1 rfl) ?_
  refine x_calli C w (x_runV (i := 0) (As := []) (rest := []) C w (K := 0) rfl (by decide) (ci := 4) rfl rfl rfl me_X4_wipe ml_StairBowsLaw_80 (c_X4_wipe l g ad μ _  (op_wipe hI)) ⟨rfl, rfl⟩ ⟨Nat.le_of_ble_eq_true rfl, Nat.le_of_ble_eq_true rfl⟩ rfl hl.1 rfl (Nat.le_of_ble_eq_true rfl) dL_law_566 hcs) (fun r1 μ1 h H locs w => ?_)
  refine lv_aload_n hx hb dL_law_569 rfl (lv_at hl 2 rfl) ?_
  refine x_calli C w (x_runV (i := 287) (As := []) (rest := [.int r1]) C w (K := 7) rfl (by decide) (ci := 5) rfl rfl rfl me_X5_wipe ml_StairBowsLaw_83 (c_X5_wipe l g ad μ1 _  h) ⟨rfl, rfl⟩ ⟨Nat.le_of_ble_eq_true rfl, Nat.le_of_ble_eq_true rfl⟩ rfl hl.1 rfl (Nat.le_of_ble_eq_true rfl) dL_law_570 hcs) (fun r2 μ2 h H locs w => ?_)
  obtain ⟨e, hI2⟩ := h
  refine lv_icmp_eq (tgt := 650) hx hb dL_law_573 (by decide) (fun _ => ?_) (fun c9 => absurd e c9)
  exact kk μ2 H locs hI2 w
set_option maxHeartbeats 4000000 in
set_option maxRecDepth 100000 in
theorem t_law_16 {g : Gv} {ad : Nat → Nat} {μ : Mem} {l : Launch} {p : Program} {e : Env} {s : State} {m : MethodId} {args : Array Value} {below : List Frame} {meth : Method} {c : Code} {cells slots b L i : Nat} {xs : Nat → Int32} {A : Nat → Prop} {H : Heap} {locs : List Loc} {ls : Array Slot} {Q : State → Prop} (C : Cx g p s m args meth c "StairBowsLaw" cL_law 4 ret) (hcs : cells ≤ room_1.cells ∧ slots ≤ room_1.slots) (hX : va_X b L xs s s.heap) (hbl : b < s.heap.size) (hbA : ¬ A b) (hL : L ≤ 1536) (hi : i + 3 ≤ L) (hI : Inv μ) (w : Wd g ad μ A s H locs) (hl : lv_has ls 4 [(0, .ref b), (1, .ref (ad 0)), (2, .ref (ad 287)), (3, .int (nI i))])
    (kk : ∀ (μ2 : Mem) (H : Heap) (locs : List Loc), Inv μ2 → Wd g ad μ2 A s H locs → W p l e room_1 s m args below meth c H locs cells slots Q (F0 m 650 ls [])) : W p l e room_1 s m args below meth c H locs cells slots Q (F0 m 578 ls []) := by
  obtain ⟨hx, hb, hml, -, hts, hown, -, -, hN⟩ := id C
  have j1 : vp_in (nI i + 1) L := by rw [nI_1]; exact vp_in_nI (by omega) (by omega)
  have j2 : vp_in (nI i + 2) L := by rw [show nI i + 2 = nI (i + 2) from nI_add i 2]; exact vp_in_nI (by omega) (by omega)
  refine lv_aload_n hx hb dL_law_578 rfl (lv_at hl 1 rfl) ?_
  refine x_calli C w (x_runV (i := 0) (As := []) (rest := []) C w (K := 0) rfl (by decide) (ci := 4) rfl rfl rfl me_X4_fault ml_StairBowsLaw_84 (c_X4_fault l g ad μ _  (op_fault hI)) ⟨rfl, rfl⟩ ⟨Nat.le_of_ble_eq_true rfl, Nat.le_of_ble_eq_true rfl⟩ rfl hl.1 rfl (Nat.le_of_ble_eq_true rfl) dL_law_579 hcs) (fun r1 μ1 h H locs w => ?_)
  refine lv_aload_n hx hb dL_law_582 rfl (lv_at hl 2 rfl) ?_
  refine x_calli C w (x_runV (i := 287) (As := []) (rest := [.int r1]) C w (K := 7) rfl (by decide) (ci := 5) rfl rfl rfl me_X5_fault ml_StairBowsLaw_87 (c_X5_fault l g ad μ1 _  h) ⟨rfl, rfl⟩ ⟨Nat.le_of_ble_eq_true rfl, Nat.le_of_ble_eq_true rfl⟩ rfl hl.1 rfl (Nat.le_of_ble_eq_true rfl) dL_law_583 hcs) (fun r2 μ2 h H locs w => ?_)
  obtain ⟨e, hI2⟩ := h
  refine lv_icmp_eq (tgt := 650) hx hb dL_law_586 (by decide) (fun _ => ?_) (fun c9 => absurd e c9)
  exact kk μ2 H locs hI2 w
set_option maxHeartbeats 4000000 in
set_option maxRecDepth 100000 in
theorem t_law_17 {g : Gv} {ad : Nat → Nat} {μ : Mem} {l : Launch} {p : Program} {e : Env} {s : State} {m : MethodId} {args : Array Value} {below : List Frame} {meth : Method} {c : Code} {cells slots b L i : Nat} {xs : Nat → Int32} {A : Nat → Prop} {H : Heap} {locs : List Loc} {ls : Array Slot} {Q : State → Prop} (C : Cx g p s m args meth c "StairBowsLaw" cL_law 4 ret) (hcs : cells ≤ room_1.cells ∧ slots ≤ room_1.slots) (hX : va_X b L xs s s.heap) (hbl : b < s.heap.size) (hbA : ¬ A b) (hL : L ≤ 1536) (hi : i + 3 ≤ L) (hI : Inv μ) (w : Wd g ad μ A s H locs) (hl : lv_has ls 4 [(0, .ref b), (1, .ref (ad 0)), (2, .ref (ad 287)), (3, .int (nI i))])
    (kk : ∀ (μ2 : Mem) (H : Heap) (locs : List Loc), Inv μ2 → Wd g ad μ2 A s H locs → W p l e room_1 s m args below meth c H locs cells slots Q (F0 m 650 ls [])) : W p l e room_1 s m args below meth c H locs cells slots Q (F0 m 591 ls []) := by
  obtain ⟨hx, hb, hml, -, hts, hown, -, -, hN⟩ := id C
  have j1 : vp_in (nI i + 1) L := by rw [nI_1]; exact vp_in_nI (by omega) (by omega)
  have j2 : vp_in (nI i + 2) L := by rw [show nI i + 2 = nI (i + 2) from nI_add i 2]; exact vp_in_nI (by omega) (by omega)
  refine lv_aload_n hx hb dL_law_591 rfl (lv_at hl 1 rfl) ?_
  refine x_calli C w (x_runV (i := 0) (As := []) (rest := []) C w (K := 0) rfl (by decide) (ci := 4) rfl rfl rfl me_X4_undo ml_StairBowsLaw_88 (c_X4_undo l g ad μ _  (op_undo hI)) ⟨rfl, rfl⟩ ⟨Nat.le_of_ble_eq_true rfl, Nat.le_of_ble_eq_true rfl⟩ rfl hl.1 rfl (Nat.le_of_ble_eq_true rfl) dL_law_592 hcs) (fun r1 μ1 h H locs w => ?_)
  refine lv_aload_n hx hb dL_law_595 rfl (lv_at hl 2 rfl) ?_
  refine x_calli C w (x_runV (i := 287) (As := []) (rest := [.int r1]) C w (K := 7) rfl (by decide) (ci := 5) rfl rfl rfl me_X5_undo ml_StairBowsLaw_91 (c_X5_undo l g ad μ1 _  h) ⟨rfl, rfl⟩ ⟨Nat.le_of_ble_eq_true rfl, Nat.le_of_ble_eq_true rfl⟩ rfl hl.1 rfl (Nat.le_of_ble_eq_true rfl) dL_law_596 hcs) (fun r2 μ2 h H locs w => ?_)
  obtain ⟨e, hI2⟩ := h
  refine lv_icmp_eq (tgt := 650) hx hb dL_law_599 (by decide) (fun _ => ?_) (fun c9 => absurd e c9)
  exact kk μ2 H locs hI2 w
set_option maxHeartbeats 4000000 in
set_option maxRecDepth 100000 in
theorem t_law_18 {g : Gv} {ad : Nat → Nat} {μ : Mem} {l : Launch} {p : Program} {e : Env} {s : State} {m : MethodId} {args : Array Value} {below : List Frame} {meth : Method} {c : Code} {cells slots b L i : Nat} {xs : Nat → Int32} {A : Nat → Prop} {H : Heap} {locs : List Loc} {ls : Array Slot} {Q : State → Prop} (C : Cx g p s m args meth c "StairBowsLaw" cL_law 4 ret) (hcs : cells ≤ room_1.cells ∧ slots ≤ room_1.slots) (hX : va_X b L xs s s.heap) (hbl : b < s.heap.size) (hbA : ¬ A b) (hL : L ≤ 1536) (hi : i + 3 ≤ L) (hI : Inv μ) (w : Wd g ad μ A s H locs) (hl : lv_has ls 4 [(0, .ref b), (1, .ref (ad 0)), (2, .ref (ad 287)), (3, .int (nI i))])
    (kk : ∀ (μ2 : Mem) (H : Heap) (locs : List Loc), Inv μ2 → Wd g ad μ2 A s H locs → W p l e room_1 s m args below meth c H locs cells slots Q (F0 m 650 ls [])) : W p l e room_1 s m args below meth c H locs cells slots Q (F0 m 604 ls []) := by
  obtain ⟨hx, hb, hml, -, hts, hown, -, -, hN⟩ := id C
  have j1 : vp_in (nI i + 1) L := by rw [nI_1]; exact vp_in_nI (by omega) (by omega)
  have j2 : vp_in (nI i + 2) L := by rw [show nI i + 2 = nI (i + 2) from nI_add i 2]; exact vp_in_nI (by omega) (by omega)
  refine lv_aload_n hx hb dL_law_604 rfl (lv_at hl 1 rfl) ?_
  refine lv_aload_n hx hb dL_law_605 rfl (lv_at hl 0 rfl) ?_
  refine lv_iload_n hx hb dL_law_606 rfl (lv_at hl 3 rfl) ?_
  refine lv_iconst (v := 1) hx hb dL_law_607 (by decide) ?_
  refine lv_iadd hx hb dL_law_608 ?_
  refine va_sld hx hb hX hbl hbA w.2.2.1 j1 dL_law_609 ?_
  refine x_calli C w (x_runV (i := 0) (As := [.int (xs (nI i + 1).toNatClampNeg)]) (rest := []) C w (K := 0) rfl (by decide) (ci := 4) rfl rfl rfl me_X4_save ml_StairBowsLaw_92 (c_X4_save l g ad μ _ (xs (nI i + 1).toNatClampNeg) (op_save hI)) ⟨rfl, rfl⟩ ⟨Nat.le_of_ble_eq_true rfl, Nat.le_of_ble_eq_true rfl⟩ rfl hl.1 rfl (Nat.le_of_ble_eq_true rfl) dL_law_610 hcs) (fun r1 μ1 h H locs w => ?_)
  refine lv_aload_n hx hb dL_law_613 rfl (lv_at hl 2 rfl) ?_
  refine lv_aload_n hx hb dL_law_614 rfl (lv_at hl 0 rfl) ?_
  refine lv_iload_n hx hb dL_law_615 rfl (lv_at hl 3 rfl) ?_
  refine lv_iconst (v := 1) hx hb dL_law_616 (by decide) ?_
  refine lv_iadd hx hb dL_law_617 ?_
  refine va_sld hx hb hX hbl hbA w.2.2.1 j1 dL_law_618 ?_
  refine x_calli C w (x_runV (i := 287) (As := [.int (xs (nI i + 1).toNatClampNeg)]) (rest := [.int r1]) C w (K := 7) rfl (by decide) (ci := 5) rfl rfl rfl me_X5_save ml_StairBowsLaw_95 (c_X5_save l g ad μ1 _ (xs (nI i + 1).toNatClampNeg) h) ⟨rfl, rfl⟩ ⟨Nat.le_of_ble_eq_true rfl, Nat.le_of_ble_eq_true rfl⟩ rfl hl.1 rfl (Nat.le_of_ble_eq_true rfl) dL_law_619 hcs) (fun r2 μ2 h H locs w => ?_)
  obtain ⟨e, hI2⟩ := h
  refine lv_icmp_eq (tgt := 650) hx hb dL_law_622 (by decide) (fun _ => ?_) (fun c9 => absurd e c9)
  exact kk μ2 H locs hI2 w
set_option maxHeartbeats 4000000 in
set_option maxRecDepth 100000 in
theorem t_law_19 {g : Gv} {ad : Nat → Nat} {μ : Mem} {l : Launch} {p : Program} {e : Env} {s : State} {m : MethodId} {args : Array Value} {below : List Frame} {meth : Method} {c : Code} {cells slots b L i : Nat} {xs : Nat → Int32} {A : Nat → Prop} {H : Heap} {locs : List Loc} {ls : Array Slot} {Q : State → Prop} (C : Cx g p s m args meth c "StairBowsLaw" cL_law 4 ret) (hcs : cells ≤ room_1.cells ∧ slots ≤ room_1.slots) (hX : va_X b L xs s s.heap) (hbl : b < s.heap.size) (hbA : ¬ A b) (hL : L ≤ 1536) (hi : i + 3 ≤ L) (hI : Inv μ) (w : Wd g ad μ A s H locs) (hl : lv_has ls 4 [(0, .ref b), (1, .ref (ad 0)), (2, .ref (ad 287)), (3, .int (nI i))])
    (kk : ∀ (μ2 : Mem) (H : Heap) (locs : List Loc), Inv μ2 → Wd g ad μ2 A s H locs → W p l e room_1 s m args below meth c H locs cells slots Q (F0 m 650 ls [])) : W p l e room_1 s m args below meth c H locs cells slots Q (F0 m 627 ls []) := by
  obtain ⟨hx, hb, hml, -, hts, hown, -, -, hN⟩ := id C
  have j1 : vp_in (nI i + 1) L := by rw [nI_1]; exact vp_in_nI (by omega) (by omega)
  have j2 : vp_in (nI i + 2) L := by rw [show nI i + 2 = nI (i + 2) from nI_add i 2]; exact vp_in_nI (by omega) (by omega)
  refine lv_aload_n hx hb dL_law_627 rfl (lv_at hl 1 rfl) ?_
  refine lv_aload_n hx hb dL_law_628 rfl (lv_at hl 0 rfl) ?_
  refine lv_iload_n hx hb dL_law_629 rfl (lv_at hl 3 rfl) ?_
  refine lv_iconst (v := 1) hx hb dL_law_630 (by decide) ?_
  refine lv_iadd hx hb dL_law_631 ?_
  refine va_sld hx hb hX hbl hbA w.2.2.1 j1 dL_law_632 ?_
  refine x_calli C w (x_runV (i := 0) (As := [.int (xs (nI i + 1).toNatClampNeg)]) (rest := []) C w (K := 0) rfl (by decide) (ci := 4) rfl rfl rfl me_X4_restore ml_StairBowsLaw_96 (c_X4_restore l g ad μ _ (xs (nI i + 1).toNatClampNeg) (op_restore hI)) ⟨rfl, rfl⟩ ⟨Nat.le_of_ble_eq_true rfl, Nat.le_of_ble_eq_true rfl⟩ rfl hl.1 rfl (Nat.le_of_ble_eq_true rfl) dL_law_633 hcs) (fun r1 μ1 h H locs w => ?_)
  refine lv_aload_n hx hb dL_law_636 rfl (lv_at hl 2 rfl) ?_
  refine lv_aload_n hx hb dL_law_637 rfl (lv_at hl 0 rfl) ?_
  refine lv_iload_n hx hb dL_law_638 rfl (lv_at hl 3 rfl) ?_
  refine lv_iconst (v := 1) hx hb dL_law_639 (by decide) ?_
  refine lv_iadd hx hb dL_law_640 ?_
  refine va_sld hx hb hX hbl hbA w.2.2.1 j1 dL_law_641 ?_
  refine x_calli C w (x_runV (i := 287) (As := [.int (xs (nI i + 1).toNatClampNeg)]) (rest := [.int r1]) C w (K := 7) rfl (by decide) (ci := 5) rfl rfl rfl me_X5_restore ml_StairBowsLaw_99 (c_X5_restore l g ad μ1 _ (xs (nI i + 1).toNatClampNeg) h) ⟨rfl, rfl⟩ ⟨Nat.le_of_ble_eq_true rfl, Nat.le_of_ble_eq_true rfl⟩ rfl hl.1 rfl (Nat.le_of_ble_eq_true rfl) dL_law_642 hcs) (fun r2 μ2 h H locs w => ?_)
  obtain ⟨e, hI2⟩ := h
  refine lv_icmp_eq (tgt := 650) hx hb dL_law_645 (by decide) (fun _ => ?_) (fun c9 => absurd e c9)
  exact kk μ2 H locs hI2 w

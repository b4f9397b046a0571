/-! the reference's constructor -/
abbrev B5 : List Value := [.null, .null, .null, .int 0, .null, .null, .null, .null, .int 0]
abbrev rm_X5_init : Room := { frames := 1, cells := 7, slots := 2336, locals := 12 }
set_option maxHeartbeats 4000000 in
set_option maxRecDepth 100000 in
theorem c_X5_init (l : Launch) (g : Gv) (h0 sz : Nat) : Met l yX5_init (wX yX5_init cX5_init 1 none) rm_X5_init (PreN g [(h0, .inr (5, B5))] sz [.ref h0]) (PostN g 287 295 [(h0, .inr (5, B5))] sz h0) 7 2336 (va_A [(h0, .inr (5, B5))] sz) := by
  refine Met.ofW (cc := cX5_init) (maxL := 1) (ret := none) (by decide) rfl ?_
  intro p e s m args below meth c s₁ B hml hv
  obtain ⟨rfl, rfl, C, w⟩ := n_start (b := 287) B hml hv
  obtain ⟨hx, hb, hml, hts, hown, hKK, hN⟩ := id C
  have hin : meth.name = "<init>" := (name_of_methodNamed B.named B.method).1
  have hl := lv_entry ([.ref h0]) (n := 1) (Nat.le_of_ble_eq_true rfl)
  rw [lg_entry_eq]
  generalize (lg_sl ([.ref h0]) ++ List.replicate (1 - (lg_sl ([.ref h0])).length) Slot.unset).toArray = ls at hl ⊢
  have hl : lv_has ls 1 [(0, .ref h0)] := hl
  refine lv_aload_n hx hb dX5_init_0 rfl (lv_at hl 0 rfl) ?_
  refine n_obj C hl.1 ml2_StairBowsModel_1 dX5_init_1 (Nat.le_of_ble_eq_true rfl) (Nat.le_of_ble_eq_true rfl) ?_
  refine lv_aload_n hx hb dX5_init_4 rfl (lv_at hl 0 rfl) ?_
  refine lv_sipush (v := 225) hx hb dX5_init_5 (by decide) ?_
  refine n_newa C w (by omega) (atype := .int) (t := 0) (ty := .int) ac_int rfl rfl (N' := 225) (a0 := (225, .inl (fun _ => 0))) (fun _ => rfl) (by decide) (by decide) (Nat.le_of_ble_eq_true rfl) (Nat.le_of_ble_eq_true rfl) (Nat.le_of_ble_eq_true rfl) dX5_init_8 (fun q0 H1 w => ?_)
  refine n_putF C w hin (i := 287) (ci := 5) (k := 0) (N := 9) (C := RX5) (T := TX5) (by omega) (by omega) rfl rfl iX5 tyX5 tyX5_ok nmX5 rfl (by decide) fl_StairBowsModel_7 rfl rfl rfl rfl rfl (Nat.le_of_ble_eq_true rfl) dX5_init_10 (fun H2 locs2 w => ?_)
  refine lv_aload_n hx hb dX5_init_13 rfl (lv_at hl 0 rfl) ?_
  refine lv_sipush (v := 225) hx hb dX5_init_14 (by decide) ?_
  refine n_newa C w (by omega) (atype := .int) (t := 0) (ty := .int) ac_int rfl rfl (N' := 225) (a0 := (225, .inl (fun _ => 0))) (fun _ => rfl) (by decide) (by decide) (Nat.le_of_ble_eq_true rfl) (Nat.le_of_ble_eq_true rfl) (Nat.le_of_ble_eq_true rfl) dX5_init_17 (fun q1 H1 w => ?_)
  refine n_putF C w hin (i := 287) (ci := 5) (k := 1) (N := 9) (C := RX5) (T := TX5) (by omega) (by omega) rfl rfl iX5 tyX5 tyX5_ok nmX5 rfl (by decide) fl_StairBowsModel_13 rfl rfl rfl rfl rfl (Nat.le_of_ble_eq_true rfl) dX5_init_19 (fun H2 locs2 w => ?_)
  refine lv_aload_n hx hb dX5_init_22 rfl (lv_at hl 0 rfl) ?_
  refine lv_sipush (v := 1350) hx hb dX5_init_23 (by decide) ?_
  refine n_newa C w (by omega) (atype := .int) (t := 0) (ty := .int) ac_int rfl rfl (N' := 1350) (a0 := (1350, .inl (fun _ => 0))) (fun _ => rfl) (by decide) (by decide) (Nat.le_of_ble_eq_true rfl) (Nat.le_of_ble_eq_true rfl) (Nat.le_of_ble_eq_true rfl) dX5_init_26 (fun q2 H1 w => ?_)
  refine n_putF C w hin (i := 287) (ci := 5) (k := 2) (N := 9) (C := RX5) (T := TX5) (by omega) (by omega) rfl rfl iX5 tyX5 tyX5_ok nmX5 rfl (by decide) fl_StairBowsModel_16 rfl rfl rfl rfl rfl (Nat.le_of_ble_eq_true rfl) dX5_init_28 (fun H2 locs2 w => ?_)
  refine lv_aload_n hx hb dX5_init_31 rfl (lv_at hl 0 rfl) ?_
  refine lv_sipush (v := 450) hx hb dX5_init_32 (by decide) ?_
  refine n_newa C w (by omega) (atype := .int) (t := 0) (ty := .int) ac_int rfl rfl (N' := 450) (a0 := (450, .inl (fun _ => 0))) (fun _ => rfl) (by decide) (by decide) (Nat.le_of_ble_eq_true rfl) (Nat.le_of_ble_eq_true rfl) (Nat.le_of_ble_eq_true rfl) dX5_init_35 (fun q4 H1 w => ?_)
  refine n_putF C w hin (i := 287) (ci := 5) (k := 4) (N := 9) (C := RX5) (T := TX5) (by omega) (by omega) rfl rfl iX5 tyX5 tyX5_ok nmX5 rfl (by decide) fl_StairBowsModel_19 rfl rfl rfl rfl rfl (Nat.le_of_ble_eq_true rfl) dX5_init_37 (fun H2 locs2 w => ?_)
  refine lv_aload_n hx hb dX5_init_40 rfl (lv_at hl 0 rfl) ?_
  refine lv_iconst (v := 2) hx hb dX5_init_41 (by decide) ?_
  refine n_newa C w (by omega) (atype := .int) (t := 0) (ty := .int) ac_int rfl rfl (N' := 2) (a0 := (2, .inl (fun _ => 0))) (fun _ => rfl) (by decide) (by decide) (Nat.le_of_ble_eq_true rfl) (Nat.le_of_ble_eq_true rfl) (Nat.le_of_ble_eq_true rfl) dX5_init_42 (fun q5 H1 w => ?_)
  refine n_putF C w hin (i := 287) (ci := 5) (k := 5) (N := 9) (C := RX5) (T := TX5) (by omega) (by omega) rfl rfl iX5 tyX5 tyX5_ok nmX5 rfl (by decide) fl_StairBowsModel_22 rfl rfl rfl rfl rfl (Nat.le_of_ble_eq_true rfl) dX5_init_44 (fun H2 locs2 w => ?_)
  refine lv_aload_n hx hb dX5_init_47 rfl (lv_at hl 0 rfl) ?_
  refine lv_bipush (v := 24) hx hb dX5_init_48 (by decide) ?_
  refine n_newa C w (by omega) (atype := .int) (t := 0) (ty := .int) ac_int rfl rfl (N' := 24) (a0 := (24, .inl (fun _ => 0))) (fun _ => rfl) (by decide) (by decide) (Nat.le_of_ble_eq_true rfl) (Nat.le_of_ble_eq_true rfl) (Nat.le_of_ble_eq_true rfl) dX5_init_50 (fun q6 H1 w => ?_)
  refine n_putF C w hin (i := 287) (ci := 5) (k := 6) (N := 9) (C := RX5) (T := TX5) (by omega) (by omega) rfl rfl iX5 tyX5 tyX5_ok nmX5 rfl (by decide) fl_StairBowsModel_25 rfl rfl rfl rfl rfl (Nat.le_of_ble_eq_true rfl) dX5_init_52 (fun H2 locs2 w => ?_)
  refine lv_aload_n hx hb dX5_init_55 rfl (lv_at hl 0 rfl) ?_
  refine lv_bipush (v := 60) hx hb dX5_init_56 (by decide) ?_
  refine n_newa C w (by omega) (atype := .int) (t := 0) (ty := .int) ac_int rfl rfl (N' := 60) (a0 := (60, .inl (fun _ => 0))) (fun _ => rfl) (by decide) (by decide) (Nat.le_of_ble_eq_true rfl) (Nat.le_of_ble_eq_true rfl) (Nat.le_of_ble_eq_true rfl) dX5_init_58 (fun q7 H1 w => ?_)
  refine n_putF C w hin (i := 287) (ci := 5) (k := 7) (N := 9) (C := RX5) (T := TX5) (by omega) (by omega) rfl rfl iX5 tyX5 tyX5_ok nmX5 rfl (by decide) fl_StairBowsModel_28 rfl rfl rfl rfl rfl (Nat.le_of_ble_eq_true rfl) dX5_init_60 (fun H2 locs2 w => ?_)
  refine lv_aload_n hx hb dX5_init_63 rfl (lv_at hl 0 rfl) ?_
  refine n_get C w (i := 287) (ci := 5) (k := 0) (N := 9) (C := RX5) (T := TX5) (by omega) (by omega) rfl rfl iX5 rfl (by decide) fl_StairBowsModel_7 rfl dX5_init_64 ?_
  refine lv_iconst (v := 0) hx hb dX5_init_67 (by decide) ?_
  refine lv_iconst (v := 2) hx hb dX5_init_68 (by decide) ?_
  refine n_iast C w (i := 288) (n := 225) (jn' := 0) (by omega) (by omega) rfl rfl rfl (vp_lit (by decide) (by decide)) dX5_init_69 (fun H1 locs1 w => ?_)
  refine lv_aload_n hx hb dX5_init_70 rfl (lv_at hl 0 rfl) ?_
  refine n_get C w (i := 287) (ci := 5) (k := 0) (N := 9) (C := RX5) (T := TX5) (by omega) (by omega) rfl rfl iX5 rfl (by decide) fl_StairBowsModel_7 rfl dX5_init_71 ?_
  refine lv_iconst (v := 1) hx hb dX5_init_74 (by decide) ?_
  refine lv_iconst (v := 1) hx hb dX5_init_75 (by decide) ?_
  refine n_iast C w (i := 288) (n := 225) (jn' := 1) (by omega) (by omega) rfl rfl rfl (vp_lit (by decide) (by decide)) dX5_init_76 (fun H1 locs1 w => ?_)
  refine lv_aload_n hx hb dX5_init_77 rfl (lv_at hl 0 rfl) ?_
  refine n_get C w (i := 287) (ci := 5) (k := 0) (N := 9) (C := RX5) (T := TX5) (by omega) (by omega) rfl rfl iX5 rfl (by decide) fl_StairBowsModel_7 rfl dX5_init_78 ?_
  refine lv_iconst (v := 5) hx hb dX5_init_81 (by decide) ?_
  refine lv_sipush (v := 272) hx hb dX5_init_82 (by decide) ?_
  refine n_iast C w (i := 288) (n := 225) (jn' := 5) (by omega) (by omega) rfl rfl rfl (vp_lit (by decide) (by decide)) dX5_init_85 (fun H1 locs1 w => ?_)
  refine n_vret C B.returns B.notSynchronized w rfl (fun i h1 h2 => ?_) dX5_init_86
  have : i = 287 ∨ i = 288 ∨ i = 289 ∨ i = 290 ∨ i = 291 ∨ i = 292 ∨ i = 293 ∨ i = 294 := by omega
  rcases this with rfl | rfl | rfl | rfl | rfl | rfl | rfl | rfl
  · exact Cv.of rfl
  · refine Cv.i (fun j hj => ?_)
    show upd (upd (upd (fun _ => 0) 0 2) 1 1) 5 272 j = if j = 0 then 2 else if j = 1 then 1 else if j = 5 then 272 else 0
    unfold upd
    by_cases j0 : j = 0
    · subst j0; rfl
    · by_cases j1 : j = 1
      · subst j1; rfl
      · by_cases j5 : j = 5
        · subst j5; rfl
        · simp [j0, j1, j5]
  · exact Cv.of rfl
  · exact Cv.of rfl
  · exact Cv.of rfl
  · exact Cv.of rfl
  · exact Cv.of rfl
  · exact Cv.of rfl

/-! THE START: what the tables say -/
theorem arr_prim {args : Array Value} {s : State} {ty : FieldType} (h : (Cond.arrayClass ty).before args s = true) : ∃ cA, ArrOfT s cA ty ∧ s.vm.findClass ("[" ++ ty.toString) = some cA := by
  obtain ⟨cA, kA, comp, h1, h2, h3⟩ := Cond.arrayClass_spec h
  exact ⟨cA, fun n z => ⟨fun k h => (by cases h), kA, h2, comp, h3⟩, h1⟩
theorem arr_obj {s : State} {C : String} (h : va_AO C s) : ∃ cA, ArrOfT s cA (.object C) ∧ va_RA s cA (.object C) := by
  obtain ⟨comp, c, k, h1, h2, h3, h4, h5⟩ := Cond.arrayOver_spec (va_AO.use (A := #[]) h)
  exact ⟨c, fun n z => ⟨fun k h => (by cases h), k, h3, comp, h4⟩, k, comp, h3, h4, h1, h5⟩
theorem known {args : Array Value} {s : State} (hts : ∀ w ∈ lw_tbl, w.before args s = true) : ∃ g : Gv, va_K g.1 vwCl (tysG g) s := by
  have ht : ∀ w ∈ tb_G, w.before args s = true := fun w hw => hts w (tb_sub hw)
  obtain ⟨c0, i0, k0⟩ := u_known (C := RX0) (T := TX0) (N := 2) (n := 2) ht iX0 (ht _ ib_X0_init)
  obtain ⟨c1, i1, k1⟩ := u_known (C := RX1) (T := TX1) (N := 2) (n := 2) ht iX1 (ht _ ib_X1_init)
  obtain ⟨c2, i2, k2⟩ := u_known (C := RX2) (T := TX2) (N := 10) (n := 10) ht iX2 (ht _ ib_X2_init)
  obtain ⟨c3, i3, k3⟩ := u_known (C := RX3) (T := TX3) (N := 6) (n := 6) ht iX3 (ht _ ib_X3_init)
  obtain ⟨c4, i4, k4⟩ := u_known (C := RX4) (T := TX4) (N := 6) (n := 6) ht iX4 (ht _ ib_X4_init)
  obtain ⟨t0, a0, b0⟩ := arr_prim (ht _ ac_int)
  obtain ⟨t1, a1, b1⟩ := arr_prim (ht _ ac_boolean)
  obtain ⟨t2, a2, b2⟩ := arr_prim (ht _ ac_char)
  obtain ⟨t3, a3, b3⟩ := arr_obj (va_AO.of (hts _ ao_P))
  obtain ⟨t4, a4, b4⟩ := arr_obj (va_AO.of (hts _ ao_S))
  refine ⟨((fun k => [c0, c1, c2, c3, c4].getD k c0, fun k => [i0, i1, i2, i3, i4].getD k i0), fun k => [t0, t1, t2, t3, t4].getD k t0), ?_, ?_⟩
  · intro k q hq
    match k, hq with
    | 0, hq => cases hq; exact k0
    | 1, hq => cases hq; exact k1
    | 2, hq => cases hq; exact k2
    | 3, hq => cases hq; exact k3
    | 4, hq => cases hq; exact k4
    | k + 5, hq => simp [vwCl] at hq
  · intro k q hq
    match k, hq with
    | 0, hq => cases hq; exact ⟨a0, b0⟩
    | 1, hq => cases hq; exact ⟨a1, b1⟩
    | 2, hq => cases hq; exact ⟨a2, b2⟩
    | 3, hq => cases hq; exact ⟨a3, b3⟩
    | 4, hq => cases hq; exact ⟨a4, b4⟩
    | k + 5, hq => simp [tysG] at hq
theorem nwa_of {args : Array Value} {s : State} (hts : ∀ w ∈ lw_tbl, w.before args s = true) : NwA s := ⟨va_Nw.of rfl (hts _ nw_P), va_Nw.of rfl (hts _ nw_D), va_Nw.of rfl (hts _ nw_F), va_AO.of (hts _ ao_P), va_AO.of (hts _ ao_S)⟩
theorem ls_F : Cond.laysStatic "StairBows" "FIRST_VALUE" "[I" ∈ lw_tbl := List.mem_of_getElem? (i := 32) (by decide +kernel)
theorem ls_L : Cond.laysStatic "StairBows" "LEAST_VALUE" "[I" ∈ lw_tbl := List.mem_of_getElem? (i := 165) (by decide +kernel)
theorem ls_G : Cond.laysStatic "StairBows" "GREATEST_VALUE" "[I" ∈ lw_tbl := List.mem_of_getElem? (i := 167) (by decide +kernel)
theorem stt_of {args : Array Value} {s : State} {A : Nat → Prop} (hts : ∀ w ∈ lw_tbl, w.before args s = true) (hgv : (Jvm.Cond.and given_1 narrow_1).before args s = true) (hA : ∀ a : Nat, a < s.heap.size → ¬ A a) : Stt A s s.heap := by
  have hs := flat_of_before _ hgv
  have hini := hts _ (tb_sub it_X4_init)
  have key : ∀ (n : String) (f : Nat → Int32), (Cond.laysStatic "StairBows" n "[I").before args s = true → (Cond.arrayOf (.static "StairBows" n "[I") .int).before args s = true → (Cond.eq (.length (.static "StairBows" n "[I")) (.int 3)).before args s = true → (Cond.eq (.elem (.static "StairBows" n "[I") (.int 0)) (.int (f 0))).before args s = true → (Cond.eq (.elem (.static "StairBows" n "[I") (.int 1)) (.int (f 1))).before args s = true → (Cond.eq (.elem (.static "StairBows" n "[I") (.int 2)) (.int (f 2))).before args s = true → ∃ t, va_Z "StairBows" n "[I" (.ref t) A s s.heap ∧ va_T .int t 3 (fun k => .int (f k)) A s s.heap := by
    intro n f h1 h2 h3 e0 e1 e2
    obtain ⟨t, ht, hT⟩ := va_Tof (tm := .static "StairBows" n "[I") (ty := .int) (N := 3) (f := fun k => .int (f k)) (A := A) (by omega) h2 (va_eqt h3) (fun j hj => by
      rcases (show j = 0 ∨ j = 1 ∨ j = 2 by omega) with rfl | rfl | rfl
      · exact va_eqt e0
      · exact va_eqt e1
      · exact va_eqt e2) hA
    exact ⟨t, va_Zof h1 hini ht hA, hT⟩
  obtain ⟨tF, hF⟩ := key "FIRST_VALUE" firstV (hts _ ls_F) (hs _ (by decide +kernel)) (hs _ (by decide +kernel)) (hs _ (by decide +kernel)) (hs _ (by decide +kernel)) (hs _ (by decide +kernel))
  obtain ⟨tL, hL⟩ := key "LEAST_VALUE" leastV (hts _ ls_L) (hs _ (by decide +kernel)) (hs _ (by decide +kernel)) (hs _ (by decide +kernel)) (hs _ (by decide +kernel)) (hs _ (by decide +kernel))
  obtain ⟨tG, hG⟩ := key "GREATEST_VALUE" greatV (hts _ ls_G) (hs _ (by decide +kernel)) (hs _ (by decide +kernel)) (hs _ (by decide +kernel)) (hs _ (by decide +kernel)) (hs _ (by decide +kernel))
  exact ⟨tF, tL, tG, hF, hL, hG⟩
theorem wb_wl (g : Gv) (ad : Nat → Nat) : wb ad (lay g ad mu0) 0 287 = wl g ad mu0 := by
  unfold wb wl
  apply List.map_congr_left
  intro i _
  rw [Nat.zero_add]
theorem gw_wd {g : Gv} {ad : Nat → Nat} {E : Nat → va_E} {A : Nat → Prop} {s : State} {H : Heap} {locs : List Loc} (w : Gw g ad E 0 287 A s H locs) (h : ∀ i, i < 287 → Cv g.1 (E i) (lay g ad mu0 i)) : Wd g ad mu0 A s H locs := by
  unfold Wd
  rw [← wb_wl]
  exact ⟨P_cv (fun i _ h2 => h i h2) w.1, D_cv w.2.1, w.2.2.1, w.2.2.2⟩

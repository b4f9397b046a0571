/-! the law's method up, by program -/
abbrev rm_L_up : Room := { frames := 0, cells := 0, slots := 0, locals := 0 }
noncomputable def wp_L_up (a0 : Int32) (a1 : Int32) (μ : Mem) (K : Int32 → Mem → Prop) : Prop :=
    (¬ a1 = 0 ∧ K ((a0 &&& 2147483647) - ((a0 &&& 2147483647) / a1) * a1) μ)
set_option maxHeartbeats 4000000 in
set_option maxRecDepth 100000 in
theorem c_L_up (l : Launch) (g : Gv) (ad : Nat → Nat) (μ : Mem) (sz : Nat) (a0 : Int32) (a1 : Int32) {K : Int32 → Mem → Prop} (h : wp_L_up a0 a1 μ K) : Met l yL_up (wX yL_up cL_up 2 (some .int)) rm_L_up (Pre g ad μ sz [.int a0, .int a1]) (PostI g ad sz K) 0 0 (Aw ad sz) := by
  refine Met.ofW (cc := cL_up) (maxL := 2) (ret := (some .int)) (by decide) rfl ?_
  intro p e s m args below meth c s₁ B hml hv
  obtain ⟨rfl, rfl, C, w⟩ := x_start B hml hv
  obtain ⟨hx, hb, hml, -, hts, hown, -, -, hN⟩ := id C
  have hl := lv_entry ([.int a0, .int a1]) (n := 2) (Nat.le_of_ble_eq_true rfl)
  rw [lg_entry_eq]
  generalize (lg_sl ([.int a0, .int a1]) ++ List.replicate (2 - (lg_sl ([.int a0, .int a1])).length) Slot.unset).toArray = ls at hl ⊢
  have hl : lv_has ls 2 [(0, .int a0), (1, .int a1)] := hl
  show W p l e rm_L_up s m _ below meth c s.heap [] 0 0 _ _
  unfold wp_L_up at h
  refine lv_iload_n hx hb dL_up_0 rfl (lv_at hl 0 rfl) ?_
  refine lv_ldc (v := 2147483647) hx hb hown (hts _ mk_StairBowsLaw_8) dL_up_1 ?_
  refine lv_iand hx hb dL_up_3 ?_
  refine lv_iload_n hx hb dL_up_4 rfl (lv_at hl 1 rfl) ?_
  refine lv_irem hx hb dL_up_5 h.1 ?_
  have h := h.2
  exact x_iret C w h dL_up_6

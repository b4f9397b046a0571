/-! THE LAW'S cell; a second staircase beside the first; what new ones hold -/
abbrev rm_L_cell : Room := { frames := 0, cells := 0, slots := 0, locals := 0 }
def PreC (b L : Nat) (xs : Nat → Int32) (sz : Nat) (av : List Value) : Array Value → State → Prop := va_Pc av (fun U => U.heap.size = sz ∧ b < sz ∧ va_X b L xs U U.heap)
def PostC (sz : Nat) : Array Value → State → Outcome → State → Prop := va_Qi (fun (_ : Int32) (_ : Unit) => True) (fun _ _ => True) (fun q => sz ≤ q)
theorem preC_blind (b L : Nat) (xs : Nat → Int32) (sz : Nat) (av : List Value) : FrameBlind (PreC b L xs sz av) := by
  intro a U f mk h
  obtain ⟨h1, h2, h3, h4⟩ := h
  exact ⟨h1, h2, h3, va_X.moved (u := U) (U := U.calling f mk a) (Vm.Alike.refl U.vm) h4⟩
set_option maxHeartbeats 4000000 in
set_option maxRecDepth 100000 in
theorem c_L_cell (l : Launch) (b L : Nat) (xs : Nat → Int32) (sz j : Nat) (hL : L ≤ 260) (hj : j ≤ 60) : Met l yL_cell (wX yL_cell cL_cell 2 (some .int)) rm_L_cell (PreC b L xs sz [.ref b, .int (nI j)]) (PostC sz) 0 0 (fun q => sz ≤ q) := by
  refine Met.ofW (cc := cL_cell) (maxL := 2) (ret := (some .int)) (by decide) rfl ?_
  intro p e s m args below meth c s₁ B hml hv
  obtain ⟨rfl, rfl, hbl, hX⟩ := hv
  have hx := B.exec
  have hb := B.bytes
  have hr := B.returns
  have hts : ∀ w ∈ tb_G, w.before _ s = true := fun w hw => atoms_spec (ws := wX yL_cell cL_cell 2 (some .int)) B.pre w (List.mem_cons_of_mem _ hw)
  have hown : s.vm.findClass "StairBowsLaw" = some m.cls := findClass_of_methodNamed B.named
  have hS : va_S (fun q : Nat => s.heap.size ≤ q) s.heap s.heap [] := va_S.rf
  have hbA : ¬ (fun q : Nat => s.heap.size ≤ q) b := Nat.not_le.mpr hbl
  have hl := lv_entry ([.ref b, .int (nI j)]) (n := 2) (Nat.le_of_ble_eq_true rfl)
  rw [lg_entry_eq]
  generalize (lg_sl ([.ref b, .int (nI j)]) ++ List.replicate (2 - (lg_sl ([.ref b, .int (nI j)])).length) Slot.unset).toArray = ls at hl ⊢
  have hl : lv_has ls 2 [(0, .ref b), (1, .int (nI j))] := hl
  show W p l e rm_L_cell s m _ below meth c s.heap [] 0 0 _ _
  have fin : ∀ v : Int32, W p l e rm_L_cell s m #[.ref b, .int (nI j)] below meth c s.heap [] 0 0 (MQ below (PostC s.heap.size) #[.ref b, .int (nI j)] s 0 0 (fun q => s.heap.size ≤ q)) (F0 m 20 ls [.int v]) := fun v =>
    W.iret (v := v) hx hb hr (fun t ht hW => ⟨⟨v, (), rfl, trivial, trivial⟩, hS.F ht⟩) hS.2.2 dL_cell_20
  refine lv_iload_n hx hb dL_cell_0 rfl (lv_at hl 1 rfl) ?_
  refine lv_aload_n hx hb dL_cell_1 rfl (lv_at hl 0 rfl) ?_
  refine va_slen hx hb hX hbl hbA hS dL_cell_2 ?_
  refine lv_icmp_ge (tgt := 12) hx hb dL_cell_3 (by decide) (fun _ => ?_) (fun c1 => ?_)
  · refine lv_ldc (v := 2144199127) hx hb hown (hts _ mk_StairBowsLaw_7) dL_cell_12 ?_
    refine lv_iload_n hx hb dL_cell_14 rfl (lv_at hl 1 rfl) ?_
    refine lv_sipush (v := 1447) hx hb dL_cell_15 (by decide) ?_
    refine lv_iadd hx hb dL_cell_18 ?_
    refine lv_imul hx hb dL_cell_19 ?_
    exact fin _
  · have hjL : j < L := Nat.not_le.mp (fun z => c1 (nI_le (a := L) (b := j) z (by omega)))
    refine lv_aload_n hx hb dL_cell_6 rfl (lv_at hl 0 rfl) ?_
    refine lv_iload_n hx hb dL_cell_7 rfl (lv_at hl 1 rfl) ?_
    refine va_sld hx hb hX hbl hbA hS (vp_in_nI hjL (by omega)) dL_cell_8 ?_
    refine lv_goto (tgt := 20) hx hb dL_cell_9 (by decide) ?_
    exact fin _
theorem gs_of {y : MethodName} {b : ByteArray} {nY n idx : Nat} {rt : Option FieldType} {own : String} (me : MeS y b nY rt n) (hl : Cond.methodLink own idx y ∈ tb_G) : GoodIn tb_G (va_wsS own idx y (wX y b nY rt)) := by
  refine tb_gi (fun w hw => ?_)
  obtain ⟨h1, h3, h4⟩ := me.1
  rcases List.mem_append.mp hw with h | h
  · simp only [List.mem_cons, List.not_mem_nil, or_false] at h
    rcases h with rfl | rfl | rfl
    · exact hl
    · exact h1
    · exact h3
  · exact tb_wX h4 w h
theorem Wd_old {g : Gv} {ad : Nat → Nat} {μ : Mem} {A : Nat → Prop} {s : State} {H H1 : Heap} {locs locs1 : List Loc} (w : Wd g ad μ A s H locs) (hk1 : ∀ q : Nat, q < H.size → H1[q]? = H[q]?) (hS : va_S A s.heap H1 locs1) : Wd g ad μ A s H1 locs1 := ⟨fun k q hk => (w.1 k q hk).kept (hk1 q.1 (w.1 k q hk).lt), w.2.1, hS, w.2.2.2⟩
section LW
variable {g : Gv} {ad ad2 : Nat → Nat} {μ μ2 : Mem} {own : String} {cc : ByteArray} {nL : Nat} {ret : Option FieldType}
variable {p : Program} {l : Launch} {e : Env} {R : Room} {s : State} {m : MethodId} {args : Array Value} {below : List Frame} {meth : Method} {c : Code} {H : Heap} {locs : List Loc} {cells slots : Nat} {Q : State → Prop}
variable {pc : Nat} {ls : Array Slot} {rest : List Value}
theorem x_cell {b L j : Nat} {xs : Nat → Int32} (C0 : Cx g p s m args meth c "StairBowsLaw" cc nL ret) (w : Wd2 g ad μ ad2 μ2 (fun q : Nat => s.heap.size ≤ q) s H locs) (hX : va_X b L xs s s.heap) (hbl : b < s.heap.size) (hL : L ≤ 260) (hj : j ≤ 60) (hR : 1 ≤ R.frames ∧ 21 ≤ R.locals) (hls : ls.size = nL) (hW : (rest.map fun v => v.category).sum ≤ 8) (hdg : decode cc pc = .ok (.invokestatic 80, 3)) (hcs : cells ≤ R.cells ∧ slots ≤ R.slots)
    (kk : ∀ (r : Int32) (H1 : Heap) (locs1 : List Loc), Wd2 g ad μ ad2 μ2 (fun q : Nat => s.heap.size ≤ q) s H1 locs1 → W p l e R s m args below meth c H1 locs1 cells slots Q (F0 m (pc + 3) ls (.int r :: rest))) : W p l e R s m args below meth c H locs cells slots Q (F0 m pc ls (.int (nI j) :: .ref b :: rest)) := by
  obtain ⟨hx, hb, hml, hr, hts, hown, hlocks, hKK, hN⟩ := C0
  have hS := w.1.2.2.1
  have run : va_Run p l e R s m args below meth c H locs cells slots 0 0 (F0 m pc ls (.int (nI j) :: .ref b :: rest)) rest (PostC H.size [Value.ref b, .int (nI j)].toArray) (fun q => H.size ≤ q) :=
    va_runS ⟨hx, hb, hml, hown, hts⟩ (c_L_cell l b L xs H.size j hL hj) (va_cwS 2 hts (gs_of me_L_cell ml_StairBowsLaw_80) rfl rfl rfl me_L_cell.2.2 ⟨hR.1, hR.2⟩) ⟨preC_blind _ _ _ _ _, fun U hU hWm => ⟨rfl, by rw [hU], Nat.lt_of_lt_of_le hbl hS.1, by rw [hU]; exact (hX.kept (hS.2.1 b hbl (Nat.not_le.mpr hbl))).moved hWm.alike⟩⟩ rfl rfl hls rfl (lv_room hW) hdg ⟨hcs.1, hcs.2⟩
  exact va_calli run hS (fun q hq h => absurd hq (Nat.not_lt.mpr h)) (fun q h => Nat.le_trans hS.1 h) (fun r u t H1 locs1 ht hvm hw hB hz hk1 hS1 => kk r H1 locs1 ⟨Wd_old w.1 (fun q hq => hk1 q hq (Nat.not_le.mpr hq)) hS1, Wd_old w.2.1 (fun q hq => hk1 q hq (Nat.not_le.mpr hq)) hS1, w.2.2⟩)
/-- new StairBows(), beside another -/
theorem x_second {A : Nat → Prop} (CN : CxN g p s m args c own cc nL) (w : Wd g ad μ A s H locs) {i1 i2 : Nat} (hcl : Cond.classLink own i1 "StairBows" ∈ tb_G) (hlk : Cond.methodLink own i2 yX4_init ∈ tb_G) (hls : ls.size = nL) (hR : 5 ≤ R.frames ∧ 95 ≤ R.locals) (hW : 1 + (rest.map fun v => v.category).sum ≤ 8) (hcs : cells + 287 ≤ R.cells ∧ slots + 2930 ≤ R.slots) (d1 : decode cc pc = .ok (.new i1, 3)) (d2 : decode cc (pc + 3) = .ok (.dup, 1)) (d3 : decode cc (pc + 4) = .ok (.invokespecial i2, 3))
    (kk : ∀ (ad2 : Nat → Nat) (H1 : Heap) (locs1 : List Loc), Wd2 g ad μ ad2 mu0 A s H1 locs1 → W p l e R s m args below meth c H1 locs1 (cells + 287) (slots + 2930) Q (F0 m (pc + 7) ls (.ref (ad2 0) :: rest))) : W p l e R s m args below meth c H locs cells slots Q (F0 m pc ls rest) := by
  obtain ⟨hx, hb, hml, hts, hown, hKK, hN9⟩ := id CN
  refine va_new hx hb hts iX4 tyX4 tyX4_ok hown (hts _ hcl) (hts _ ib_X4_init) (hts _ it_X4_init) hKK w.1 w.2.1 w.2.2.1 w.2.2.2.1 (ci := 4) (fs := B4) rfl (fun k hk => by rcases (show k = 0 ∨ k = 1 ∨ k = 2 ∨ k = 3 ∨ k = 4 ∨ k = 5 by omega) with rfl | rfl | rfl | rfl | rfl | rfl <;> rfl) (by omega) (by omega) d1 (fun q H1 hP hD hS => ?_)
  refine lv_dup hx hb d2 rfl ?_
  have hPo : va_P g.1 vwCl (wl g ad μ) H1 := fun k x hk => hP k x (wl_pre hk)
  have one : ∀ (k : Nat) (x : Nat × va_E), [(q, (Sum.inr (4, B4) : va_E))][k]? = some x → k = 0 ∧ x = (q, .inr (4, B4)) := fun k x hk => by
    have hl : k < 1 := (List.getElem?_eq_some_iff.mp hk).1
    have : k = 0 := by omega
    subst this
    cases hk
    exact ⟨rfl, rfl⟩
  have hPq : va_P g.1 vwCl [(q, .inr (4, B4))] H1 := fun k x hk => by
    obtain ⟨rfl, rfl⟩ := one k x hk
    exact hP 287 _ wl_last
  have hDq : va_D (fun _ => True) [(q, .inr (4, B4))] := ⟨fun i j x y hi hj _ => by
    rw [(one i x hi).1, (one j y hj).1], fun _ _ _ => trivial⟩
  have hAq : A q := hD.2 287 _ wl_last
  have hne : ∀ i, i < 287 → ad i ≠ q := fun i hi e => by
    have := hD.1 i 287 _ _ (wl_pre (wl_get hi)) wl_last e
    omega
  have hFc : ∀ z, va_A [(q, .inr (4, B4))] H1.size z → A z := fun z hz => by
    rcases hz with ⟨k, e, hk⟩ | hz
    · have := (one k _ hk).2
      cases this
      exact hAq
    · exact w.2.2.2.1 z (Nat.le_trans hS.1 hz)
  have hSt : Stt A s H1 := w.2.2.2.2.kept (fun a h1 h2 => hS.2.1 a h1 h2)
  have run : va_Run p l e R s m args below meth c H1 locs (cells + 1) (slots + 6) 286 2924 (F0 m (pc + 4) ls (.ref q :: .ref q :: rest)) (.ref q :: rest) (PostN g 0 287 [(q, .inr (4, B4))] H1.size q [Value.ref q].toArray) (va_A [(q, .inr (4, B4))] H1.size) :=
    va_runI (As := []) ⟨hx, hb, hml, hown, hts⟩ (c_X4_init l g q H1.size) (cwI 0 hts (tb_gi (tb_wX cd_X4_init)) rfl rfl rfl (hts _ it_X4_init) (hts _ hlk) (hts _ in_X4_init) rfl (by decide +kernel) ⟨hR.1, hR.2⟩) ⟨preN_blind _ _ _ _, fun U hU hWm => ⟨rfl, by rw [hU], by rw [hU]; exact hPq, va_K.moved hWm.alike hKK, hDq, hN9.warm hWm, by rw [hU]; exact (hSt.narrow hFc).moved hWm.alike⟩⟩ rfl rfl hls rfl (lv_room (by rw [List.map_cons, List.sum_cons]; exact hW)) d3 ⟨by omega, by omega⟩
  refine va_callv run hS (fun q _ h => hFc q h) hFc (fun ad2 t H2 locs2 ht hvm h0 hB hz hk1 hS2 => ?_)
  obtain ⟨hP2, hD2⟩ := hB
  rw [ht, wb_wl] at hP2
  rw [wb_wl] at hD2
  have hout : ∀ i, i < 287 → ¬ va_A [(q, (.inr (4, B4) : va_E))] H1.size (ad i) := fun i hi z => by
    rcases z with ⟨k, e, hk⟩ | z
    · have := (one k _ hk).2
      exact hne i hi (congrArg Prod.fst this)
    · exact absurd (hPo i _ (wl_get hi)).lt (Nat.not_lt.mpr z)
  rw [← h0]
  refine W.widen (k := cells + 287) (n := slots + 2930) (by omega) (by omega) (kk ad2 H2 locs2 ⟨⟨fun k x hk => ?_, w.2.1, hS2, w.2.2.2⟩, ⟨hP2, hD2.weaken (fun k x _ h => hFc x.1 h), hS2, w.2.2.2⟩, fun i j hi hj e => ?_⟩)
  · obtain ⟨hl, rfl⟩ := wl_ad hk
    exact (hPo k _ hk).kept (hk1 _ (hPo k _ hk).lt (hout k hl))
  · have := hD2.2 j _ (wl_get hj)
    exact hout i hi (by rw [e]; exact this)
end LW
/-! new ones -/
def A0m : Mem := fun i k => if i = 0 then (if k = 0 then 2 else if k = 1 then 1 else if k = 5 then 272 else 0) else 0
theorem inv_A0 : InvA A0m 0 0 := ⟨by omega, rfl, rfl, ⟨⟨2, by omega, by omega, rfl⟩, ⟨1, by omega, by omega, rfl⟩, ⟨0, by omega, rfl⟩, ⟨272, by omega, rfl⟩⟩, fun p hp => by omega, fun s hs => Nat.zero_le _, ⟨rfl, rfl, rfl⟩, ⟨0, by omega, rfl⟩⟩
theorem ob_mu0 : Ob mu0 A0m 0 0 (fun _ => none) 0 (fun _ => 0) := by
  refine ⟨by omega, inv_A0, ⟨by omega, rfl, rfl, rfl, rfl, fun k hk => ?_, fun s hs => rfl, fun p hp => by omega⟩, ⟨0, fun _ _ => 0, id, by omega, rfl, fun k hk => ⟨hk, rfl⟩, fun i j _ _ h => h, fun k hk => by omega⟩, fun k hk => ⟨fun _ => rfl, fun B m u e => by cases e⟩, by omega, rfl, fun i hi => by omega⟩
  rcases (show k = 0 ∨ k = 1 ∨ k = 2 by omega) with rfl | rfl | rfl <;> rfl
theorem A0_1 : up2 A0m 0 1 (nI 1) = A0m := by
  funext i k
  rw [up2_app]
  by_cases h : i = 0 ∧ k = 1
  · rw [if_pos h, h.1, h.2]; rfl
  · rw [if_neg h]
theorem A0_2 : up2 A0m 0 1 (nI 2) = dbl A0m := by
  funext i k
  rw [up2_app]
  by_cases h : i = 0 ∧ k = 1
  · rw [if_pos h, h.1, h.2]; rfl
  · rw [if_neg h]
    by_cases h6 : k = 6
    · subst h6
      rw [dbl_6]
      unfold A0m
      by_cases h0 : i = 0
      · rw [if_pos h0]; rfl
      · rw [if_neg h0]; rfl
    · rw [dbl_k A0m h6 h]
/-- behind both 'set' -/
theorem tn_start {μ μ2 : Mem} (h : Ob μ A0m 0 0 (fun _ => none) 0 (fun _ => 0)) (h2 : Ob μ2 (dbl A0m) 0 0 (fun _ => none) 0 (fun _ => 0)) : Tn μ μ2 0 := ⟨A0m, 0, 0, fun _ => none, _, _, h, h2, rfl, fun p hp => by omega, Nat.le_refl _, fun k hk B m u e => by cases e⟩
theorem well_tn {μ μ2 : Mem} {T : Nat} {K : Int32 → Mem → Prop} (h : Tn μ μ2 T) (hK : ∀ ω, Tn ω μ2 T → K 1 ω) : wp_L_isWell μ K := by
  obtain ⟨A, n, t, Z, c, c2, h1, h2, h3, h4, h5, h6⟩ := h
  exact ok_isWell h1 h4 (fun ω hω => hK ω ⟨A, n, t, Z, c, c2, hω, h2, h3, h4, h5, h6⟩)
theorem alike_tn {μ μ2 : Mem} {T : Nat} {x : Int32} {K : Int32 → Mem → Mem → Prop} (h : Tn μ μ2 T) (hK : ∀ ω ω2, K 1 ω ω2) : wp_L_areAlike x μ μ2 K := by
  obtain ⟨A, n, t, Z, c, c2, h1, h2, h3, h4, h5, h6⟩ := h
  exact ok_alike h3 hK h1 h2

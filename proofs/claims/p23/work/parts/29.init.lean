/-! CONSTRUCTORS: calls and ends over a world that grows -/
theorem nd_of : ∀ l : List Nat, l.Nodup → va_nd l = true
  | [], _ => rfl
  | a :: l, h => by
    rw [List.nodup_cons] at h
    simp [va_nd, h.1, nd_of l h.2]
theorem upE_upE (E : Nat → va_E) (i : Nat) (x y : va_E) : upE (upE E i x) i y = upE E i y := by
  funext j
  unfold upE
  by_cases h : j = i <;> simp [h]
section GC
variable {g : Gv} {ad : Nat → Nat} {E : Nat → va_E} {b M : Nat} {A : Nat → Prop} {own : String} {cc : ByteArray} {nL : Nat}
variable {p : Program} {l : Launch} {e : Env} {R : Room} {s : State} {m : MethodId} {args : Array Value} {below : List Frame} {meth : Method} {c : Code} {H : Heap} {locs : List Loc} {cells slots mc ms : Nat} {Q : State → Prop}
variable {pc : Nat} {ls : Array Slot} {rest st : List Value} {q : Nat} {e1 : va_E}
theorem n_cut (w : Gw g ad E b (M + 1) A s H locs) (hbM : b ≤ M) (ha : ad M = q) (he : E M = e1) : [M - b].map (fun i => (wb ad E b (M + 1))[i]?) = [(q, e1)].map some := by
  show [(wb ad E b (M + 1))[M - b]?] = [some (q, e1)]
  rw [n_in w hbM (Nat.lt_succ_self M) ha he]
theorem n_free (w : Gw g ad E b (M + 1) A s H locs) (hbM : b ≤ M) (ha : ad M = q) (he : E M = e1) : ∀ z, va_A [(q, e1)] H.size z → A z := va_free w.2.1 w.2.2.1 w.2.2.2.1 [M - b] (n_cut w hbM ha he)
theorem n_pre (C0 : CxN g p s m args c own cc nL) (w : Gw g ad E b (M + 1) A s H locs) (hbM : b ≤ M) (ha : ad M = q) (he : E M = e1) (av : List Value) : ∀ U : State, U.heap = H → s.WarmedH U.vm → PreN g [(q, e1)] H.size av av.toArray U := by
  intro U hU hW
  obtain ⟨hx, hb, hml, hts, hown, hKK, hN9⟩ := C0
  refine ⟨rfl, by rw [hU], ?_, va_K.moved hW.alike hKK, ?_, hN9.warm hW, ?_⟩
  · rw [hU]
    exact w.1.sub [M - b] (by simp [n_in w hbM (Nat.lt_succ_self M) ha he])
  · exact (w.2.1.sub [M - b] (by simp [va_nd]) (n_cut w hbM ha he)).weaken (fun _ _ _ _ => trivial)
  · rw [hU]
    exact ((w.2.2.2.2.kept (fun a h1 h2 => w.2.2.1.2.1 a h1 h2)).narrow (n_free w hbM ha he)).moved hW.alike
theorem n_back {L : Nat} {aa : Array Value} (w : Gw g ad E b (M + 1) A s H locs) (hbM : b ≤ M) (hML : M + 1 ≤ L) (hL : L ≤ 287) (ha : ad M = q) (he : E M = e1)
    (hr : va_Run p l e R s m args below meth c H locs cells slots mc ms (F0 m pc ls st) rest (PostN g M L [(q, e1)] H.size q aa) (va_A [(q, e1)] H.size))
    (kk : ∀ (ad' : Nat → Nat) (H1 : Heap) (locs1 : List Loc), (∀ i, i ≤ M → ad' i = ad i) → Gw g ad' (jn M E (lay g ad' mu0)) b L A s H1 locs1 → W p l e R s m args below meth c H1 locs1 (cells + mc) (slots + ms) Q (F0 m (pc + 3) ls rest)) : W p l e R s m args below meth c H locs cells slots Q (F0 m pc ls st) := by
  have hFc := n_free w hbM ha he
  refine va_callv hr w.2.2.1 (fun q _ h => hFc q h) hFc (fun ad2 t H1 locs1 ht hvm h0 hB hz hk1 hS => ?_)
  obtain ⟨hP1, hD1⟩ := hB
  rw [ht] at hP1
  have hR : (List.range (M - b)).map (fun i => (wb ad E b (M + 1))[i]?) = (wb ad E b M).map some := by
    unfold wb
    rw [List.map_map]
    apply List.map_congr_left
    intro o ho
    have ho := List.mem_range.mp ho
    simp [show o < M + 1 - b by omega]
  obtain ⟨hP, hD⟩ := va_join (wr := wb ad E b M) (w1 := wb ad2 (lay g ad2 mu0) M L) w.1 w.2.1 [M - b] (List.range (M - b)) (n_cut w hbM ha he) hR (nd_of _ List.nodup_range) (fun i hi => by have := List.mem_range.mp hi; simp; omega) hk1 hFc hP1 hD1
  rw [wb_join hbM (by omega)] at hP hD
  have eE : wb (jn M ad ad2) (jn M E (lay g ad2 mu0)) b L = wb (jn M ad ad2) (jn M E (lay g (jn M ad ad2) mu0)) b L := wb_ext (fun i h1 h2 => ⟨rfl, by
    by_cases hi : i < M
    · rw [jn_lt _ _ hi, jn_lt _ _ hi]
    · rw [jn_ge _ _ (by omega), jn_ge _ _ (by omega)]
      exact lay_ge (by omega) (fun j hj => (jn_ge _ _ (by omega)).symm)⟩)
  rw [eE] at hP hD
  refine kk (jn M ad ad2) H1 locs1 (fun i hi => ?_) ⟨hP, hD, hS, w.2.2.2⟩
  by_cases hi2 : i < M
  · rw [jn_lt _ _ hi2]
  · have : i = M := by omega
    subst this
    rw [jn_ge _ _ (Nat.le_refl _), ha]
    exact h0
theorem n_runI {y : MethodName} {cY : ByteArray} {nY idx : Nat} {rm : Room} {Qc : Array Value → State → Outcome → State → Prop} (C0 : CxN g p s m args c own cc nL) (w : Gw g ad E b (M + 1) A s H locs) (hbM : b ≤ M) (ha : ad M = q) (he : E M = e1) (hM : Met l y (wX y cY nY none) rm (PreN g [(q, e1)] H.size [.ref q]) Qc mc ms (va_A [(q, e1)] H.size)) (hw : Cond.code y cY nY none ∈ tb_G) (hini : Cond.initialized y.cls ∈ tb_G) (hl : Cond.methodLink own idx y ∈ tb_G) (hinst : Cond.instanceMethod y ∈ tb_G) (hnm : y.name = "<init>") (hpar : y.cls ≠ "java/lang/invoke/MethodHandle" ∧ y.cls ≠ "java/lang/invoke/VarHandle" ∧ (parseMethodDescriptor y.desc).map (fun d => d.parameters.length) = some 0) (hrm : rm.cells = mc ∧ rm.slots = ms) (hR : rm.frames + 1 ≤ R.frames ∧ 8 + (nY + 11) + rm.locals ≤ R.locals) (hls : ls.size = nL) (hst : st = .ref q :: rest) (hW : (rest.map fun v => v.category).sum ≤ 8) (hdg : decode cc pc = .ok (.invokespecial idx, 3)) (hcs : cells + mc ≤ R.cells ∧ slots + ms ≤ R.slots) :
    va_Run p l e R s m args below meth c H locs cells slots mc ms (F0 m pc ls st) rest (Qc [Value.ref q].toArray) (va_A [(q, e1)] H.size) := by
  have C1 := C0
  obtain ⟨hx, hb, hml, hts, hown, hKK, hN9⟩ := C0
  exact va_runI (As := []) ⟨hx, hb, hml, hown, hts⟩ hM (cwI 0 hts (tb_gi (tb_wX hw)) rfl hrm.1 hrm.2 (hts _ hini) (hts _ hl) (hts _ hinst) hnm hpar hR) ⟨preN_blind _ _ _ _, n_pre C1 w hbM ha he _⟩ rfl rfl hls hst (lv_room hW) hdg hcs
theorem n_runN {y : MethodName} {cY : ByteArray} {nY idx : Nat} {host : String} {rm : Room} {Qc : Array Value → State → Outcome → State → Prop} (C0 : CxN g p s m args c own cc nL) (w : Gw g ad E b (M + 1) A s H locs) (hbM : b ≤ M) (ha : ad M = q) (he : E M = e1) (hM : Met l y (wX y cY nY none) rm (PreN g [(q, e1)] H.size [.ref q]) Qc mc ms (va_A [(q, e1)] H.size)) (hw : Cond.code y cY nY none ∈ tb_G) (hini : Cond.initialized y.cls ∈ tb_G) (hl : va_Nw (.methodLinkNest own idx y host) s) (hinst : Cond.instanceMethod y ∈ tb_G) (hnm : y.name = "<init>") (hpar : y.cls ≠ "java/lang/invoke/MethodHandle" ∧ y.cls ≠ "java/lang/invoke/VarHandle" ∧ (parseMethodDescriptor y.desc).map (fun d => d.parameters.length) = some 0) (hrm : rm.cells = mc ∧ rm.slots = ms) (hR : rm.frames + 1 ≤ R.frames ∧ 8 + (nY + 11) + rm.locals ≤ R.locals) (hls : ls.size = nL) (hst : st = .ref q :: rest) (hW : (rest.map fun v => v.category).sum ≤ 8) (hdg : decode cc pc = .ok (.invokespecial idx, 3)) (hcs : cells + mc ≤ R.cells ∧ slots + ms ≤ R.slots) :
    va_Run p l e R s m args below meth c H locs cells slots mc ms (F0 m pc ls st) rest (Qc [Value.ref q].toArray) (va_A [(q, e1)] H.size) := by
  have C1 := C0
  obtain ⟨hx, hb, hml, hts, hown, hKK, hN9⟩ := C0
  exact va_runIN (As := []) ⟨hx, hb, hml, hown, hts⟩ hM ⟨va_cnB 0 hts (tb_gi (tb_wX hw)) rfl hrm.1 hrm.2 hl (hts _ hini) hpar hR, hnm, hts _ hinst⟩ ⟨preN_blind _ _ _ _, n_pre C1 w hbM ha he _⟩ rfl rfl hls hst (lv_room hW) hdg hcs
theorem n_vret {h0 sz : Nat} {ws : va_W} (C0 : CxN g p s m args c own cc nL) (hr : meth.sig.returnType = none) (hlocks : meth.locks = false) (w : Gw g ad E b M (va_A ws sz) s H locs) (h : ad b = h0) (hcv : ∀ i, b ≤ i → i < M → Cv g.1 (E i) (lay g ad mu0 i)) (hdg : decode cc pc = .ok (.return_, 1)) : W p l e R s m args below meth c H locs cells slots (MQ below (PostN g b M ws sz h0) args s cells slots (va_A ws sz)) (F0 m pc ls []) := by
  obtain ⟨hx, hb, hml, hts, hown, hKK, hN9⟩ := C0
  exact W.vret hx hb hr (fun t ht hW => ⟨⟨ad, rfl, h, by rw [ht]; exact P_cv hcv w.1, D_cv w.2.1⟩, w.2.2.1.F ht⟩) w.2.2.1.2.2 hdg
end GC
/-! Person() and Pad() -/
abbrev B2 : List Value := [.int 0, .int 0, .int 0, .int 0, .int 0, .int 0, .int 0, .int 0, .int 0, .int 0]
theorem lay_13 {g : Gv} {ad : Nat → Nat} {i : Nat} (h : kd i = 13) : lay g ad mu0 i = .inr (2, B2) := by
  unfold lay mu0
  rw [h]
  rfl
abbrev rm_X2_init : Room := { frames := 1, cells := 0, slots := 0, locals := 12 }
set_option maxHeartbeats 4000000 in
set_option maxRecDepth 100000 in
theorem c_X2_init (l : Launch) (g : Gv) (h0 sz b : Nat) (hk : kd b = 13) : Met l yX2_init (wX yX2_init cX2_init 1 none) rm_X2_init (PreN g [(h0, .inr (2, B2))] sz [.ref h0]) (PostN g b (b + 1) [(h0, .inr (2, B2))] sz h0) 0 0 (va_A [(h0, .inr (2, B2))] sz) := by
  refine Met.ofW (cc := cX2_init) (maxL := 1) (ret := none) (by decide) rfl ?_
  intro p e s m args below meth c s₁ B hml hv
  obtain ⟨rfl, rfl, C, w⟩ := n_start (b := b) B hml hv
  obtain ⟨hx, hb, hml, hts, hown, hKK, hN⟩ := id C
  have hl := lv_entry ([.ref h0]) (n := 1) (Nat.le_of_ble_eq_true rfl)
  rw [lg_entry_eq]
  generalize (lg_sl ([.ref h0]) ++ List.replicate (1 - (lg_sl ([.ref h0])).length) Slot.unset).toArray = ls at hl ⊢
  have hl : lv_has ls 1 [(0, .ref h0)] := hl
  refine lv_aload_n hx hb dX2_init_0 rfl (lv_at hl 0 rfl) ?_
  refine n_obj C hl.1 ml2_Person_3 dX2_init_1 (Nat.le_of_ble_eq_true rfl) (Nat.le_of_ble_eq_true rfl) ?_
  refine n_vret C B.returns B.notSynchronized w rfl (fun i h1 h2 => ?_) dX2_init_4
  have : i = b := by omega
  subst this
  exact Cv.of (lay_13 hk).symm
abbrev rm_X1_init : Room := { frames := 1, cells := 1, slots := 60, locals := 12 }
abbrev B1 : List Value := [.null, .int 0]
set_option maxHeartbeats 4000000 in
set_option maxRecDepth 100000 in
theorem c_X1_init (l : Launch) (g : Gv) (h0 sz : Nat) : Met l yX1_init (wX yX1_init cX1_init 1 none) rm_X1_init (PreN g [(h0, .inr (1, B1))] sz [.ref h0]) (PostN g 229 231 [(h0, .inr (1, B1))] sz h0) 1 60 (va_A [(h0, .inr (1, B1))] sz) := by
  refine Met.ofW (cc := cX1_init) (maxL := 1) (ret := none) (by decide) rfl ?_
  intro p e s m args below meth c s₁ B hml hv
  obtain ⟨rfl, rfl, C, w⟩ := n_start (b := 229) B hml hv
  obtain ⟨hx, hb, hml, hts, hown, hKK, hN⟩ := id C
  have hin : meth.name = "<init>" := (name_of_methodNamed B.named B.method).1
  have hl := lv_entry ([.ref h0]) (n := 1) (Nat.le_of_ble_eq_true rfl)
  rw [lg_entry_eq]
  generalize (lg_sl ([.ref h0]) ++ List.replicate (1 - (lg_sl ([.ref h0])).length) Slot.unset).toArray = ls at hl ⊢
  have hl : lv_has ls 1 [(0, .ref h0)] := hl
  refine lv_aload_n hx hb dX1_init_0 rfl (lv_at hl 0 rfl) ?_
  refine n_obj C hl.1 ml2_Pad_3 dX1_init_1 (Nat.le_of_ble_eq_true rfl) (Nat.le_of_ble_eq_true rfl) ?_
  refine lv_aload_n hx hb dX1_init_4 rfl (lv_at hl 0 rfl) ?_
  refine lv_bipush (v := 60) hx hb dX1_init_5 (by decide) ?_
  refine n_newa C w (by omega) (atype := .char) (t := 2) (ty := .char) ac_char rfl rfl (N' := 60) (a0 := (60, .inl (fun _ => 0))) (fun _ => rfl) (by decide) rfl (by decide) (Nat.le_of_ble_eq_true rfl) (Nat.le_of_ble_eq_true rfl) dX1_init_7 (fun q1 H1 w => ?_)
  refine n_putF C w hin (i := 229) (ci := 1) (k := 0) (N := 2) (fs := B1) (C := RX1) (T := TX1) (by omega) (by omega) rfl rfl iX1 tyX1 tyX1_ok nmX1 rfl (by decide) fl_Pad_9 rfl rfl rfl rfl rfl (by decide) dX1_init_9 (fun H2 locs2 w => ?_)
  refine n_vret C B.returns B.notSynchronized w rfl (fun i h1 h2 => ?_) dX1_init_12
  have : i = 229 ∨ i = 230 := by omega
  rcases this with rfl | rfl
  · exact Cv.of rfl
  · exact Cv.of rfl

/-! ROWS over a world that grows -/
def NwA (U : State) : Prop := va_Nw nwP U ∧ va_Nw nwD U ∧ va_Nw nwF U ∧ va_AO "StairBows$Person" U ∧ va_AO "StairBows$Staircase" U
theorem NwA.warm {s U : State} (hW : s.WarmedH U.vm) (h : NwA s) : NwA U := ⟨h.1.warmM hW, h.2.1.warmM hW, h.2.2.1.warmF hW, h.2.2.2.1.moved hW.alike, h.2.2.2.2.moved hW.alike⟩
theorem NwA.same {u U : State} (hvm : u.vm = U.vm) (h : NwA u) : NwA U := by
  have ha : u.vm.Alike U.vm := by rw [hvm]; exact Vm.Alike.refl _
  exact ⟨va_Nw.same rfl hvm h.1, va_Nw.same rfl hvm h.2.1, va_Nw.same rfl hvm h.2.2.1, h.2.2.2.1.moved ha, h.2.2.2.2.moved ha⟩
def PreN (g : Gv) (ws : va_W) (sz : Nat) (av : List Value) : Array Value → State → Prop :=
  va_Pc av (fun U => U.heap.size = sz ∧ va_P g.1 vwCl ws U.heap ∧ va_K g.1 vwCl (tysG g) U ∧ va_D (fun _ => True) ws ∧ NwA U ∧ Stt (va_A ws sz) U U.heap)
def PostN (g : Gv) (b M : Nat) (ws : va_W) (sz h0 : Nat) : Array Value → State → Outcome → State → Prop :=
  va_Qv (fun ad : Nat → Nat => ad b = h0) (fun ad t => va_P g.1 vwCl (wb ad (lay g ad mu0) b M) t.heap ∧ va_D (va_A ws sz) (wb ad (lay g ad mu0) b M)) (va_A ws sz)
def CxN (g : Gv) (p : Program) (s : State) (m : MethodId) (args : Array Value) (c : Code) (own : String) (cc : ByteArray) (nL : Nat) : Prop :=
  p.tables.exec = Jvm.exec ∧ c.code = cc ∧ c.maxLocals = nL ∧ (∀ w ∈ tb_G, w.before args s = true) ∧ s.vm.findClass own = some m.cls ∧ va_K g.1 vwCl (tysG g) s ∧ NwA s
def Gw (g : Gv) (ad : Nat → Nat) (E : Nat → va_E) (b M : Nat) (A : Nat → Prop) (s : State) (H : Heap) (locs : List Loc) : Prop :=
  va_P g.1 vwCl (wb ad E b M) H ∧ va_D A (wb ad E b M) ∧ va_S A s.heap H locs ∧ (∀ q, s.heap.size ≤ q → A q) ∧ Stt A s s.heap
theorem preN_blind (g : Gv) (ws : va_W) (sz : Nat) (av : List Value) : FrameBlind (PreN g ws sz av) := by
  intro a U f mk h
  obtain ⟨h1, h2, h3, h4, h5, h6, h7⟩ := h
  exact ⟨h1, h2, h3, va_K.moved (u := U) (U := U.calling f mk a) (Vm.Alike.refl U.vm) h4, h5, NwA.same (u := U) (U := U.calling f mk a) rfl h6, Stt.moved (u := U) (U := U.calling f mk a) (Vm.Alike.refl U.vm) h7⟩
theorem n_start {g : Gv} {h0 sz b : Nat} {e0 : va_E} {av : List Value} {p : Program} {l : Launch} {y : MethodName} {cc : ByteArray} {nL : Nat} {rm : Room} {e : Env} {s : State} {m : MethodId} {args : Array Value} {below : List Frame} {meth : Method} {c : Code} {s₁ : State}
    (B : BodyLoose p l y (headSpec (wX y cc nL none) rm) cc nL none e s m args below meth c s₁) (hml : c.maxLocals = nL) (hv : PreN g [(h0, e0)] sz av args s) : args = av.toArray ∧ s.heap.size = sz ∧ CxN g p s m args c y.cls cc nL ∧ Gw g (fun _ => h0) (fun _ => e0) b (b + 1) (va_A [(h0, e0)] sz) s s.heap [] := by
  obtain ⟨h1, h2, h3, h4, h5, h6, h7⟩ := hv
  have hts := atoms_spec (ws := wX y cc nL none) B.pre
  refine ⟨h1, h2, ⟨B.exec, B.bytes, hml, fun w hw => hts w (List.mem_cons_of_mem _ hw), findClass_of_methodNamed B.named, h4, h6⟩, ?_⟩
  unfold Gw
  rw [← wb_one h0 e0 b]
  refine ⟨h3, h5.self, va_S.rf, fun q hq => Or.inr (by omega), h7⟩
section GR
variable {g : Gv} {ad : Nat → Nat} {E : Nat → va_E} {b M : Nat} {A : Nat → Prop} {own : String} {cc : ByteArray} {nL : Nat}
variable {p : Program} {l : Launch} {e : Env} {R : Room} {s : State} {m : MethodId} {args : Array Value} {below : List Frame} {meth : Method} {c : Code} {H : Heap} {locs : List Loc} {cells slots : Nat} {Q : State → Prop}
variable {pc : Nat} {ls : Array Slot} {rest st : List Value}
theorem n_in (w : Gw g ad E b M A s H locs) {i a : Nat} {x : va_E} (h1 : b ≤ i) (h2 : i < M) (ha : ad i = a) (he : E i = x) : (wb ad E b M)[i - b]? = some (a, x) := by rw [wb_at h1 h2, ha, he]
theorem n_newa (C0 : CxN g p s m args c own cc nL) (w : Gw g ad E b M A s H locs) (hbM : b ≤ M) {atype : ArrayType} {t : Nat} {ty : FieldType} (harr : Cond.arrayClass (newarray.typeOf atype) ∈ tb_G) (hty : newarray.typeOf atype = ty) (ht : (tysG g)[t]? = some (g.2 t, ty)) {n : Int32} {N' : Nat} {a0 : vp_A} (ha : ∀ cA : ClassId, vp_cell cA a0 = arrV cA N' (fun _ => defaultValue ty)) (hn : ¬ n < 0) (hN : n.toNatClampNeg = N') (hbytes : N' * componentBytes ty ≤ 536870912) (hcells : cells + 1 ≤ R.cells) (hslots : slots + N' ≤ R.slots) (hdg : decode cc pc = .ok (.newarray atype, 2))
    (kk : ∀ (q : Nat) (H1 : Heap), Gw g (upN ad M q) (upE E M (.inl (g.2 t, a0))) b (M + 1) A s H1 locs → W p l e R s m args below meth c H1 locs (cells + 1) (slots + N') Q (F0 m (pc + 2) ls (.ref q :: rest))) : W p l e R s m args below meth c H locs cells slots Q (F0 m pc ls (.int n :: rest)) := by
  obtain ⟨hx, hb, hml, hts, hown, hKK, hN9⟩ := C0
  refine va_newa hx hb (hts _ harr) hty hKK w.1 w.2.1 w.2.2.1 w.2.2.2.1 ha hn hN hbytes hcells hslots hdg (fun q cA H1 hK' hP hD hS => ?_)
  have e : cA = g.2 t := ra_same (hK'.2 5 (cA, ty) rfl).2 (hKK.2 t _ ht).2
  subst e
  rw [wb_push hbM] at hP hD
  exact kk q H1 ⟨hP, hD, hS, w.2.2.2⟩
theorem n_newq (C0 : CxN g p s m args c own cc nL) (w : Gw g ad E b M A s H locs) (hbM : b ≤ M) {C : String} {index t : Nat} (hcl : Cond.classLink own index C ∈ tb_G) (hao : va_AO C s) (ht : (tysG g)[t]? = some (g.2 t, .object C)) {n : Int32} {N' : Nat} (hn : ¬ n < 0) (hN : n.toNatClampNeg = N') (hbytes : N' * 4 ≤ 536870912) (hcells : cells + 1 ≤ R.cells) (hslots : slots + N' ≤ R.slots) (hdg : decode cc pc = .ok (.anewarray index, 3))
    (kk : ∀ (q : Nat) (H1 : Heap), Gw g (upN ad M q) (upE E M (.inl (g.2 t, N', .inr (.inr (.inr (.inr (fun _ => none))))))) b (M + 1) A s H1 locs → W p l e R s m args below meth c H1 locs (cells + 1) (slots + N') Q (F0 m (pc + 3) ls (.ref q :: rest))) : W p l e R s m args below meth c H locs cells slots Q (F0 m pc ls (.int n :: rest)) := by
  obtain ⟨hx, hb, hml, hts, hown, hKK, hN9⟩ := C0
  refine va_newq hx hb hown (hts _ hcl) hao hKK w.1 w.2.1 w.2.2.1 w.2.2.2.1 hn hN hbytes hcells hslots hdg (fun q cA H1 hK' hP hD hS => ?_)
  have e : cA = g.2 t := ra_same (hK'.2 5 (cA, .object C) rfl).2 (hKK.2 t _ ht).2
  subst e
  rw [wb_push hbM] at hP hD
  exact kk q H1 ⟨hP, hD, hS, w.2.2.2⟩
theorem n_new (C0 : CxN g p s m args c own cc nL) (w : Gw g ad E b M A s H locs) (hbM : b ≤ M) {C : String} {T : u_T} {N ci index : Nat} (hin : ∀ w ∈ u_ws C T N, w ∈ tb_G) (ty : Nat → FieldType) (hty : ∀ k, k < N → parseFieldDescriptor (T k).2.2.1 = some (ty k)) (hcl : Cond.classLink own index C ∈ tb_G) (hinst : Cond.instantiable C N ∈ tb_G) (hini : Cond.initialized C ∈ tb_G) (hc : vwCl[ci]? = some (C, T, N)) {fs : List Value} (hfs : ∀ j, j < N → defaultValue (ty j) = vp_V fs j) (hcells : cells + 1 ≤ R.cells) (hslots : slots + N ≤ R.slots) (hdg : decode cc pc = .ok (.new index, 3))
    (kk : ∀ (q : Nat) (H1 : Heap), Gw g (upN ad M q) (upE E M (.inr (ci, fs))) b (M + 1) A s H1 locs → W p l e R s m args below meth c H1 locs (cells + 1) (slots + N) Q (F0 m (pc + 3) ls (.ref q :: rest))) : W p l e R s m args below meth c H locs cells slots Q (F0 m pc ls rest) := by
  obtain ⟨hx, hb, hml, hts, hown, hKK, hN9⟩ := C0
  refine va_new hx hb hts hin ty hty hown (hts _ hcl) (hts _ hinst) (hts _ hini) hKK w.1 w.2.1 w.2.2.1 w.2.2.2.1 hc hfs hcells hslots hdg (fun q H1 hP hD hS => ?_)
  rw [wb_push hbM] at hP hD
  exact kk q H1 ⟨hP, hD, hS, w.2.2.2⟩
theorem n_putF (C0 : CxN g p s m args c own cc nL) (w : Gw g ad E b M A s H locs) (hmeth : meth.name = "<init>") {i ci k N a : Nat} {fs : List Value} {v : Value} {ty : FieldType} {C : String} {T : u_T} {index : Nat} (h1 : b ≤ i) (h2 : i < M) (ha : ad i = a) (he : E i = .inr (ci, fs)) (hin : ∀ w ∈ u_ws C T N, w ∈ tb_G) (ty0 : Nat → FieldType) (hty : ∀ k, k < N → parseFieldDescriptor (T k).2.2.1 = some (ty0 k)) (hnm : ∀ a, a < N → ∀ b, b < N → a ≠ b → (T a).2.1 ≠ (T b).2.1) (hc : vwCl[ci]? = some (C, T, N)) (hk : k < N) (hlink : Cond.fieldLink own index (T k).1 (T k).2.1 (T k).2.2.1 ∈ tb_G) (hfin : (T k).2.2.2 = true) (hdecl : (T k).1 = own) (hd : ty0 k = ty) (hn : narrow ty v = v) (hfit : fits ty v = true) (hl : k < fs.length) (hdg : decode cc pc = .ok (.putfield index, 3))
    (kk : ∀ (H1 : Heap) (locs1 : List Loc), Gw g ad (upE E i (.inr (ci, fs.set k v))) b M A s H1 locs1 → W p l e R s m args below meth c H1 locs1 cells slots Q (F0 m (pc + 3) ls rest)) : W p l e R s m args below meth c H locs cells slots Q (F0 m pc ls (v :: .ref a :: rest)) := by
  obtain ⟨hx, hb, hml, hts, hown, hKK, hN9⟩ := C0
  refine va_putF hx hb hts hin ty0 hty hnm hown hKK w.1 w.2.1 w.2.2.1 (i - b) (n_in w h1 h2 ha he) hc k hk (hts _ hlink) (fun _ h => h) hfin hmeth hdecl ((hty k hk).trans (congrArg some hd)) hn hfit hl hdg (fun H1 locs1 hP hD hS => ?_)
  rw [← ha, wb_set h1 h2] at hP hD
  exact kk H1 locs1 ⟨hP, hD, hS, w.2.2.2⟩
theorem n_put (C0 : CxN g p s m args c own cc nL) (w : Gw g ad E b M A s H locs) {i ci k N a : Nat} {fs : List Value} {v : Value} {ty : FieldType} {C : String} {T : u_T} {index : Nat} (h1 : b ≤ i) (h2 : i < M) (ha : ad i = a) (he : E i = .inr (ci, fs)) (hin : ∀ w ∈ u_ws C T N, w ∈ tb_G) (ty0 : Nat → FieldType) (hty : ∀ k, k < N → parseFieldDescriptor (T k).2.2.1 = some (ty0 k)) (hnm : ∀ a, a < N → ∀ b, b < N → a ≠ b → (T a).2.1 ≠ (T b).2.1) (hc : vwCl[ci]? = some (C, T, N)) (hk : k < N) (hlink : Cond.fieldLink own index (T k).1 (T k).2.1 (T k).2.2.1 ∈ tb_G) (hfin : (T k).2.2.2 = false) (hd : ty0 k = ty) (hn : narrow ty v = v) (hfit : fits ty v = true) (hl : k < fs.length) (hdg : decode cc pc = .ok (.putfield index, 3))
    (kk : ∀ (H1 : Heap) (locs1 : List Loc), Gw g ad (upE E i (.inr (ci, fs.set k v))) b M A s H1 locs1 → W p l e R s m args below meth c H1 locs1 cells slots Q (F0 m (pc + 3) ls rest)) : W p l e R s m args below meth c H locs cells slots Q (F0 m pc ls (v :: .ref a :: rest)) := by
  obtain ⟨hx, hb, hml, hts, hown, hKK, hN9⟩ := C0
  refine va_put hx hb hts hin ty0 hty hnm hown hKK w.1 w.2.1 w.2.2.1 (i - b) (n_in w h1 h2 ha he) hc k hk (hts _ hlink) (fun _ h => h) hfin ((hty k hk).trans (congrArg some hd)) hn hfit hl hdg (fun H1 locs1 hP hD hS => ?_)
  rw [← ha, wb_set h1 h2] at hP hD
  exact kk H1 locs1 ⟨hP, hD, hS, w.2.2.2⟩
theorem n_get (C0 : CxN g p s m args c own cc nL) (w : Gw g ad E b M A s H locs) {i ci k N a : Nat} {fs : List Value} {v : Value} {C : String} {T : u_T} {index : Nat} (h1 : b ≤ i) (h2 : i < M) (ha : ad i = a) (he : E i = .inr (ci, fs)) (hin : ∀ w ∈ u_ws C T N, w ∈ tb_G) (hc : vwCl[ci]? = some (C, T, N)) (hk : k < N) (hlink : Cond.fieldLink own index (T k).1 (T k).2.1 (T k).2.2.1 ∈ tb_G) (hv : fs[k]? = some v) (hdg : decode cc pc = .ok (.getfield index, 3))
    (kk : W p l e R s m args below meth c H locs cells slots Q (F0 m (pc + 3) ls (v :: rest))) : W p l e R s m args below meth c H locs cells slots Q (F0 m pc ls (.ref a :: rest)) := by
  obtain ⟨hx, hb, hml, hts, hown, hKK, hN9⟩ := C0
  exact va_get hx hb hts hin hown hKK w.1 (i - b) (n_in w h1 h2 ha he) hc k hk (hts _ hlink) (fun _ h => h) hv hdg kk
theorem n_alen (C0 : CxN g p s m args c own cc nL) (w : Gw g ad E b M A s H locs) {i a t : Nat} {x : vp_A} {ty : FieldType} (h1 : b ≤ i) (h2 : i < M) (ha : ad i = a) (he : E i = .inl (g.2 t, x)) (ht : (tysG g)[t]? = some (g.2 t, ty)) {v : Int32} (hv : Int32.ofNat x.1 = v) (hdg : decode cc pc = .ok (.arraylength, 1))
    (kk : W p l e R s m args below meth c H locs cells slots Q (F0 m (pc + 1) ls (.int v :: rest))) : W p l e R s m args below meth c H locs cells slots Q (F0 m pc ls (.ref a :: rest)) := by
  obtain ⟨hx, hb, hml, hts, hown, hKK, hN9⟩ := C0
  exact va_alen hx hb hKK w.1 (i - b) t (n_in w h1 h2 ha he) ht hv hdg kk
theorem n_iast (C0 : CxN g p s m args c own cc nL) (w : Gw g ad E b M A s H locs) {i a n jn' : Nat} {f : Nat → Int32} {j v : Int32} (h1 : b ≤ i) (h2 : i < M) (ha : ad i = a) (he : E i = .inl (g.2 0, n, .inl f)) (hj : j.toNatClampNeg = jn') (hin : vp_in j n) (hdg : decode cc pc = .ok (.iastore, 1))
    (kk : ∀ (H1 : Heap) (locs1 : List Loc), Gw g ad (upE E i (.inl (g.2 0, n, .inl (upd f jn' v)))) b M A s H1 locs1 → W p l e R s m args below meth c H1 locs1 cells slots Q (F0 m (pc + 1) ls rest)) : W p l e R s m args below meth c H locs cells slots Q (F0 m pc ls (.int v :: .int j :: .ref a :: rest)) := by
  subst hj
  obtain ⟨hx, hb, hml, hts, hown, hKK, hN9⟩ := C0
  refine va_iast hx hb hKK w.1 w.2.1 w.2.2.1 (i - b) 0 (n_in w h1 h2 ha he) rfl hin hdg (fun H1 locs1 hP hD hS => ?_)
  rw [← ha, wb_set h1 h2] at hP hD
  exact kk H1 locs1 ⟨hP, hD, hS, w.2.2.2⟩
theorem n_astq (C0 : CxN g p s m args c own cc nL) (w : Gw g ad E b M A s H locs) {i a n jn' t i2 v ci : Nat} {r : vw_C} {vs : List Value} {f : Nat → Option Nat} {j : Int32} (h1 : b ≤ i) (h2 : i < M) (ha : ad i = a) (he : E i = .inl (g.2 t, n, .inr (.inr (.inr (.inr f))))) (ht : (tysG g)[t]? = some (g.2 t, .object r.1)) (h3 : b ≤ i2) (h4 : i2 < M) (hv : ad i2 = v) (hve : E i2 = .inr (ci, vs)) (hc : vwCl[ci]? = some r) (hj : j.toNatClampNeg = jn') (hin : vp_in j n) (hdg : decode cc pc = .ok (.aastore, 1))
    (kk : ∀ (H1 : Heap) (locs1 : List Loc), Gw g ad (upE E i (.inl (g.2 t, n, .inr (.inr (.inr (.inr (va_up f jn' (some v)))))))) b M A s H1 locs1 → W p l e R s m args below meth c H1 locs1 cells slots Q (F0 m (pc + 1) ls rest)) : W p l e R s m args below meth c H locs cells slots Q (F0 m pc ls (.ref v :: .int j :: .ref a :: rest)) := by
  subst hj
  obtain ⟨hx, hb, hml, hts, hown, hKK, hN9⟩ := C0
  refine va_astq hx hb hKK w.1 w.2.1 w.2.2.1 (i - b) t (i2 - b) ci (n_in w h1 h2 ha he) ht (n_in w h3 h4 hv hve) hc hin hdg (fun H1 locs1 hP hD hS => ?_)
  rw [← ha, wb_set h1 h2] at hP hD
  exact kk H1 locs1 ⟨hP, hD, hS, w.2.2.2⟩
theorem n_obj (C0 : CxN g p s m args c own cc nL) (hls : ls.size = nL) {idx a : Nat} (hlink : Cond.methodLink own idx objectInit ∈ tb_G) (hdg : decode cc pc = .ok (.invokespecial idx, 3)) (hR : 1 ≤ R.frames) (hR2 : 12 ≤ R.locals)
    (kk : W p l e R s m args below meth c H locs cells slots Q (F0 m (pc + 3) ls [])) : W p l e R s m args below meth c H locs cells slots Q (F0 m pc ls [.ref a]) := by
  obtain ⟨hx, hb, hml, hts, hown, hKK, hN9⟩ := C0
  refine W.objInit hx hb hown (hts _ hlink) (hts _ oi_inst) (hts _ oi_code) rfl (by rw [hml]; exact hls) rfl hdg hR hR2 ?_
  exact W.eq (g2 := F0 m (pc + 3) ls []) rfl kk
end GR

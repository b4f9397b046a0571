/-! THE ROWS over that world -/
abbrev tysG (g : Gv) : List (ClassId × FieldType) := [(g.2 0, .int), (g.2 1, .boolean), (g.2 2, .char), (g.2 3, .object "StairBows$Person"), (g.2 4, .object "StairBows$Staircase")]
abbrev nwS : Cond := .methodLinkNest "StairBows$Staircase" 52 ⟨"StairBows", "isStep", "(I)Z"⟩ "StairBows"
def bz (v : Int32) : Prop := v = 0 ∨ v = 1
theorem bz_narrow {v : Int32} (h : bz v) : narrow .boolean (.int v) = .int v := by rcases h with rfl | rfl <;> rfl
theorem bz_fits {v : Int32} (h : bz v) : fits .boolean (.int v) = true := by rcases h with rfl | rfl <;> rfl
theorem bz_nar {v : Int32} (h : bz v) : vp_nar .boolean v = v := by rcases h with rfl | rfl <;> rfl
def firstV (k : Nat) : Int32 := if k = 0 then 2 else if k = 1 then 1 else 0
def leastV (k : Nat) : Int32 := if k = 0 then 1 else if k = 1 then 1 else 0
def greatV (k : Nat) : Int32 := if k = 0 then 4 else if k = 1 then 5 else 9
def Stt (A : Nat → Prop) (U : State) (H : Heap) : Prop := ∃ tF tL tG : Nat,
  (va_Z "StairBows" "FIRST_VALUE" "[I" (.ref tF) A U H ∧ va_T .int tF 3 (fun k => .int (firstV k)) A U H) ∧
  (va_Z "StairBows" "LEAST_VALUE" "[I" (.ref tL) A U H ∧ va_T .int tL 3 (fun k => .int (leastV k)) A U H) ∧
  (va_Z "StairBows" "GREATEST_VALUE" "[I" (.ref tG) A U H ∧ va_T .int tG 3 (fun k => .int (greatV k)) A U H)
theorem Stt.moved {A : Nat → Prop} {u U : State} {H : Heap} (hvm : u.vm.Alike U.vm) (h : Stt A u H) : Stt A U H := by
  obtain ⟨a, b, c, ⟨h1, h2⟩, ⟨h3, h4⟩, ⟨h5, h6⟩⟩ := h
  exact ⟨a, b, c, ⟨h1.moved hvm, h2.moved hvm⟩, ⟨h3.moved hvm, h4.moved hvm⟩, ⟨h5.moved hvm, h6.moved hvm⟩⟩
theorem Stt.kept {A : Nat → Prop} {U : State} {H H1 : Heap} (h : Stt A U H) (hq : ∀ a : Nat, a < H.size → ¬ A a → H1[a]? = H[a]?) : Stt A U H1 := by
  obtain ⟨a, b, c, ⟨h1, h2⟩, ⟨h3, h4⟩, ⟨h5, h6⟩⟩ := h
  exact ⟨a, b, c, ⟨h1.kept hq, h2.kept hq⟩, ⟨h3.kept hq, h4.kept hq⟩, ⟨h5.kept hq, h6.kept hq⟩⟩
theorem Stt.narrow {A B : Nat → Prop} {U : State} {H : Heap} (h : Stt A U H) (hAB : ∀ q, B q → A q) : Stt B U H := by
  obtain ⟨a, b, c, ⟨h1, h2⟩, ⟨h3, h4⟩, ⟨h5, h6⟩⟩ := h
  exact ⟨a, b, c, ⟨h1.narrow hAB, h2.narrow hAB⟩, ⟨h3.narrow hAB, h4.narrow hAB⟩, ⟨h5.narrow hAB, h6.narrow hAB⟩⟩
def Pre (g : Gv) (ad : Nat → Nat) (μ : Mem) (sz : Nat) (av : List Value) : Array Value → State → Prop :=
  va_Pc av (fun U => U.heap.size = sz ∧ va_P g.1 vwCl (wl g ad μ) U.heap ∧ va_K g.1 vwCl (tysG g) U ∧ va_D (fun _ => True) (wl g ad μ) ∧ va_Nw nwS U ∧ Stt (Aw ad sz) U U.heap)
def PostI (g : Gv) (ad : Nat → Nat) (sz : Nat) (K : Int32 → Mem → Prop) : Array Value → State → Outcome → State → Prop :=
  va_Qi K (fun μ' t => va_P g.1 vwCl (wl g ad μ') t.heap) (Aw ad sz)
def PostV (g : Gv) (ad : Nat → Nat) (sz : Nat) (K : Mem → Prop) : Array Value → State → Outcome → State → Prop :=
  va_Qv K (fun μ' t => va_P g.1 vwCl (wl g ad μ') t.heap) (Aw ad sz)
def PostR (g : Gv) (ad : Nat → Nat) (sz : Nat) (K : Option Nat → Mem → Prop) : Array Value → State → Outcome → State → Prop :=
  va_Qe ad (fun r μ' => (∀ q, r = some q → kd q = 13) ∧ K r μ') (fun μ' t => va_P g.1 vwCl (wl g ad μ') t.heap) (Aw ad sz)
/-- what stays through a method -/
def Cx (g : Gv) (p : Program) (s : State) (m : MethodId) (args : Array Value) (meth : Method) (c : Code) (own : String) (cc : ByteArray) (nL : Nat) (ret : Option FieldType) : Prop :=
  p.tables.exec = Jvm.exec ∧ c.code = cc ∧ c.maxLocals = nL ∧ meth.sig.returnType = ret ∧ (∀ w ∈ tb_G, w.before args s = true) ∧ s.vm.findClass own = some m.cls ∧ meth.locks = false ∧ va_K g.1 vwCl (tysG g) s ∧ va_Nw nwS s
/-- the world at a heap -/
def Wd (g : Gv) (ad : Nat → Nat) (μ : Mem) (A : Nat → Prop) (s : State) (H : Heap) (locs : List Loc) : Prop :=
  va_P g.1 vwCl (wl g ad μ) H ∧ va_D A (wl g ad μ) ∧ va_S A s.heap H locs ∧ (∀ q, s.heap.size ≤ q → A q) ∧ Stt A s s.heap
theorem wl_ad {g : Gv} {ad : Nat → Nat} {μ : Mem} {k : Nat} {q : Nat × va_E} (h : (wl g ad μ)[k]? = some q) : k < 287 ∧ q = (ad k, lay g ad μ k) := by
  have hl := (List.getElem?_eq_some_iff.mp h).1
  rw [wl_len] at hl
  refine ⟨hl, ?_⟩
  simp [wl, hl] at h
  exact h.symm
theorem wl_get {g : Gv} {ad : Nat → Nat} {μ : Mem} {k : Nat} (h : k < 287) : (wl g ad μ)[k]? = some (ad k, lay g ad μ k) := by simp [wl, h]
theorem wl_D {g : Gv} {ad : Nat → Nat} {μ : Mem} {A : Nat → Prop} (μ' : Mem) (h : va_D A (wl g ad μ)) : va_D A (wl g ad μ') := by
  refine ⟨fun i j x y hi hj hxy => ?_, fun k q hk => ?_⟩
  · obtain ⟨a1, b1⟩ := wl_ad hi
    obtain ⟨a2, b2⟩ := wl_ad hj
    subst b1; subst b2
    exact h.1 i j _ _ (wl_get a1) (wl_get a2) hxy
  · obtain ⟨a1, b1⟩ := wl_ad hk
    subst b1
    exact h.2 k (ad k, lay g ad μ k) (wl_get a1)
theorem wl_A {g : Gv} {ad : Nat → Nat} {μ : Mem} {A : Nat → Prop} {s : State} {H : Heap} {locs : List Loc} (w : Wd g ad μ A s H locs) : ∀ q, Aw ad H.size q → A q := by
  intro q h
  rcases h with ⟨i, hi, rfl⟩ | h
  · exact w.2.1.2 i _ (wl_get hi)
  · exact w.2.2.2.1 q (Nat.le_trans w.2.2.1.1 h)
theorem pre_blind (g : Gv) (ad : Nat → Nat) (μ : Mem) (sz : Nat) (av : List Value) : FrameBlind (Pre g ad μ sz av) := by
  intro a U f mk h
  obtain ⟨h1, h2, h3, h4, h5, h6, h7⟩ := h
  exact ⟨h1, h2, h3, va_K.moved (u := U) (U := U.calling f mk a) (Vm.Alike.refl U.vm) h4, h5, va_Nw.same (u := U) (U := U.calling f mk a) rfl rfl h6, Stt.moved (u := U) (U := U.calling f mk a) (Vm.Alike.refl U.vm) h7⟩
theorem x_pre {g : Gv} {p : Program} {s : State} {m : MethodId} {args : Array Value} {meth : Method} {c : Code} {own : String} {cc : ByteArray} {nL : Nat} {ret : Option FieldType} {ad : Nat → Nat} {μ : Mem} {A : Nat → Prop} {H : Heap} {locs : List Loc} (C : Cx g p s m args meth c own cc nL ret) (w : Wd g ad μ A s H locs) (av : List Value) : ∀ U : State, U.heap = H → s.WarmedH U.vm → Pre g ad μ H.size av av.toArray U := by
  intro U hU hW
  obtain ⟨hx, hb, hml, hr, hts, hown, hlocks, hK, hN⟩ := C
  exact ⟨rfl, by rw [hU], by rw [hU]; exact w.1, va_K.moved hW.alike hK, w.2.1.weaken (fun _ _ _ _ => trivial), hN.warmM hW, by rw [hU]; exact ((w.2.2.2.2.kept (fun a h1 h2 => w.2.2.1.2.1 a h1 h2)).narrow (wl_A w)).moved hW.alike⟩
theorem x_start {g : Gv} {ad : Nat → Nat} {μ : Mem} {sz : Nat} {av : List Value} {p : Program} {l : Launch} {y : MethodName} {cc : ByteArray} {nL : Nat} {ret : Option FieldType} {rm : Room} {e : Env} {s : State} {m : MethodId} {args : Array Value} {below : List Frame} {meth : Method} {c : Code} {s₁ : State}
    (B : BodyLoose p l y (headSpec (wX y cc nL ret) rm) cc nL ret e s m args below meth c s₁) (hml : c.maxLocals = nL) (hv : Pre g ad μ sz av args s) : args = av.toArray ∧ s.heap.size = sz ∧ Cx g p s m args meth c y.cls cc nL ret ∧ Wd g ad μ (Aw ad s.heap.size) s s.heap [] := by
  obtain ⟨h1, h2, h3, h4, h5, h6, h7⟩ := hv
  have hts := atoms_spec (ws := wX y cc nL ret) B.pre
  refine ⟨h1, h2, ⟨B.exec, B.bytes, hml, B.returns, fun w hw => hts w (List.mem_cons_of_mem _ hw), findClass_of_methodNamed B.named, B.notSynchronized, h4, h6⟩, h3, ⟨h5.1, fun k q hk => ?_⟩, va_S.rf, fun q hq => Or.inr hq, by rw [h2]; exact h7⟩
  obtain ⟨a1, b1⟩ := wl_ad hk
  subst b1
  exact Or.inl ⟨k, a1, rfl⟩
theorem fsK_at (ad : Nat → Nat) (K i : Nat) (f : Nat → Int32) {k : Nat} (hk : k < nfK K) : (fsK ad K i f)[k]? = some (fvl ad K i k (f k)) := by simp [fsK, hk]
theorem fsK_len (ad : Nat → Nat) (K i : Nat) (f : Nat → Int32) : (fsK ad K i f).length = nfK K := by simp [fsK]
theorem fsK_set (ad : Nat → Nat) (K i : Nat) (f : Nat → Int32) {k : Nat} (v : Int32) (hr : fr K i k = none) : (fsK ad K i f).set k (.int v) = fsK ad K i (upd f k v) := by
  apply List.ext_getElem?
  intro j
  by_cases hj : j = k
  · subst hj
    by_cases hl : j < nfK K
    · rw [List.getElem?_set_self (by rw [fsK_len]; exact hl), fsK_at _ _ _ _ hl]
      simp [fvl, hr, upd]
    · simp [fsK, hl]
  · rw [List.getElem?_set_ne (Ne.symm hj)]
    by_cases hl : j < nfK K
    · rw [fsK_at _ _ _ _ hl, fsK_at _ _ _ _ hl]
      simp [upd, hj]
    · simp [fsK, hl]
theorem Wd_up {g : Gv} {ad : Nat → Nat} {μ μ' : Mem} {A : Nat → Prop} {s : State} {H1 : Heap} {locs1 : List Loc} {i : Nat} {e : va_E} (hA : (∀ q, s.heap.size ≤ q → A q) ∧ Stt A s s.heap) (he : lay g ad μ' i = e) (hne : ∀ j, j ≠ i → μ' j = μ j) (hP : va_P g.1 vwCl ((wl g ad μ).set i (ad i, e)) H1) (hD : va_D A ((wl g ad μ).set i (ad i, e))) (hS : va_S A s.heap H1 locs1) : Wd g ad μ' A s H1 locs1 := by
  rw [wl_set g ad μ μ' he hne] at hP hD
  exact ⟨hP, hD, hS, hA⟩
section XR
variable {g : Gv} {ad : Nat → Nat} {μ : Mem} {A : Nat → Prop} {own : String} {cc : ByteArray} {nL : Nat} {ret : Option FieldType}
variable {p : Program} {l : Launch} {e : Env} {R : Room} {s : State} {m : MethodId} {args : Array Value} {below : List Frame} {meth : Method} {c : Code} {H : Heap} {locs : List Loc} {cells slots : Nat} {Q : State → Prop}
variable {pc : Nat} {ls : Array Slot} {rest : List Value}
theorem x_get (C0 : Cx g p s m args meth c own cc nL ret) (w : Wd g ad μ A s H locs) {i K ci k N : Nat} {C ref : String} {T : u_T} {index : Nat} {v : Value} (hk : kd i = K) (hK : K < 99) (hal : cellK g ad K i (μ i) = .inr (ci, fsK ad K i (μ i))) (hin : ∀ w ∈ u_ws C T N, w ∈ tb_G) (hc : vwCl[ci]? = some (C, T, N)) (hkN : k < N) (hkK : k < nfK K) (hv : fvl ad K i k (μ i k) = v) (hlink : Cond.fieldLink own index ref (T k).2.1 (T k).2.2.1 ∈ tb_G) (hsame : (T k).1 = ref) (hdg : decode cc pc = .ok (.getfield index, 3))
    (kk : W p l e R s m args below meth c H locs cells slots Q (F0 m (pc + 3) ls (v :: rest))) : W p l e R s m args below meth c H locs cells slots Q (F0 m pc ls (.ref (ad i) :: rest)) := by
  obtain ⟨hx, hb, hml, hr, hts, hown, hlocks, hKK, hN⟩ := C0
  subst hv
  subst hsame
  exact va_get hx hb hts hin hown hKK w.1 i ((wl_at g ad μ hk hK).trans (congrArg (fun e => some (ad i, e)) hal)) hc k hkN (hts _ hlink) (fun _ h => h) (fsK_at ad K i (μ i) hkK) hdg kk
theorem x_put (C0 : Cx g p s m args meth c own cc nL ret) (w : Wd g ad μ A s H locs) {i K ci k N : Nat} {C ref : String} {T : u_T} {index : Nat} {v : Int32} {ty : FieldType} (hk : kd i = K) (hK : K < 99) (hal : ∀ f, cellK g ad K i f = .inr (ci, fsK ad K i f)) (hin : ∀ w ∈ u_ws C T N, w ∈ tb_G) (ty0 : Nat → FieldType) (hty : ∀ k, k < N → parseFieldDescriptor (T k).2.2.1 = some (ty0 k)) (hnm : ∀ a, a < N → ∀ b, b < N → a ≠ b → (T a).2.1 ≠ (T b).2.1) (hc : vwCl[ci]? = some (C, T, N)) (hkN : k < N) (hkK : k < nfK K) (hr0 : fr K i k = none) (hlink : Cond.fieldLink own index ref (T k).2.1 (T k).2.2.1 ∈ tb_G) (hsame : (T k).1 = ref) (hfin : (T k).2.2.2 = false) (hd : ty0 k = ty) (hn : narrow ty (.int v) = .int v) (hfit : fits ty (.int v) = true) (hdg : decode cc pc = .ok (.putfield index, 3))
    (kk : ∀ μ', μ' = up2 μ i k v → ∀ (H1 : Heap) (locs1 : List Loc), Wd g ad μ' A s H1 locs1 → W p l e R s m args below meth c H1 locs1 cells slots Q (F0 m (pc + 3) ls rest)) : W p l e R s m args below meth c H locs cells slots Q (F0 m pc ls (.int v :: .ref (ad i) :: rest)) := by
  obtain ⟨hx, hb, hml, hr, hts, hown, hlocks, hKK, hN⟩ := C0
  subst hsame
  refine va_put hx hb hts hin ty0 hty hnm hown hKK w.1 w.2.1 w.2.2.1 i ((wl_at g ad μ hk hK).trans (congrArg (fun e => some (ad i, e)) (hal _))) hc k hkN (hts _ hlink) (fun _ h => h) hfin ((hty k hkN).trans (congrArg some hd)) hn hfit (by rw [fsK_len]; exact hkK) hdg (fun H1 locs1 hP hD hS => kk _ rfl H1 locs1 ?_)
  refine Wd_up w.2.2.2 ?_ (fun j hj => up2_ne μ i k v hj) hP hD hS
  show cellK g ad (kd i) i (up2 μ i k v i) = _
  rw [hk, up2_row, hal, fsK_set ad K i (μ i) v hr0]
theorem x_getP (C0 : Cx g p s m args meth c own cc nL ret) (w : Wd g ad μ A s H locs) {i k : Nat} {index : Nat} (hk : kd i = 13) (hkN : k < 10) (hlink : Cond.fieldLink own index (TX2 k).1 (TX2 k).2.1 (TX2 k).2.2.1 ∈ tb_G) (hdg : decode cc pc = .ok (.getfield index, 3))
    (kk : W p l e R s m args below meth c H locs cells slots Q (F0 m (pc + 3) ls (.int (μ i k) :: rest))) : W p l e R s m args below meth c H locs cells slots Q (F0 m pc ls (.ref (ad i) :: rest)) :=
  x_get C0 w (C := RX2) (T := TX2) (N := 10) (ci := 2) hk (by decide) rfl iX2 rfl hkN hkN rfl hlink rfl hdg kk
theorem x_putP (C0 : Cx g p s m args meth c own cc nL ret) (w : Wd g ad μ A s H locs) {i k : Nat} {index : Nat} {v : Int32} {ty : FieldType} (hk : kd i = 13) (hkN : k < 10) (hlink : Cond.fieldLink own index (TX2 k).1 (TX2 k).2.1 (TX2 k).2.2.1 ∈ tb_G) (hfin : (TX2 k).2.2.2 = false) (hd : tyX2 k = ty) (hn : narrow ty (.int v) = .int v) (hfit : fits ty (.int v) = true) (hdg : decode cc pc = .ok (.putfield index, 3))
    (kk : ∀ μ', μ' = up2 μ i k v → ∀ (H1 : Heap) (locs1 : List Loc), Wd g ad μ' A s H1 locs1 → W p l e R s m args below meth c H1 locs1 cells slots Q (F0 m (pc + 3) ls rest)) : W p l e R s m args below meth c H locs cells slots Q (F0 m pc ls (.int v :: .ref (ad i) :: rest)) :=
  x_put C0 w (C := RX2) (T := TX2) (N := 10) (ci := 2) hk (by decide) (fun _ => rfl) iX2 tyX2 tyX2_ok nmX2 rfl hkN hkN rfl hlink rfl hfin hd hn hfit hdg kk
theorem x_getS (C0 : Cx g p s m args meth c own cc nL ret) (w : Wd g ad μ A s H locs) {i k : Nat} {index : Nat} {v : Value} (hk : kd i = 9) (hkN : k < 6) (hv : fvl ad 9 i k (μ i k) = v) (hlink : Cond.fieldLink own index (TX3 k).1 (TX3 k).2.1 (TX3 k).2.2.1 ∈ tb_G) (hdg : decode cc pc = .ok (.getfield index, 3))
    (kk : W p l e R s m args below meth c H locs cells slots Q (F0 m (pc + 3) ls (v :: rest))) : W p l e R s m args below meth c H locs cells slots Q (F0 m pc ls (.ref (ad i) :: rest)) :=
  x_get C0 w (C := RX3) (T := TX3) (N := 6) (ci := 3) hk (by decide) rfl iX3 rfl hkN hkN hv hlink rfl hdg kk
theorem x_putS (C0 : Cx g p s m args meth c own cc nL ret) (w : Wd g ad μ A s H locs) {i k : Nat} {index : Nat} {v : Int32} (hk : kd i = 9) (hkN : k < 6) (hr0 : fr 9 i k = none) (hlink : Cond.fieldLink own index (TX3 k).1 (TX3 k).2.1 (TX3 k).2.2.1 ∈ tb_G) (hfin : (TX3 k).2.2.2 = false) (hd : tyX3 k = .int) (hdg : decode cc pc = .ok (.putfield index, 3))
    (kk : ∀ μ', μ' = up2 μ i k v → ∀ (H1 : Heap) (locs1 : List Loc), Wd g ad μ' A s H1 locs1 → W p l e R s m args below meth c H1 locs1 cells slots Q (F0 m (pc + 3) ls rest)) : W p l e R s m args below meth c H locs cells slots Q (F0 m pc ls (.int v :: .ref (ad i) :: rest)) :=
  x_put C0 w (C := RX3) (T := TX3) (N := 6) (ci := 3) hk (by decide) (fun _ => rfl) iX3 tyX3 tyX3_ok nmX3 rfl hkN hkN hr0 hlink rfl hfin hd rfl rfl hdg kk
theorem x_getX (C0 : Cx g p s m args meth c own cc nL ret) (w : Wd g ad μ A s H locs) {k : Nat} {index : Nat} {v : Value} (hkN : k < 6) (hv : fvl ad 0 0 k (μ 0 k) = v) (hlink : Cond.fieldLink own index (TX4 k).1 (TX4 k).2.1 (TX4 k).2.2.1 ∈ tb_G) (hdg : decode cc pc = .ok (.getfield index, 3))
    (kk : W p l e R s m args below meth c H locs cells slots Q (F0 m (pc + 3) ls (v :: rest))) : W p l e R s m args below meth c H locs cells slots Q (F0 m pc ls (.ref (ad 0) :: rest)) :=
  x_get C0 w (C := RX4) (T := TX4) (N := 6) (ci := 4) (K := 0) rfl (by decide) rfl iX4 rfl hkN hkN hv hlink rfl hdg kk
theorem x_getH (C0 : Cx g p s m args meth c own cc nL ret) (w : Wd g ad μ A s H locs) {k : Nat} {index : Nat} {v : Value} (hkN : k < 2) (hv : fvl ad 1 57 k (μ 57 k) = v) (hlink : Cond.fieldLink own index (TX0 k).1 (TX0 k).2.1 (TX0 k).2.2.1 ∈ tb_G) (hdg : decode cc pc = .ok (.getfield index, 3))
    (kk : W p l e R s m args below meth c H locs cells slots Q (F0 m (pc + 3) ls (v :: rest))) : W p l e R s m args below meth c H locs cells slots Q (F0 m pc ls (.ref (ad 57) :: rest)) :=
  x_get C0 w (C := RX0) (T := TX0) (N := 2) (ci := 0) (K := 1) rfl (by decide) rfl iX0 rfl hkN hkN hv hlink rfl hdg kk
theorem x_putH (C0 : Cx g p s m args meth c own cc nL ret) (w : Wd g ad μ A s H locs) {index : Nat} {v : Int32} (hlink : Cond.fieldLink own index (TX0 1).1 (TX0 1).2.1 (TX0 1).2.2.1 ∈ tb_G) (hdg : decode cc pc = .ok (.putfield index, 3))
    (kk : ∀ μ', μ' = up2 μ 57 1 v → ∀ (H1 : Heap) (locs1 : List Loc), Wd g ad μ' A s H1 locs1 → W p l e R s m args below meth c H1 locs1 cells slots Q (F0 m (pc + 3) ls rest)) : W p l e R s m args below meth c H locs cells slots Q (F0 m pc ls (.int v :: .ref (ad 57) :: rest)) :=
  x_put C0 w (C := RX0) (T := TX0) (N := 2) (ci := 0) (k := 1) (ty := .int) (K := 1) rfl (by decide) (fun _ => rfl) iX0 tyX0 tyX0_ok nmX0 rfl (by decide) (by decide) rfl hlink rfl rfl rfl rfl rfl hdg kk
theorem x_getD (C0 : Cx g p s m args meth c own cc nL ret) (w : Wd g ad μ A s H locs) {k : Nat} {index : Nat} {v : Value} (hkN : k < 2) (hv : fvl ad 5 229 k (μ 229 k) = v) (hlink : Cond.fieldLink own index (TX1 k).1 (TX1 k).2.1 (TX1 k).2.2.1 ∈ tb_G) (hdg : decode cc pc = .ok (.getfield index, 3))
    (kk : W p l e R s m args below meth c H locs cells slots Q (F0 m (pc + 3) ls (v :: rest))) : W p l e R s m args below meth c H locs cells slots Q (F0 m pc ls (.ref (ad 229) :: rest)) :=
  x_get C0 w (C := RX1) (T := TX1) (N := 2) (ci := 1) (K := 5) rfl (by decide) rfl iX1 rfl hkN hkN hv hlink rfl hdg kk
theorem x_putD (C0 : Cx g p s m args meth c own cc nL ret) (w : Wd g ad μ A s H locs) {index : Nat} {v : Int32} (hlink : Cond.fieldLink own index (TX1 1).1 (TX1 1).2.1 (TX1 1).2.2.1 ∈ tb_G) (hdg : decode cc pc = .ok (.putfield index, 3))
    (kk : ∀ μ', μ' = up2 μ 229 1 v → ∀ (H1 : Heap) (locs1 : List Loc), Wd g ad μ' A s H1 locs1 → W p l e R s m args below meth c H1 locs1 cells slots Q (F0 m (pc + 3) ls rest)) : W p l e R s m args below meth c H locs cells slots Q (F0 m pc ls (.int v :: .ref (ad 229) :: rest)) :=
  x_put C0 w (C := RX1) (T := TX1) (N := 2) (ci := 1) (k := 1) (ty := .int) (K := 5) rfl (by decide) (fun _ => rfl) iX1 tyX1 tyX1_ok nmX1 rfl (by decide) (by decide) rfl hlink rfl rfl rfl rfl rfl hdg kk
theorem x_at (w : Wd g ad μ A s H locs) {i K : Nat} {e : va_E} (hk : kd i = K) (hK : K < 99) (hal : cellK g ad K i (μ i) = e) : (wl g ad μ)[i]? = some (ad i, e) := (wl_at g ad μ hk hK).trans (congrArg (fun e => some (ad i, e)) hal)
theorem x_iald (C0 : Cx g p s m args meth c own cc nL ret) (w : Wd g ad μ A s H locs) {i K n jn : Nat} {j : Int32} (hj : j.toNatClampNeg = jn) (hk : kd i = K) (hK : K < 99) (hal : cellK g ad K i (μ i) = .inl (g.2 0, n, .inl (μ i))) (hin : vp_in j n) (hdg : decode cc pc = .ok (.iaload, 1))
    (kk : W p l e R s m args below meth c H locs cells slots Q (F0 m (pc + 1) ls (.int (μ i jn) :: rest))) : W p l e R s m args below meth c H locs cells slots Q (F0 m pc ls (.int j :: .ref (ad i) :: rest)) := by
  subst hj
  obtain ⟨hx, hb, hml, hr, hts, hown, hlocks, hKK, hN⟩ := C0
  exact va_iald hx hb hKK w.1 i 0 (x_at w hk hK hal) rfl hin hdg kk
theorem x_zald (C0 : Cx g p s m args meth c own cc nL ret) (w : Wd g ad μ A s H locs) {j : Int32} (hin : vp_in j 2) (hdg : decode cc pc = .ok (.baload, 1))
    (kk : W p l e R s m args below meth c H locs cells slots Q (F0 m (pc + 1) ls (.int (μ 228 j.toNatClampNeg) :: rest))) : W p l e R s m args below meth c H locs cells slots Q (F0 m pc ls (.int j :: .ref (ad 228) :: rest)) := by
  obtain ⟨hx, hb, hml, hr, hts, hown, hlocks, hKK, hN⟩ := C0
  exact va_zald hx hb hKK w.1 228 1 (x_at w (K := 4) rfl (by decide) rfl) rfl hin hdg kk
theorem x_cald (C0 : Cx g p s m args meth c own cc nL ret) (w : Wd g ad μ A s H locs) {j : Int32} (hin : vp_in j 60) (hdg : decode cc pc = .ok (.caload, 1))
    (kk : W p l e R s m args below meth c H locs cells slots Q (F0 m (pc + 1) ls (.int (μ 230 j.toNatClampNeg) :: rest))) : W p l e R s m args below meth c H locs cells slots Q (F0 m pc ls (.int j :: .ref (ad 230) :: rest)) := by
  obtain ⟨hx, hb, hml, hr, hts, hown, hlocks, hKK, hN⟩ := C0
  exact va_cald hx hb hKK w.1 230 2 (x_at w (K := 6) rfl (by decide) rfl) rfl hin hdg kk
theorem x_iast (C0 : Cx g p s m args meth c own cc nL ret) (w : Wd g ad μ A s H locs) {i K n jn : Nat} {j v : Int32} (hj : j.toNatClampNeg = jn) (hk : kd i = K) (hK : K < 99) (hal : ∀ f, cellK g ad K i f = .inl (g.2 0, n, .inl f)) (hin : vp_in j n) (hdg : decode cc pc = .ok (.iastore, 1))
    (kk : ∀ μ', μ' = up2 μ i jn v → ∀ (H1 : Heap) (locs1 : List Loc), Wd g ad μ' A s H1 locs1 → W p l e R s m args below meth c H1 locs1 cells slots Q (F0 m (pc + 1) ls rest)) : W p l e R s m args below meth c H locs cells slots Q (F0 m pc ls (.int v :: .int j :: .ref (ad i) :: rest)) := by
  subst hj
  obtain ⟨hx, hb, hml, hr, hts, hown, hlocks, hKK, hN⟩ := C0
  refine va_iast hx hb hKK w.1 w.2.1 w.2.2.1 i 0 (x_at w hk hK (hal _)) rfl hin hdg (fun H1 locs1 hP hD hS => kk _ rfl H1 locs1 ?_)
  refine Wd_up w.2.2.2 ?_ (fun a ha => up2_ne μ i _ v ha) hP hD hS
  show cellK g ad (kd i) i (up2 μ i _ v i) = _
  rw [hk, up2_row, hal]
theorem x_zast (C0 : Cx g p s m args meth c own cc nL ret) (w : Wd g ad μ A s H locs) {j v : Int32} (hv : bz v) (hin : vp_in j 2) (hdg : decode cc pc = .ok (.bastore, 1))
    (kk : ∀ μ', μ' = up2 μ 228 j.toNatClampNeg v → ∀ (H1 : Heap) (locs1 : List Loc), Wd g ad μ' A s H1 locs1 → W p l e R s m args below meth c H1 locs1 cells slots Q (F0 m (pc + 1) ls rest)) : W p l e R s m args below meth c H locs cells slots Q (F0 m pc ls (.int v :: .int j :: .ref (ad 228) :: rest)) := by
  obtain ⟨hx, hb, hml, hr, hts, hown, hlocks, hKK, hN⟩ := C0
  refine va_zast hx hb hKK w.1 w.2.1 w.2.2.1 228 1 (x_at w (K := 4) rfl (by decide) rfl) rfl hin hdg (fun H1 locs1 hP hD hS => kk _ rfl H1 locs1 ?_)
  rw [bz_nar hv] at hP hD
  exact Wd_up w.2.2.2 (by show cellK g ad 4 228 (up2 μ 228 _ v 228) = _; rw [up2_row]; rfl) (fun a ha => up2_ne μ 228 _ v ha) hP hD hS
theorem x_cast (C0 : Cx g p s m args meth c own cc nL ret) (w : Wd g ad μ A s H locs) {j v : Int32} (hin : vp_in j 60) (hdg : decode cc pc = .ok (.castore, 1))
    (kk : ∀ μ', μ' = up2 μ 230 j.toNatClampNeg (vp_nar .char v) → ∀ (H1 : Heap) (locs1 : List Loc), Wd g ad μ' A s H1 locs1 → W p l e R s m args below meth c H1 locs1 cells slots Q (F0 m (pc + 1) ls rest)) : W p l e R s m args below meth c H locs cells slots Q (F0 m pc ls (.int v :: .int j :: .ref (ad 230) :: rest)) := by
  obtain ⟨hx, hb, hml, hr, hts, hown, hlocks, hKK, hN⟩ := C0
  refine va_cast hx hb hKK w.1 w.2.1 w.2.2.1 230 2 (x_at w (K := 6) rfl (by decide) rfl) rfl hin hdg (fun H1 locs1 hP hD hS => kk _ rfl H1 locs1 ?_)
  exact Wd_up w.2.2.2 (by show cellK g ad 6 230 (up2 μ 230 _ _ 230) = _; rw [up2_row]; rfl) (fun a ha => up2_ne μ 230 _ _ ha) hP hD hS
/-- a person out of a staircase's row -/
theorem x_aldP (C0 : Cx g p s m args meth c own cc nL ret) (w : Wd g ad μ A s H locs) {i : Nat} {j : Int32} (hk : kd i = 11) (hin : vp_in j 24) (hdg : decode cc pc = .ok (.aaload, 1))
    (kk : W p l e R s m args below meth c H locs cells slots Q (F0 m (pc + 1) ls (.ref (ad (i + 2 + j.toNatClampNeg)) :: rest))) : W p l e R s m args below meth c H locs cells slots Q (F0 m pc ls (.int j :: .ref (ad i) :: rest)) := by
  obtain ⟨hx, hb, hml, hr, hts, hown, hlocks, hKK, hN⟩ := C0
  exact va_aldq hx hb hKK w.1 i 3 (x_at w hk (by decide) rfl) rfl hin hdg kk
theorem x_aldH (C0 : Cx g p s m args meth c own cc nL ret) (w : Wd g ad μ A s H locs) {jn : Nat} {j : Int32} (hj : j.toNatClampNeg = jn) (hin : vp_in j 6) (hdg : decode cc pc = .ok (.aaload, 1))
    (kk : W p l e R s m args below meth c H locs cells slots Q (F0 m (pc + 1) ls (.ref (ad (59 + 28 * (μ 58 jn).toNatClampNeg)) :: rest))) : W p l e R s m args below meth c H locs cells slots Q (F0 m pc ls (.int j :: .ref (ad 58) :: rest)) := by
  subst hj
  obtain ⟨hx, hb, hml, hr, hts, hown, hlocks, hKK, hN⟩ := C0
  exact va_aldq hx hb hKK w.1 58 4 (x_at w (K := 2) rfl (by decide) rfl) rfl hin hdg kk
theorem x_aldL (C0 : Cx g p s m args meth c own cc nL ret) (w : Wd g ad μ A s H locs) {j : Int32} (hin : vp_in j 2) (hdg : decode cc pc = .ok (.aaload, 1))
    (kk : W p l e R s m args below meth c H locs cells slots Q (F0 m (pc + 1) ls (.ref (ad (231 + 28 * j.toNatClampNeg)) :: rest))) : W p l e R s m args below meth c H locs cells slots Q (F0 m pc ls (.int j :: .ref (ad 227) :: rest)) := by
  obtain ⟨hx, hb, hml, hr, hts, hown, hlocks, hKK, hN⟩ := C0
  exact va_aldq hx hb hKK w.1 227 4 (x_at w (K := 3) rfl (by decide) rfl) rfl hin hdg kk
theorem x_astH (C0 : Cx g p s m args meth c own cc nL ret) (w : Wd g ad μ A s H locs) {jn : Nat} {j v : Int32} (hj : j.toNatClampNeg = jn) (hin : vp_in j 6) (hv : kd (59 + 28 * v.toNatClampNeg) = 9) (hdg : decode cc pc = .ok (.aastore, 1))
    (kk : ∀ μ', μ' = up2 μ 58 jn v → ∀ (H1 : Heap) (locs1 : List Loc), Wd g ad μ' A s H1 locs1 → W p l e R s m args below meth c H1 locs1 cells slots Q (F0 m (pc + 1) ls rest)) : W p l e R s m args below meth c H locs cells slots Q (F0 m pc ls (.ref (ad (59 + 28 * v.toNatClampNeg)) :: .int j :: .ref (ad 58) :: rest)) := by
  subst hj
  obtain ⟨hx, hb, hml, hr, hts, hown, hlocks, hKK, hN⟩ := C0
  refine va_astq hx hb hKK w.1 w.2.1 w.2.2.1 58 4 (59 + 28 * v.toNatClampNeg) 3 (r := (RX3, TX3, 6)) (x_at w (K := 2) rfl (by decide) rfl) rfl (x_at w (e := .inr (3, fsK ad 9 _ (μ _))) hv (by decide) rfl) rfl hin hdg (fun H1 locs1 hP hD hS => kk _ rfl H1 locs1 ?_)
  refine Wd_up w.2.2.2 ?_ (fun a ha => up2_ne μ 58 _ v ha) hP hD hS
  show cellK g ad 2 58 (up2 μ 58 _ v 58) = _
  rw [up2_row]
  show Sum.inl (g.2 4, 6, Sum.inr (Sum.inr (Sum.inr (Sum.inr fun k => some (ad (59 + 28 * (upd (μ 58) j.toNatClampNeg v k).toNatClampNeg)))))) = _
  congr 7
  funext k
  by_cases h : k = j.toNatClampNeg <;> simp [upd, va_up, h]
theorem x_alen (C0 : Cx g p s m args meth c own cc nL ret) (w : Wd g ad μ A s H locs) {i K n : Nat} {v : Int32} (hk : kd i = K) (hK : K < 99) (hal : cellK g ad K i (μ i) = .inl (g.2 0, n, .inl (μ i))) (hv : Int32.ofNat n = v) (hdg : decode cc pc = .ok (.arraylength, 1))
    (kk : W p l e R s m args below meth c H locs cells slots Q (F0 m (pc + 1) ls (.int v :: rest))) : W p l e R s m args below meth c H locs cells slots Q (F0 m pc ls (.ref (ad i) :: rest)) := by
  obtain ⟨hx, hb, hml, hr, hts, hown, hlocks, hKK, hN⟩ := C0
  exact va_alen hx hb hKK w.1 i 0 (x_at w hk hK hal) (ty := .int) rfl hv hdg kk
theorem x_copy (C0 : Cx g p s m args meth c own cc nL ret) (w : Wd g ad μ A s H locs) {i0 i1 K n : Nat} {index : Nat} {v : Int32} (hk0 : kd i0 = K) (hk1 : kd i1 = K) (hK : K < 99) (hal : ∀ i f, cellK g ad K i f = .inl (g.2 0, n, .inl f)) (hv0 : ¬ v < 0) (hv : v.toNatClampNeg = n) (hls : ls.size = nL) (hlink : Cond.methodLink own index arraycopyName ∈ tb_G) (hR : 1 ≤ R.frames) (hlocals : (rest.map fun v => v.category).sum + (nativeFrameWords "java/lang/System" "arraycopy" 5 + 11) ≤ R.locals) (hdg : decode cc pc = .ok (.invokestatic index, 3))
    (kk : ∀ μ', μ' = upR μ i1 (va_cpy (μ i0) (μ i1) 0 0 n) → ∀ (H1 : Heap) (locs1 : List Loc), Wd g ad μ' A s H1 locs1 → W p l e R s m args below meth c H1 locs1 cells slots Q (F0 m (pc + 3) ls rest)) : W p l e R s m args below meth c H locs cells slots Q (F0 m pc ls (.int v :: .int 0 :: .ref (ad i1) :: .int 0 :: .ref (ad i0) :: rest)) := by
  obtain ⟨hx, hb, hml, hr, hts, hown, hlocks, hKK, hN⟩ := C0
  refine va_copyi hx hb (hml.trans hls.symm) hown (hts _ hlink) (hts _ (tb_in 189 (by decide +kernel) rfl)) (hts _ (tb_in 188 (by decide +kernel) rfl)) (hts _ (tb_in 15 (by decide +kernel) rfl)) hKK w.1 w.2.1 w.2.2.1 i0 i1 0 0 (ty := .int) (x_at w hk0 hK (hal _ _)) (x_at w hk1 hK (hal _ _)) rfl rfl rfl (by decide) (by decide) hv0 (by rw [hv]; exact Nat.le_of_eq (Nat.zero_add n)) (by rw [hv]; exact Nat.le_of_eq (Nat.zero_add n)) (fun _ _ => rfl) hR hlocals hdg (fun H1 locs1 hP hD hS => kk _ rfl H1 locs1 ?_)
  rw [hv] at hP hD
  refine Wd_up w.2.2.2 ?_ (fun a ha => upR_ne μ i1 _ ha) hP hD hS
  show cellK g ad (kd i1) i1 (upR μ i1 _ i1) = _
  rw [hk1, upR_row, hal]
  rfl
end XR

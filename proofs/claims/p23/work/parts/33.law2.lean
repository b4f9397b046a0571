/-! TWO STAIRCASES at ad and ad2; and one beside a row of four: rows for the law's methods -/
def Aw2 (ad ad2 : Nat → Nat) (sz : Nat) : Nat → Prop := fun q => Aw ad sz q ∨ Aw ad2 sz q
def Apart (ad ad2 : Nat → Nat) : Prop := ∀ i j, i < 287 → j < 287 → ad i ≠ ad2 j
theorem Apart.symm {ad ad2 : Nat → Nat} (h : Apart ad ad2) : Apart ad2 ad := fun i j hi hj e => h j i hj hi e.symm
def Wd2 (g : Gv) (ad : Nat → Nat) (μ : Mem) (ad2 : Nat → Nat) (μ2 : Mem) (A : Nat → Prop) (s : State) (H : Heap) (locs : List Loc) : Prop := Wd g ad μ A s H locs ∧ Wd g ad2 μ2 A s H locs ∧ Apart ad ad2
theorem Wd_kept {g : Gv} {ad ad2 : Nat → Nat} {μ2 : Mem} {A : Nat → Prop} {s : State} {H H1 : Heap} {locs locs1 : List Loc} (w2 : Wd g ad2 μ2 A s H locs) (hap : Apart ad ad2) (hk1 : ∀ q : Nat, q < H.size → ¬ Aw ad H.size q → H1[q]? = H[q]?) (hS : va_S A s.heap H1 locs1) : Wd g ad2 μ2 A s H1 locs1 := by
  refine ⟨fun k q hk => ?_, w2.2.1, hS, w2.2.2.2⟩
  have h0 := w2.1 k q hk
  refine h0.kept (hk1 q.1 h0.lt (fun z => ?_))
  obtain ⟨hl, rfl⟩ := wl_ad hk
  rcases z with ⟨i, hi, e⟩ | z
  · exact hap i k hi hl e.symm
  · exact absurd h0.lt (Nat.not_lt.mpr z)
def Pre2 (g : Gv) (ad : Nat → Nat) (μ : Mem) (ad2 : Nat → Nat) (μ2 : Mem) (sz : Nat) (av : List Value) : Array Value → State → Prop :=
  va_Pc av (fun U => U.heap.size = sz ∧ va_P g.1 vwCl (wl g ad μ) U.heap ∧ va_K g.1 vwCl (tysG g) U ∧ va_D (fun _ => True) (wl g ad μ) ∧ va_Nw nwS U ∧ Stt (Aw2 ad ad2 sz) U U.heap ∧ va_P g.1 vwCl (wl g ad2 μ2) U.heap ∧ va_D (fun _ => True) (wl g ad2 μ2) ∧ Apart ad ad2)
def Post2 (g : Gv) (ad ad2 : Nat → Nat) (sz : Nat) (K : Int32 → Mem → Mem → Prop) : Array Value → State → Outcome → State → Prop :=
  va_Qi (fun r (m : Mem × Mem) => K r m.1 m.2) (fun m t => va_P g.1 vwCl (wl g ad m.1) t.heap ∧ va_P g.1 vwCl (wl g ad2 m.2) t.heap) (Aw2 ad ad2 sz)
theorem pre2_blind (g : Gv) (ad : Nat → Nat) (μ : Mem) (ad2 : Nat → Nat) (μ2 : Mem) (sz : Nat) (av : List Value) : FrameBlind (Pre2 g ad μ ad2 μ2 sz av) := by
  intro a U f mk h
  obtain ⟨h1, h2, h3, h4, h5, h6, h7, h8⟩ := h
  exact ⟨h1, h2, h3, va_K.moved (u := U) (U := U.calling f mk a) (Vm.Alike.refl U.vm) h4, h5, va_Nw.same (u := U) (U := U.calling f mk a) rfl rfl h6, Stt.moved (u := U) (U := U.calling f mk a) (Vm.Alike.refl U.vm) h7, h8⟩
theorem wl_A2 {g : Gv} {ad ad2 : Nat → Nat} {μ μ2 : Mem} {A : Nat → Prop} {s : State} {H : Heap} {locs : List Loc} (w : Wd2 g ad μ ad2 μ2 A s H locs) : ∀ q, Aw2 ad ad2 H.size q → A q := fun q h => h.elim (wl_A w.1 q) (wl_A w.2.1 q)
theorem x2_pre {g : Gv} {p : Program} {s : State} {m : MethodId} {args : Array Value} {meth : Method} {c : Code} {own : String} {cc : ByteArray} {nL : Nat} {ret : Option FieldType} {ad ad2 : Nat → Nat} {μ μ2 : Mem} {A : Nat → Prop} {H : Heap} {locs : List Loc} (C : Cx g p s m args meth c own cc nL ret) (w : Wd2 g ad μ ad2 μ2 A s H locs) (av : List Value) : ∀ U : State, U.heap = H → s.WarmedH U.vm → Pre2 g ad μ ad2 μ2 H.size av av.toArray U := by
  intro U hU hW
  obtain ⟨hx, hb, hml, hr, hts, hown, hlocks, hK, hN⟩ := C
  exact ⟨rfl, by rw [hU], by rw [hU]; exact w.1.1, va_K.moved hW.alike hK, w.1.2.1.weaken (fun _ _ _ _ => trivial), hN.warmM hW, by rw [hU]; exact ((w.1.2.2.2.2.kept (fun a h1 h2 => w.1.2.2.1.2.1 a h1 h2)).narrow (wl_A2 w)).moved hW.alike, by rw [hU]; exact w.2.1.1, w.2.1.2.1.weaken (fun _ _ _ _ => trivial), w.2.2⟩
theorem x2_start {g : Gv} {ad ad2 : Nat → Nat} {μ μ2 : Mem} {sz : Nat} {av : List Value} {p : Program} {l : Launch} {y : MethodName} {cc : ByteArray} {nL : Nat} {ret : Option FieldType} {rm : Room} {e : Env} {s : State} {m : MethodId} {args : Array Value} {below : List Frame} {meth : Method} {c : Code} {s₁ : State}
    (B : BodyLoose p l y (headSpec (wX y cc nL ret) rm) cc nL ret e s m args below meth c s₁) (hml : c.maxLocals = nL) (hv : Pre2 g ad μ ad2 μ2 sz av args s) : args = av.toArray ∧ s.heap.size = sz ∧ Cx g p s m args meth c y.cls cc nL ret ∧ Wd2 g ad μ ad2 μ2 (Aw2 ad ad2 s.heap.size) s s.heap [] := by
  obtain ⟨h1, h2, h3, h4, h5, h6, h7, h8, h9, h10⟩ := hv
  have hts := atoms_spec (ws := wX y cc nL ret) B.pre
  refine ⟨h1, h2, ⟨B.exec, B.bytes, hml, B.returns, fun w hw => hts w (List.mem_cons_of_mem _ hw), findClass_of_methodNamed B.named, B.notSynchronized, h4, h6⟩, ⟨h3, ⟨h5.1, fun k q hk => ?_⟩, va_S.rf, fun q hq => Or.inl (Or.inr hq), by rw [h2]; exact h7⟩, ⟨h8, ⟨h9.1, fun k q hk => ?_⟩, va_S.rf, fun q hq => Or.inl (Or.inr hq), by rw [h2]; exact h7⟩, h10⟩
  · obtain ⟨a1, b1⟩ := wl_ad hk
    subst b1
    exact Or.inl (Or.inl ⟨k, a1, rfl⟩)
  · obtain ⟨a1, b1⟩ := wl_ad hk
    subst b1
    exact Or.inr (Or.inl ⟨k, a1, rfl⟩)
section X2
variable {g : Gv} {ad ad2 : Nat → Nat} {μ μ2 : Mem} {A : Nat → Prop} {own : String} {cc : ByteArray} {nL : Nat} {ret : Option FieldType}
variable {p : Program} {l : Launch} {e : Env} {R : Room} {s : State} {m : MethodId} {args : Array Value} {below : List Frame} {meth : Method} {c : Code} {H : Heap} {locs : List Loc} {cells slots : Nat} {Q : State → Prop}
variable {pc : Nat} {ls : Array Slot} {rest st : List Value} {y : MethodName} {b : ByteArray} {nY n idx : Nat} {rt : Option FieldType} {rm : Room} {As : List Value}
theorem x2_calli {a : Array Value} {mc ms : Nat} {K' : Int32 → Mem → Prop} (C0 : Cx g p s m args meth c own cc nL ret) (w : Wd2 g ad μ ad2 μ2 A s H locs) (hr : va_Run p l e R s m args below meth c H locs cells slots mc ms (F0 m pc ls st) rest (PostI g ad H.size K' a) (Aw ad H.size))
    (kk : ∀ (r : Int32) (μ' : Mem), K' r μ' → ∀ (H1 : Heap) (locs1 : List Loc), Wd2 g ad μ' ad2 μ2 A s H1 locs1 → W p l e R s m args below meth c H1 locs1 (cells + mc) (slots + ms) Q (F0 m (pc + 3) ls (.int r :: rest))) : W p l e R s m args below meth c H locs cells slots Q (F0 m pc ls st) :=
  va_calli hr w.1.2.2.1 (fun q _ h => wl_A w.1 q h) (wl_A w.1) (fun r u t H1 locs1 ht hvm hw hB hz1 hk1 hS => kk r u hw H1 locs1 ⟨x_back C0 w.1 ht hB hS, Wd_kept w.2.1 w.2.2 hk1 hS, w.2.2⟩)
theorem x2_callip {a : Array Value} {mc ms : Nat} {K' : Int32 → Mem → Prop} (C0 : Cx g p s m args meth c own cc nL ret) (w : Wd2 g ad μ ad2 μ2 A s H locs) (hr : va_Run p l e R s m args below meth c H locs cells slots mc ms (F0 m pc ls st) rest (PostI g ad2 H.size K' a) (Aw ad2 H.size))
    (kk : ∀ (r : Int32) (μ' : Mem), K' r μ' → ∀ (H1 : Heap) (locs1 : List Loc), Wd2 g ad μ ad2 μ' A s H1 locs1 → W p l e R s m args below meth c H1 locs1 (cells + mc) (slots + ms) Q (F0 m (pc + 3) ls (.int r :: rest))) : W p l e R s m args below meth c H locs cells slots Q (F0 m pc ls st) :=
  va_calli hr w.2.1.2.2.1 (fun q _ h => wl_A w.2.1 q h) (wl_A w.2.1) (fun r u t H1 locs1 ht hvm hw hB hz1 hk1 hS => kk r u hw H1 locs1 ⟨Wd_kept w.1 w.2.2.symm hk1 hS, x_back C0 w.2.1 ht hB hS, w.2.2⟩)
theorem x2_runS {Qc : Array Value → State → Outcome → State → Prop} (C0 : Cx g p s m args meth c own cc nL ret) (w : Wd2 g ad μ ad2 μ2 A s H locs) (me : MeS y b nY rt n) (hl : Cond.methodLink own idx y ∈ tb_G)
    (hM : Met l y (wX y b nY rt) rm (Pre2 g ad μ ad2 μ2 H.size As) Qc 0 0 (Aw2 ad ad2 H.size)) (hrm : rm.cells = 0 ∧ rm.slots = 0) (hR : rm.frames + 1 ≤ R.frames ∧ 8 + (nY + 11) + rm.locals ≤ R.locals)
    (hn : As.length = n) (hls : ls.size = nL) (hst : st = As.reverse ++ rest) (hW : (rest.map fun v => v.category).sum ≤ 8) (hdg : decode cc pc = .ok (.invokestatic idx, 3)) (hcs : cells ≤ R.cells ∧ slots ≤ R.slots) :
    va_Run p l e R s m args below meth c H locs cells slots 0 0 (F0 m pc ls st) rest (Qc As.toArray) (Aw2 ad ad2 H.size) := by
  have C1 := C0
  obtain ⟨hx, hb, hml, hr, hts, hown, hlocks, hKK, hN⟩ := C0
  have hg : GoodIn tb_G (va_wsS own idx y (wX y b nY rt)) := by
    refine tb_gi (fun w hw => ?_)
    obtain ⟨h1, h3, h4⟩ := me.1
    rcases List.mem_append.mp hw with h | h
    · simp only [List.mem_cons, List.not_mem_nil, or_false] at h
      rcases h with rfl | rfl | rfl
      · exact hl
      · exact h1
      · exact h3
    · exact tb_wX h4 w h
  exact va_runS ⟨hx, hb, hml, hown, hts⟩ hM (va_cwS n hts hg rfl hrm.1 hrm.2 me.2.2 hR) ⟨pre2_blind g ad μ ad2 μ2 H.size _, x2_pre C1 w _⟩ rfl hn hls hst (lv_room hW) hdg ⟨hcs.1, hcs.2⟩
/-- a static method of one staircase that makes cells -/
theorem x_runSM {Qc : Array Value → State → Outcome → State → Prop} {mc ms : Nat} (C0 : Cx g p s m args meth c own cc nL ret) (w : Wd g ad μ A s H locs) (me : MeS y b nY rt n) (hl : Cond.methodLink own idx y ∈ tb_G)
    (hM : Met l y (wX y b nY rt) rm (Pre g ad μ H.size As) Qc mc ms (Aw ad H.size)) (hrm : rm.cells = mc ∧ rm.slots = ms) (hR : rm.frames + 1 ≤ R.frames ∧ 8 + (nY + 11) + rm.locals ≤ R.locals)
    (hn : As.length = n) (hls : ls.size = nL) (hst : st = As.reverse ++ rest) (hW : (rest.map fun v => v.category).sum ≤ 8) (hdg : decode cc pc = .ok (.invokestatic idx, 3)) (hcs : cells + mc ≤ R.cells ∧ slots + ms ≤ R.slots) :
    va_Run p l e R s m args below meth c H locs cells slots mc ms (F0 m pc ls st) rest (Qc As.toArray) (Aw ad H.size) := by
  have C1 := C0
  obtain ⟨hx, hb, hml, hr, hts, hown, hlocks, hKK, hN⟩ := C0
  have hg : GoodIn tb_G (va_wsS own idx y (wX y b nY rt)) := by
    refine tb_gi (fun w hw => ?_)
    obtain ⟨h1, h3, h4⟩ := me.1
    rcases List.mem_append.mp hw with h | h
    · simp only [List.mem_cons, List.not_mem_nil, or_false] at h
      rcases h with rfl | rfl | rfl
      · exact hl
      · exact h1
      · exact h3
    · exact tb_wX h4 w h
  exact va_runS ⟨hx, hb, hml, hown, hts⟩ hM (va_cwS n hts hg rfl hrm.1 hrm.2 me.2.2 hR) ⟨pre_blind g ad μ H.size _, x_pre C1 w _⟩ rfl hn hls hst (lv_room hW) hdg hcs
theorem x2_calli2 {a : Array Value} {K' : Int32 → Mem → Mem → Prop} (C0 : Cx g p s m args meth c own cc nL ret) (w : Wd2 g ad μ ad2 μ2 A s H locs) (hr : va_Run p l e R s m args below meth c H locs cells slots 0 0 (F0 m pc ls st) rest (Post2 g ad ad2 H.size K' a) (Aw2 ad ad2 H.size))
    (kk : ∀ (r : Int32) (μ' μ2' : Mem), K' r μ' μ2' → ∀ (H1 : Heap) (locs1 : List Loc), Wd2 g ad μ' ad2 μ2' A s H1 locs1 → W p l e R s m args below meth c H1 locs1 cells slots Q (F0 m (pc + 3) ls (.int r :: rest))) : W p l e R s m args below meth c H locs cells slots Q (F0 m pc ls st) :=
  va_calli hr w.1.2.2.1 (fun q _ h => wl_A2 w q h) (wl_A2 w) (fun r u t H1 locs1 ht hvm hw hB hz1 hk1 hS => kk r u.1 u.2 hw H1 locs1 ⟨x_back C0 w.1 ht hB.1 hS, x_back C0 w.2.1 ht hB.2 hS, w.2.2⟩)
theorem x2_zret {K' : Int32 → Mem → Mem → Prop} {v : Int32} (C0 : Cx g p s m args meth c own cc nL (some .boolean)) (w : Wd2 g ad μ ad2 μ2 (Aw2 ad ad2 s.heap.size) s H locs) (hv : bz v) (h : K' v μ μ2) (hdg : decode cc pc = .ok (.ireturn, 1)) : W p l e R s m args below meth c H locs cells slots (MQ below (Post2 g ad ad2 s.heap.size K') args s cells slots (Aw2 ad ad2 s.heap.size)) (F0 m pc ls [.int v]) := by
  obtain ⟨hx, hb, hml, hr, hts, hown, hlocks, hKK, hN⟩ := C0
  exact W.zret (v := v) hx hb hr (bz_narrow hv) (fun t ht hW => ⟨⟨v, (μ, μ2), rfl, h, by show va_P _ _ _ t.heap; rw [ht]; exact w.1.1, by show va_P _ _ _ t.heap; rw [ht]; exact w.2.1.1⟩, w.1.2.2.1.F ht⟩) w.1.2.2.1.2.2 hdg
end X2
/-! beside a row of four -/
def r4 (g : Gv) (q : Nat) (f : Nat → Int32) : va_W := [(q, .inl (g.2 0, 4, .inl f))]
def Wd1 (g : Gv) (ad : Nat → Nat) (μ : Mem) (q : Nat) (f : Nat → Int32) (A : Nat → Prop) (s : State) (H : Heap) (locs : List Loc) : Prop := Wd g ad μ A s H locs ∧ va_P g.1 vwCl (r4 g q f) H ∧ (∀ i, i < 287 → ad i ≠ q) ∧ A q
theorem wl_pre {g : Gv} {ad : Nat → Nat} {μ : Mem} {k : Nat} {x : Nat × va_E} {q : Nat × va_E} (h : (wl g ad μ)[k]? = some x) : (wl g ad μ ++ [q])[k]? = some x := by
  have hl := (List.getElem?_eq_some_iff.mp h).1
  rw [List.getElem?_append_left hl]
  exact h
theorem wl_last {g : Gv} {ad : Nat → Nat} {μ : Mem} {q : Nat × va_E} : (wl g ad μ ++ [q])[287]? = some q := by
  rw [List.getElem?_append_right (by rw [wl_len]; exact Nat.le_refl _), wl_len]
  rfl
theorem Wd1.of {g : Gv} {ad : Nat → Nat} {μ : Mem} {q : Nat} {f : Nat → Int32} {A : Nat → Prop} {s : State} {H : Heap} {locs : List Loc} (hP : va_P g.1 vwCl (wl g ad μ ++ r4 g q f) H) (hD : va_D A (wl g ad μ ++ r4 g q f)) (hS : va_S A s.heap H locs) (hA : (∀ q, s.heap.size ≤ q → A q) ∧ Stt A s s.heap) : Wd1 g ad μ q f A s H locs := by
  refine ⟨⟨fun k x hk => hP k x (wl_pre hk), ⟨fun i j x y hi hj => hD.1 i j x y (wl_pre hi) (wl_pre hj), fun k x hk => hD.2 k x (wl_pre hk)⟩, hS, hA⟩, fun k x hk => ?_, fun i hi e => ?_, hD.2 287 _ wl_last⟩
  · have hl : k < 1 := (List.getElem?_eq_some_iff.mp hk).1
    have : k = 0 := by omega
    subst this
    cases hk
    exact hP 287 _ wl_last
  · have := hD.1 i 287 _ _ (wl_pre (wl_get hi)) wl_last e
    omega
theorem Wd1.D {g : Gv} {ad : Nat → Nat} {μ : Mem} {q : Nat} {f : Nat → Int32} {A : Nat → Prop} {s : State} {H : Heap} {locs : List Loc} (w : Wd1 g ad μ q f A s H locs) : va_D A (wl g ad μ ++ r4 g q f) := by
  refine va_D.app w.1.2.1 ⟨fun i j x y hi hj _ => ?_, fun k x hk => ?_⟩ (fun i j x y hi hj => ?_)
  · have h1 : i < 1 := (List.getElem?_eq_some_iff.mp hi).1
    have h2 : j < 1 := (List.getElem?_eq_some_iff.mp hj).1
    omega
  · have h1 : k < 1 := (List.getElem?_eq_some_iff.mp hk).1
    have : k = 0 := by omega
    subst this
    cases hk
    exact w.2.2.2
  · have h2 : j < 1 := (List.getElem?_eq_some_iff.mp hj).1
    have : j = 0 := by omega
    subst this
    cases hj
    obtain ⟨hl, rfl⟩ := wl_ad hi
    exact w.2.2.1 i hl
section X1
variable {g : Gv} {ad : Nat → Nat} {μ : Mem} {q0 : Nat} {fw : Nat → Int32} {A : Nat → Prop} {own : String} {cc : ByteArray} {nL : Nat} {ret : Option FieldType}
variable {p : Program} {l : Launch} {e : Env} {R : Room} {s : State} {m : MethodId} {args : Array Value} {below : List Frame} {meth : Method} {c : Code} {H : Heap} {locs : List Loc} {cells slots : Nat} {Q : State → Prop}
variable {pc : Nat} {ls : Array Slot} {rest st : List Value}
theorem x1_newa (C0 : Cx g p s m args meth c own cc nL ret) (w : Wd g ad μ A s H locs) (hcs : cells + 1 ≤ R.cells ∧ slots + 4 ≤ R.slots) (hdg : decode cc pc = .ok (.newarray .int, 2))
    (kk : ∀ (q : Nat) (H1 : Heap), Wd1 g ad μ q (fun _ => 0) A s H1 locs → W p l e R s m args below meth c H1 locs (cells + 1) (slots + 4) Q (F0 m (pc + 2) ls (.ref q :: rest))) : W p l e R s m args below meth c H locs cells slots Q (F0 m pc ls (.int 4 :: rest)) := by
  obtain ⟨hx, hb, hml, hr, hts, hown, hlocks, hKK, hN⟩ := C0
  refine va_newa hx hb (hts _ ac_int) (atype := .int) (ty := .int) rfl hKK w.1 w.2.1 w.2.2.1 w.2.2.2.1 (a0 := (4, .inl (fun _ => 0))) (N' := 4) (fun _ => rfl) (by decide) (by decide) (by decide) hcs.1 hcs.2 hdg (fun q cA H1 hK' hP hD hS => ?_)
  have e : cA = g.2 0 := ra_same (hK'.2 5 (cA, .int) rfl).2 (hKK.2 0 _ rfl).2
  subst e
  exact kk q H1 (Wd1.of hP hD hS w.2.2.2)
theorem x1_iald (C0 : Cx g p s m args meth c own cc nL ret) (w : Wd1 g ad μ q0 fw A s H locs) {j : Int32} (hin : vp_in j 4) (hdg : decode cc pc = .ok (.iaload, 1))
    (kk : W p l e R s m args below meth c H locs cells slots Q (F0 m (pc + 1) ls (.int (fw j.toNatClampNeg) :: rest))) : W p l e R s m args below meth c H locs cells slots Q (F0 m pc ls (.int j :: .ref q0 :: rest)) := by
  obtain ⟨hx, hb, hml, hr, hts, hown, hlocks, hKK, hN⟩ := C0
  exact va_iald hx hb hKK w.2.1 0 0 rfl rfl hin hdg kk
theorem x1_iast (C0 : Cx g p s m args meth c own cc nL ret) (w : Wd1 g ad μ q0 fw A s H locs) {j v : Int32} (hin : vp_in j 4) (hdg : decode cc pc = .ok (.iastore, 1))
    (kk : ∀ fw', fw' = upd fw j.toNatClampNeg v → ∀ (H1 : Heap) (locs1 : List Loc), Wd1 g ad μ q0 fw' A s H1 locs1 → W p l e R s m args below meth c H1 locs1 cells slots Q (F0 m (pc + 1) ls rest)) : W p l e R s m args below meth c H locs cells slots Q (F0 m pc ls (.int v :: .int j :: .ref q0 :: rest)) := by
  obtain ⟨hx, hb, hml, hr, hts, hown, hlocks, hKK, hN⟩ := C0
  refine va_iast hx hb hKK (va_P.app w.1.1 w.2.1) w.D w.1.2.2.1 287 0 wl_last rfl hin hdg (fun H1 locs1 hP hD hS => kk _ rfl H1 locs1 ?_)
  have e : (wl g ad μ ++ r4 g q0 fw).set 287 (q0, .inl (g.2 0, 4, .inl (upd fw j.toNatClampNeg v))) = wl g ad μ ++ r4 g q0 (upd fw j.toNatClampNeg v) := by
    rw [List.set_append, if_neg (by rw [wl_len]; omega), wl_len]
    rfl
  rw [e] at hP hD
  exact Wd1.of hP hD hS w.1.2.2.2
theorem x1_calli {a : Array Value} {K' : Int32 → Mem → Prop} (C0 : Cx g p s m args meth c own cc nL ret) (w : Wd1 g ad μ q0 fw A s H locs) (hr : va_Run p l e R s m args below meth c H locs cells slots 0 0 (F0 m pc ls st) rest (PostI g ad H.size K' a) (Aw ad H.size))
    (kk : ∀ (r : Int32) (μ' : Mem), K' r μ' → ∀ (H1 : Heap) (locs1 : List Loc), Wd1 g ad μ' q0 fw A s H1 locs1 → W p l e R s m args below meth c H1 locs1 cells slots Q (F0 m (pc + 3) ls (.int r :: rest))) : W p l e R s m args below meth c H locs cells slots Q (F0 m pc ls st) :=
  va_calli hr w.1.2.2.1 (fun q _ h => wl_A w.1 q h) (wl_A w.1) (fun r u t H1 locs1 ht hvm hw hB hz1 hk1 hS => kk r u hw H1 locs1 ⟨x_back C0 w.1 ht hB hS, fun k x hk => (w.2.1 k x hk).kept (hk1 x.1 (w.2.1 k x hk).lt (fun z => by
    have h1 : k < 1 := (List.getElem?_eq_some_iff.mp hk).1
    have h0 := (w.2.1 k x hk).lt
    have : k = 0 := by omega
    subst this
    cases hk
    rcases z with ⟨i, hi, e⟩ | z
    · exact w.2.2.1 i hi e.symm
    · exact absurd h0 (Nat.not_lt.mpr z))), w.2.2⟩)
theorem x1_zret {K' : Int32 → Mem → Prop} {v : Int32} (C0 : Cx g p s m args meth c own cc nL (some .boolean)) (w : Wd1 g ad μ q0 fw (Aw ad s.heap.size) s H locs) (hv : bz v) (h : K' v μ) (hdg : decode cc pc = .ok (.ireturn, 1)) : W p l e R s m args below meth c H locs cells slots (MQ below (PostI g ad s.heap.size K') args s cells slots (Aw ad s.heap.size)) (F0 m pc ls [.int v]) := x_zret C0 w.1 hv h hdg
end X1

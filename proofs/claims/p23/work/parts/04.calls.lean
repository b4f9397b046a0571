/-! CALLS AND RETURNS over that world -/
def MeV (y : MethodName) (b : ByteArray) (nL : Nat) (rt : Option FieldType) (n : Nat) : Prop :=
  (Cond.instanceMethod y ∈ tb_G ∧ Cond.selects y.cls y y ∈ tb_G ∧ Cond.initialized y.cls ∈ tb_G ∧ Cond.code y b nL rt ∈ tb_G) ∧ y.cls = y.cls ∧ y.cls ≠ "java/lang/invoke/MethodHandle" ∧ y.cls ≠ "java/lang/invoke/VarHandle" ∧ (parseMethodDescriptor y.desc).map (fun d => d.parameters.length) = some n
def MeS (y : MethodName) (b : ByteArray) (nL : Nat) (rt : Option FieldType) (n : Nat) : Prop :=
  (Cond.static y ∈ tb_G ∧ Cond.initialized y.cls ∈ tb_G ∧ Cond.code y b nL rt ∈ tb_G) ∧ y.cls = y.cls ∧ y.cls ≠ "java/lang/invoke/MethodHandle" ∧ y.cls ≠ "java/lang/invoke/VarHandle" ∧ (parseMethodDescriptor y.desc).map (fun d => d.parameters.length) = some n
section XC
variable {g : Gv} {ad : Nat → Nat} {μ : Mem} {A : Nat → Prop} {own : String} {cc : ByteArray} {nL : Nat} {ret : Option FieldType}
variable {p : Program} {l : Launch} {e : Env} {R : Room} {s : State} {m : MethodId} {args : Array Value} {below : List Frame} {meth : Method} {c : Code} {H : Heap} {locs : List Loc} {cells slots : Nat} {Q : State → Prop}
variable {pc : Nat} {ls : Array Slot} {rest st : List Value} {y : MethodName} {b : ByteArray} {nY n idx : Nat} {rt : Option FieldType} {rm : Room} {As : List Value}
theorem x_back (C0 : Cx g p s m args meth c own cc nL ret) (w : Wd g ad μ A s H locs) {μ' : Mem} {t : State} {H1 : Heap} {locs1 : List Loc} (ht : t.heap = H1) (hB : va_P g.1 vwCl (wl g ad μ') t.heap) (hS : va_S A s.heap H1 locs1) : Wd g ad μ' A s H1 locs1 := ⟨by rw [← ht]; exact hB, wl_D μ' w.2.1, hS, w.2.2.2⟩
theorem x_recv (C0 : Cx g p s m args meth c own cc nL ret) (w : Wd g ad μ A s H locs) {i K ci : Nat} {q : vw_C} (hk : kd i = K) (hK : K < 99) (hal : cellK g ad K i (μ i) = .inr (ci, fsK ad K i (μ i))) (hc : vwCl[ci]? = some q) : ∃ cell : Cell, H[ad i]? = some cell ∧ cell.vm.isStatics = false ∧ s.vm.findClass q.1 = some cell.cls := by
  obtain ⟨hx, hb, hml, hr, hts, hown, hlocks, hKK, hN⟩ := C0
  exact va_recv hKK w.1 hc (x_at w hk hK hal)
/-- a virtual call of a method of ours -/
theorem x_runV {Qc : Array Value → State → Outcome → State → Prop} (C0 : Cx g p s m args meth c own cc nL ret) (w : Wd g ad μ A s H locs) {i K ci : Nat} {q : vw_C} (hk : kd i = K) (hK : K < 99) (hal : cellK g ad K i (μ i) = .inr (ci, fsK ad K i (μ i))) (hc : vwCl[ci]? = some q) (hq : q.1 = y.cls) (me : MeV y b nY rt n) (hl : Cond.methodLink own idx y ∈ tb_G)
    (hM : Met l y (wX y b nY rt) rm (Pre g ad μ H.size (.ref (ad i) :: As)) Qc 0 0 (Aw ad H.size)) (hrm : rm.cells = 0 ∧ rm.slots = 0) (hR : rm.frames + 1 ≤ R.frames ∧ 8 + (nY + 11) + rm.locals ≤ R.locals)
    (hn : As.length = n) (hls : ls.size = nL) (hst : st = As.reverse ++ .ref (ad i) :: rest) (hW : (rest.map fun v => v.category).sum ≤ 8) (hdg : decode cc pc = .ok (.invokevirtual idx, 3)) (hcs : cells ≤ R.cells ∧ slots ≤ R.slots) :
    va_Run p l e R s m args below meth c H locs cells slots 0 0 (F0 m pc ls st) rest (Qc (Value.ref (ad i) :: As).toArray) (Aw ad H.size) := by
  have C1 := C0
  obtain ⟨hx, hb, hml, hr, hts, hown, hlocks, hKK, hN⟩ := C0
  have hg : GoodIn tb_G (wsV own idx y.cls y (wX y b nY rt)) := by
    refine tb_gi (fun w hw => ?_)
    obtain ⟨h1, h2, h3, h4⟩ := me.1
    rcases List.mem_append.mp hw with h | h
    · simp only [List.mem_cons, List.not_mem_nil, or_false] at h
      rcases h with rfl | rfl | rfl | rfl
      · exact hl
      · exact h1
      · exact h2
      · exact h3
    · exact tb_wX h4 w h
  exact va_runV ⟨hx, hb, hml, hown, hts⟩ hM (cwV n hts hg rfl hrm.1 hrm.2 me.2 hR) ⟨pre_blind g ad μ H.size _, by rw [← hq]; exact x_recv C1 w hk hK hal hc, x_pre C1 w _⟩ rfl hn hls hst (lv_room hW) hdg ⟨hcs.1, hcs.2⟩
theorem x_runS {Qc : Array Value → State → Outcome → State → Prop} (C0 : Cx g p s m args meth c own cc nL ret) (w : Wd g ad μ A s H locs) (me : MeS y b nY rt n) (hl : Cond.methodLink own idx y ∈ tb_G)
    (hM : Met l y (wX y b nY rt) rm (Pre g ad μ H.size As) Qc 0 0 (Aw ad H.size)) (hrm : rm.cells = 0 ∧ rm.slots = 0) (hR : rm.frames + 1 ≤ R.frames ∧ 8 + (nY + 11) + rm.locals ≤ R.locals)
    (hn : As.length = n) (hls : ls.size = nL) (hst : st = As.reverse ++ rest) (hW : (rest.map fun v => v.category).sum ≤ 8) (hdg : decode cc pc = .ok (.invokestatic idx, 3)) (hcs : cells ≤ R.cells ∧ slots ≤ R.slots) :
    va_Run p l e R s m args below meth c H locs cells slots 0 0 (F0 m pc ls st) rest (Qc As.toArray) (Aw ad H.size) := by
  have C1 := C0
  obtain ⟨hx, hb, hml, hr, hts, hown, hlocks, hKK, hN⟩ := C0
  have hg : GoodIn tb_G (va_wsS own idx y (wX y b nY rt)) := by
    refine tb_gi (fun w hw => ?_)
    obtain ⟨h1, h3, h4⟩ := me.1
    rcases List.mem_append.mp hw with h | h
    · simp only [List.mem_cons, List.not_mem_nil, or_false] at h
      rcases h with rfl | rfl | rfl
      · exact hl
      · exact h1
      · exact h3
    · exact tb_wX h4 w h
  exact va_runS ⟨hx, hb, hml, hown, hts⟩ hM (va_cwS n hts hg rfl hrm.1 hrm.2 me.2.2 hR) ⟨pre_blind g ad μ H.size _, x_pre C1 w _⟩ rfl hn hls hst (lv_room hW) hdg ⟨hcs.1, hcs.2⟩
theorem x_runSN {host : String} {Qc : Array Value → State → Outcome → State → Prop} (C0 : Cx g p s m args meth c own cc nL ret) (w : Wd g ad μ A s H locs) (me : MeS y b nY rt n) (hl : va_Nw (.methodLinkNest own idx y host) s)
    (hM : Met l y (wX y b nY rt) rm (Pre g ad μ H.size As) Qc 0 0 (Aw ad H.size)) (hrm : rm.cells = 0 ∧ rm.slots = 0) (hR : rm.frames + 1 ≤ R.frames ∧ 8 + (nY + 11) + rm.locals ≤ R.locals)
    (hn : As.length = n) (hls : ls.size = nL) (hst : st = As.reverse ++ rest) (hW : (rest.map fun v => v.category).sum ≤ 8) (hdg : decode cc pc = .ok (.invokestatic idx, 3)) (hcs : cells ≤ R.cells ∧ slots ≤ R.slots) :
    va_Run p l e R s m args below meth c H locs cells slots 0 0 (F0 m pc ls st) rest (Qc As.toArray) (Aw ad H.size) := by
  have C1 := C0
  obtain ⟨hx, hb, hml, hr, hts, hown, hlocks, hKK, hN⟩ := C0
  exact va_runSN ⟨hx, hb, hml, hown, hts⟩ hM ⟨va_cnB n hts (tb_gi (tb_wX me.1.2.2)) rfl hrm.1 hrm.2 hl (hts _ me.1.2.1) me.2.2 hR, hts _ me.1.1, trivial⟩ ⟨pre_blind g ad μ H.size _, x_pre C1 w _⟩ rfl hn hls hst (lv_room hW) hdg ⟨hcs.1, hcs.2⟩
theorem x_calli {a : Array Value} {K' : Int32 → Mem → Prop} (C0 : Cx g p s m args meth c own cc nL ret) (w : Wd g ad μ A s H locs) (hr : va_Run p l e R s m args below meth c H locs cells slots 0 0 (F0 m pc ls st) rest (PostI g ad H.size K' a) (Aw ad H.size))
    (kk : ∀ (r : Int32) (μ' : Mem), K' r μ' → ∀ (H1 : Heap) (locs1 : List Loc), Wd g ad μ' A s H1 locs1 → W p l e R s m args below meth c H1 locs1 cells slots Q (F0 m (pc + 3) ls (.int r :: rest))) : W p l e R s m args below meth c H locs cells slots Q (F0 m pc ls st) :=
  va_calli hr w.2.2.1 (fun q _ h => wl_A w q h) (wl_A w) (fun r u t H1 locs1 ht hvm hw hB hz1 hk1 hS => kk r u hw H1 locs1 (x_back C0 w ht hB hS))
theorem x_callv {a : Array Value} {K' : Mem → Prop} (C0 : Cx g p s m args meth c own cc nL ret) (w : Wd g ad μ A s H locs) (hr : va_Run p l e R s m args below meth c H locs cells slots 0 0 (F0 m pc ls st) rest (PostV g ad H.size K' a) (Aw ad H.size))
    (kk : ∀ (μ' : Mem), K' μ' → ∀ (H1 : Heap) (locs1 : List Loc), Wd g ad μ' A s H1 locs1 → W p l e R s m args below meth c H1 locs1 cells slots Q (F0 m (pc + 3) ls rest)) : W p l e R s m args below meth c H locs cells slots Q (F0 m pc ls st) :=
  va_callv hr w.2.2.1 (fun q _ h => wl_A w q h) (wl_A w) (fun u t H1 locs1 ht hvm hw hB hz1 hk1 hS => kk u hw H1 locs1 (x_back C0 w ht hB hS))
theorem x_callr {a : Array Value} {K' : Option Nat → Mem → Prop} (C0 : Cx g p s m args meth c own cc nL ret) (w : Wd g ad μ A s H locs) (hr : va_Run p l e R s m args below meth c H locs cells slots 0 0 (F0 m pc ls st) rest (PostR g ad H.size K' a) (Aw ad H.size))
    (kk : ∀ (r : Option Nat) (μ' : Mem), (∀ q, r = some q → kd q = 13) → K' r μ' → ∀ (H1 : Heap) (locs1 : List Loc), Wd g ad μ' A s H1 locs1 → W p l e R s m args below meth c H1 locs1 cells slots Q (F0 m (pc + 3) ls (va_re ad r :: rest))) : W p l e R s m args below meth c H locs cells slots Q (F0 m pc ls st) :=
  va_calle hr w.2.2.1 (fun q _ h => wl_A w q h) (wl_A w) (fun r u t H1 locs1 ht hvm hw hB hz1 hk1 hS => kk r u hw.1 hw.2 H1 locs1 (x_back C0 w ht hB hS))
theorem x_iret {K' : Int32 → Mem → Prop} {v : Int32} (C0 : Cx g p s m args meth c own cc nL (some .int)) (w : Wd g ad μ (Aw ad s.heap.size) s H locs) (h : K' v μ) (hdg : decode cc pc = .ok (.ireturn, 1)) : W p l e R s m args below meth c H locs cells slots (MQ below (PostI g ad s.heap.size K') args s cells slots (Aw ad s.heap.size)) (F0 m pc ls [.int v]) := by
  obtain ⟨hx, hb, hml, hr, hts, hown, hlocks, hKK, hN⟩ := C0
  exact W.iret (v := v) hx hb hr (fun t ht hW => ⟨⟨v, μ, rfl, h, by show va_P _ _ _ t.heap; rw [ht]; exact w.1⟩, w.2.2.1.F ht⟩) w.2.2.1.2.2 hdg
theorem x_zret {K' : Int32 → Mem → Prop} {v : Int32} (C0 : Cx g p s m args meth c own cc nL (some .boolean)) (w : Wd g ad μ (Aw ad s.heap.size) s H locs) (hv : bz v) (h : K' v μ) (hdg : decode cc pc = .ok (.ireturn, 1)) : W p l e R s m args below meth c H locs cells slots (MQ below (PostI g ad s.heap.size K') args s cells slots (Aw ad s.heap.size)) (F0 m pc ls [.int v]) := by
  obtain ⟨hx, hb, hml, hr, hts, hown, hlocks, hKK, hN⟩ := C0
  exact W.zret (v := v) hx hb hr (bz_narrow hv) (fun t ht hW => ⟨⟨v, μ, rfl, h, by show va_P _ _ _ t.heap; rw [ht]; exact w.1⟩, w.2.2.1.F ht⟩) w.2.2.1.2.2 hdg
theorem x_vret {K' : Mem → Prop} (C0 : Cx g p s m args meth c own cc nL none) (w : Wd g ad μ (Aw ad s.heap.size) s H locs) (h : K' μ) (hdg : decode cc pc = .ok (.return_, 1)) : W p l e R s m args below meth c H locs cells slots (MQ below (PostV g ad s.heap.size K') args s cells slots (Aw ad s.heap.size)) (F0 m pc ls []) := by
  obtain ⟨hx, hb, hml, hr, hts, hown, hlocks, hKK, hN⟩ := C0
  exact W.vret hx hb hr (fun t ht hW => ⟨⟨μ, rfl, h, by show va_P _ _ _ t.heap; rw [ht]; exact w.1⟩, w.2.2.1.F ht⟩) w.2.2.1.2.2 hdg
theorem x_aret {K' : Option Nat → Mem → Prop} {r : Option Nat} {nm : String} (C0 : Cx g p s m args meth c own cc nL (some (.object nm))) (w : Wd g ad μ (Aw ad s.heap.size) s H locs) (hk : ∀ q, r = some q → kd q = 13) (h : K' r μ) (hdg : decode cc pc = .ok (.areturn, 1)) : W p l e R s m args below meth c H locs cells slots (MQ below (PostR g ad s.heap.size K') args s cells slots (Aw ad s.heap.size)) (F0 m pc ls [va_re ad r]) := by
  obtain ⟨hx, hb, hml, hr, hts, hown, hlocks, hKK, hN⟩ := C0
  exact W.aret hx hb hr (Or.inl ⟨_, rfl⟩) (va_re_or ad r) (fun t ht hW => ⟨⟨r, μ, rfl, ⟨hk, h⟩, by show va_P _ _ _ t.heap; rw [ht]; exact w.1⟩, w.2.2.1.F ht⟩) w.2.2.1.2.2 hdg
end XC
/-! kinds -/
theorem kd_S1 : ∀ b, b < 287 → kd b = 9 → kd (b + 1) = 10 ∧ kd (b + 2) = 11 ∧ kd (b + 3) = 12 := by decide +kernel
theorem kd_S2 : ∀ b, b < 287 → kd b = 11 → ∀ j, j < 24 → kd (b + 2 + j) = 13 := by decide +kernel
theorem kS1 {b : Nat} (h : kd b = 9) : kd (b + 1) = 10 := (kd_S1 b (kd_lt h (by decide)) h).1
theorem kS2 {b : Nat} (h : kd b = 9) : kd (b + 2) = 11 := (kd_S1 b (kd_lt h (by decide)) h).2.1
theorem kS3 {b : Nat} (h : kd b = 9) : kd (b + 3) = 12 := (kd_S1 b (kd_lt h (by decide)) h).2.2
theorem vp_lt {j : Int32} {n : Nat} (h : vp_in j n) : j.toNatClampNeg < n := Nat.not_le.mp fun q => h (Or.inr q)
theorem kSP {b : Nat} {j : Int32} (h : kd b = 11) (hj : vp_in j 24) : kd (b + 2 + j.toNatClampNeg) = 13 := kd_S2 b (kd_lt h (by decide)) h _ (vp_lt hj)
theorem kd_H : ∀ j, j < 6 → kd (59 + 28 * j) = 9 := by decide +kernel
theorem kd_L : ∀ j, j < 2 → kd (231 + 28 * j) = 9 := by decide +kernel
section XO
variable {ad : Nat → Nat} {cc : ByteArray} {p : Program} {l : Launch} {e : Env} {R : Room} {s : State} {m : MethodId} {args : Array Value} {below : List Frame} {meth : Method} {c : Code} {H : Heap} {locs : List Loc} {cells slots : Nat} {Q : State → Prop}
variable {pc : Nat} {ls : Array Slot} {rest : List Value} {r : Option Nat}
theorem x_ifnullR (hx : p.tables.exec = Jvm.exec) (hb : c.code = cc) {off : Int} {tgt : Nat} (hdg : decode cc pc = .ok (.ifnull off, 3)) (ht : (pc : Int) + off = (tgt : Int)) (kt : r = none → W p l e R s m args below meth c H locs cells slots Q (F0 m tgt ls rest)) (kf : ∀ q, r = some q → W p l e R s m args below meth c H locs cells slots Q (F0 m (pc + 3) ls rest)) : W p l e R s m args below meth c H locs cells slots Q (F0 m pc ls (va_re ad r :: rest)) := by
  cases r with
  | none => exact lv_ifnullN hx hb hdg ht (kt rfl)
  | some q => exact lv_ifnull hx hb hdg (kf q rfl)
theorem x_ifnonnullR (hx : p.tables.exec = Jvm.exec) (hb : c.code = cc) {off : Int} {tgt : Nat} (hdg : decode cc pc = .ok (.ifnonnull off, 3)) (ht : (pc : Int) + off = (tgt : Int)) (kt : ∀ q, r = some q → W p l e R s m args below meth c H locs cells slots Q (F0 m tgt ls rest)) (kf : r = none → W p l e R s m args below meth c H locs cells slots Q (F0 m (pc + 3) ls rest)) : W p l e R s m args below meth c H locs cells slots Q (F0 m pc ls (va_re ad r :: rest)) := by
  cases r with
  | none => exact lv_ifnonnullN hx hb hdg (kf rfl)
  | some q => exact lv_ifnonnull hx hb hdg ht (kt q rfl)
theorem x_aload_nR (hx : p.tables.exec = Jvm.exec) (hb : c.code = cc) {k : Fin 4} {i : Nat} (hdg : decode cc pc = .ok (.aload_n k, 1)) (hi : (k : Nat) = i) (hl : ls[i]? = some (.val (va_re ad r))) (kk : W p l e R s m args below meth c H locs cells slots Q (F0 m (pc + 1) ls (va_re ad r :: rest))) : W p l e R s m args below meth c H locs cells slots Q (F0 m pc ls rest) := by
  cases r with
  | none => exact lv_aload_nN hx hb hdg hi hl kk
  | some q => exact lv_aload_n hx hb hdg hi hl kk
theorem x_aloadR (hx : p.tables.exec = Jvm.exec) (hb : c.code = cc) {i : Nat} (hdg : decode cc pc = .ok (.aload i, 2)) (hl : ls[i]? = some (.val (va_re ad r))) (kk : W p l e R s m args below meth c H locs cells slots Q (F0 m (pc + 2) ls (va_re ad r :: rest))) : W p l e R s m args below meth c H locs cells slots Q (F0 m pc ls rest) := by
  cases r with
  | none => exact lv_aloadN hx hb hdg hl kk
  | some q => exact lv_aload hx hb hdg hl kk
theorem x_astore_nR (hx : p.tables.exec = Jvm.exec) (hb : c.code = cc) {k : Fin 4} {i nL : Nat} {lv lv' : List (Nat × Value)} (hdg : decode cc pc = .ok (.astore_n k, 1)) (hi : (k : Nat) = i) (h : lv_has ls nL lv) (hn : i < nL) (hl : (i, va_re ad r) :: lv.filter (fun q => !(q.1 == i) && !(q.1 + 1 == i && q.2.category == 2)) = lv') (kk : ∀ ls' : Array Slot, lv_has ls' nL lv' → W p l e R s m args below meth c H locs cells slots Q (F0 m (pc + 1) ls' rest)) : W p l e R s m args below meth c H locs cells slots Q (F0 m pc ls (va_re ad r :: rest)) := by
  cases r with
  | none => exact lv_astore_nN hx hb hdg hi h hn hl kk
  | some q => exact lv_astore_n hx hb hdg hi h hn hl kk
theorem x_astoreR (hx : p.tables.exec = Jvm.exec) (hb : c.code = cc) {i nL : Nat} {lv lv' : List (Nat × Value)} (hdg : decode cc pc = .ok (.astore i, 2)) (h : lv_has ls nL lv) (hn : i < nL) (hl : (i, va_re ad r) :: lv.filter (fun q => !(q.1 == i) && !(q.1 + 1 == i && q.2.category == 2)) = lv') (kk : ∀ ls' : Array Slot, lv_has ls' nL lv' → W p l e R s m args below meth c H locs cells slots Q (F0 m (pc + 2) ls' rest)) : W p l e R s m args below meth c H locs cells slots Q (F0 m pc ls (va_re ad r :: rest)) := by
  cases r with
  | none => exact lv_astoreN hx hb hdg h hn hl kk
  | some q => exact lv_astore hx hb hdg h hn hl kk
end XO
def lsr (x : Int64) (y : Int32) : Int64 := (x.toUInt64 >>> (y.toInt64.toUInt64 &&& Int64.toUInt64 63)).toInt64
def isr (x : Int32) (y : Int32) : Int32 := (x.toUInt32 >>> (y.toUInt32 &&& Int32.toUInt32 31)).toInt32
theorem vp_lit {j : Int32} {n : Nat} (h1 : ¬ j < 0) (h2 : j.toNatClampNeg < n) : vp_in j n := fun h => h.elim h1 (fun q => absurd h2 (Nat.not_lt.mpr q))
theorem mx_static : Cond.static Lib.Math.max.name ∈ tb_G := tb_in 173 (by decide +kernel) rfl
theorem mx_init : Cond.initialized "java/lang/Math" ∈ tb_G := tb_in 14 (by decide +kernel) rfl
theorem mx_code : Cond.code Lib.Math.max.name Lib.Math.max.code 2 (some .int) ∈ tb_G := tb_in 174 (by decide +kernel) rfl

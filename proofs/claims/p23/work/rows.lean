section
-- ===== PART A: goes FIRST, ahead of the names: the tables' words, and 'selects' of the private methods out of them =====
/-- a private method of a class that the tables say can be made, by its rows of tables_1 -/
def lw_okq (q : MethodName × Nat) : Prop := (q.1.cls ≠ "java/lang/invoke/MethodHandle" ∧ q.1.cls ≠ "java/lang/invoke/VarHandle") ∧ Cond.instantiable q.1.cls q.2 ∈ tables_1 ∧ Cond.privateMethod q.1 ∈ tables_1 ∧ Cond.instanceMethod q.1 ∈ tables_1
theorem lw_p0 : lw_okq (⟨"StairBows$History", "dropOldest", "()V"⟩, 2) := ⟨⟨by decide +kernel, by decide +kernel⟩, List.mem_of_getElem? (i := 98) (by decide +kernel), List.mem_of_getElem? (i := 172) (by decide +kernel), List.mem_of_getElem? (i := 173) (by decide +kernel)⟩
theorem lw_p1 : lw_okq (⟨"StairBows", "isPerson", "(I)Z"⟩, 6) := ⟨⟨by decide +kernel, by decide +kernel⟩, List.mem_of_getElem? (i := 10) (by decide +kernel), List.mem_of_getElem? (i := 262) (by decide +kernel), List.mem_of_getElem? (i := 263) (by decide +kernel)⟩
theorem lw_p2 : lw_okq (⟨"StairBows", "tryOut", "(I)I"⟩, 6) := ⟨⟨by decide +kernel, by decide +kernel⟩, List.mem_of_getElem? (i := 10) (by decide +kernel), List.mem_of_getElem? (i := 276) (by decide +kernel), List.mem_of_getElem? (i := 277) (by decide +kernel)⟩
theorem lw_p3 : lw_okq (⟨"StairBows$Staircase", "move", "(LStairBows$Person;)V"⟩, 6) := ⟨⟨by decide +kernel, by decide +kernel⟩, List.mem_of_getElem? (i := 18) (by decide +kernel), List.mem_of_getElem? (i := 289) (by decide +kernel), List.mem_of_getElem? (i := 290) (by decide +kernel)⟩
theorem lw_p4 : lw_okq (⟨"StairBows$Staircase", "bring", "(LStairBows$Person;III)V"⟩, 6) := ⟨⟨by decide +kernel, by decide +kernel⟩, List.mem_of_getElem? (i := 18) (by decide +kernel), List.mem_of_getElem? (i := 297) (by decide +kernel), List.mem_of_getElem? (i := 298) (by decide +kernel)⟩
theorem lw_p5 : lw_okq (⟨"StairBows$Staircase", "isCleared", "(ILStairBows$Person;)Z"⟩, 6) := ⟨⟨by decide +kernel, by decide +kernel⟩, List.mem_of_getElem? (i := 18) (by decide +kernel), List.mem_of_getElem? (i := 302) (by decide +kernel), List.mem_of_getElem? (i := 303) (by decide +kernel)⟩
theorem lw_p6 : lw_okq (⟨"StairBows$Staircase", "yielderOn", "(ILStairBows$Person;)LStairBows$Person;"⟩, 6) := ⟨⟨by decide +kernel, by decide +kernel⟩, List.mem_of_getElem? (i := 18) (by decide +kernel), List.mem_of_getElem? (i := 306) (by decide +kernel), List.mem_of_getElem? (i := 307) (by decide +kernel)⟩
theorem lw_p7 : lw_okq (⟨"StairBows$Pad", "canStandAt", "(I)Z"⟩, 2) := ⟨⟨by decide +kernel, by decide +kernel⟩, List.mem_of_getElem? (i := 115) (by decide +kernel), List.mem_of_getElem? (i := 381) (by decide +kernel), List.mem_of_getElem? (i := 382) (by decide +kernel)⟩
def lw_privs_1 : List (MethodName × Nat) := [(⟨"StairBows$History", "dropOldest", "()V"⟩, 2), (⟨"StairBows", "isPerson", "(I)Z"⟩, 6), (⟨"StairBows", "tryOut", "(I)I"⟩, 6), (⟨"StairBows$Staircase", "move", "(LStairBows$Person;)V"⟩, 6), (⟨"StairBows$Staircase", "bring", "(LStairBows$Person;III)V"⟩, 6), (⟨"StairBows$Staircase", "isCleared", "(ILStairBows$Person;)Z"⟩, 6), (⟨"StairBows$Staircase", "yielderOn", "(ILStairBows$Person;)LStairBows$Person;"⟩, 6), (⟨"StairBows$Pad", "canStandAt", "(I)Z"⟩, 2)]
theorem lw_r1 : ∀ q ∈ lw_privs_1, lw_okq q := List.forall_mem_cons.mpr ⟨lw_p0, List.forall_mem_cons.mpr ⟨lw_p1, List.forall_mem_cons.mpr ⟨lw_p2, List.forall_mem_cons.mpr ⟨lw_p3, List.forall_mem_cons.mpr ⟨lw_p4, List.forall_mem_cons.mpr ⟨lw_p5, List.forall_mem_cons.mpr ⟨lw_p6, List.forall_mem_cons.mpr ⟨lw_p7, fun _ h => absurd h List.not_mem_nil⟩⟩⟩⟩⟩⟩⟩⟩
def lw_privs : List (MethodName × Nat) := lw_privs_1
def lw_tbl : List Cond := k2_sels lw_privs ++ tables_1
theorem lw_privs_ok : ∀ q ∈ lw_privs, lw_okq q := lw_r1
-- ===== end of PART A; then your names; then what follows =====
/-- the words of the tables that hold in whatever state a call comes to -/
def tb_G : List Cond := lw_tbl.filter goodWord
theorem tb_in {w : Cond} (i : Nat) (h : lw_tbl[i]? = some w) (hg : goodWord w = true) : w ∈ tb_G := List.mem_filter.mpr ⟨List.mem_of_getElem? h, hg⟩
theorem tb_sub {w : Cond} (h : w ∈ tb_G) : w ∈ lw_tbl := (List.mem_filter.mp h).1
theorem tb_good {w : Cond} (h : w ∈ tb_G) : goodWord w = true := (List.mem_filter.mp h).2
/-- a method's words: its code, and all of the tables -/
abbrev wX (y : MethodName) (b : ByteArray) (n : Nat) (r : Option FieldType) : List Cond := Cond.code y b n r :: tb_G
theorem tb_gi {ws : List Cond} (h : ∀ w ∈ ws, w ∈ tb_G) : GoodIn tb_G ws := fun w hw => ⟨h w hw, good_of_word (tb_good (h w hw))⟩
theorem tb_wX {y : MethodName} {b : ByteArray} {n : Nat} {r : Option FieldType} (h : Cond.code y b n r ∈ tb_G) : ∀ w ∈ wX y b n r, w ∈ tb_G := fun w hw => (List.mem_cons.mp hw).elim (fun e => e ▸ h) id
end
section
/-! THE WORLD: 287 cells at fixed places; the numbers in them are one function μ of place and slot -/
abbrev Mem : Type := Nat → Nat → Int32
def up2 (μ : Mem) (i k : Nat) (v : Int32) : Mem := fun a => if a = i then upd (μ i) k v else μ a
def upR (μ : Mem) (i : Nat) (f : Nat → Int32) : Mem := fun a => if a = i then f else μ a
theorem up2_row (μ : Mem) (i k : Nat) (v : Int32) : up2 μ i k v i = upd (μ i) k v := by simp [up2]
theorem up2_ne (μ : Mem) (i k : Nat) (v : Int32) {a : Nat} (h : a ≠ i) : up2 μ i k v a = μ a := by simp [up2, h]
theorem upR_row (μ : Mem) (i : Nat) (f : Nat → Int32) : upR μ i f i = f := by simp [upR]
theorem upR_ne (μ : Mem) (i : Nat) (f : Nat → Int32) {a : Nat} (h : a ≠ i) : upR μ i f a = μ a := by simp [upR, h]
/-- the kind of a staircase's cell, by its place in it -/
def ks (o : Nat) : Nat := if o = 0 then 9 else if o = 1 then 10 else if o = 2 then 11 else if o = 3 then 12 else 13
/-- the kind of a cell -/
def kd (i : Nat) : Nat :=
  if i = 0 then 0
  else if i < 57 then ks ((i - 1) % 28)
  else if i = 57 then 1
  else if i = 58 then 2
  else if i < 227 then ks ((i - 59) % 28)
  else if i = 227 then 3
  else if i = 228 then 4
  else if i = 229 then 5
  else if i = 230 then 6
  else if i < 287 then ks ((i - 231) % 28)
  else 99
/-- a field that holds a reference, for good: the place that it refers to -/
def fr (K i k : Nat) : Option Nat :=
  if K = 9 then (if k < 3 then some (i + 1 + k) else none)
  else if K = 0 then some ([1, 29, 57, 227, 228, 229].getD k 0)
  else if K = 1 then (if k = 0 then some 58 else none)
  else if K = 5 then (if k = 0 then some 230 else none)
  else none
def fvl (ad : Nat → Nat) (K i k : Nat) (v : Int32) : Value := match fr K i k with
  | some t => .ref (ad t)
  | none => .int v
def nfK (K : Nat) : Nat := if K = 13 then 10 else if K = 9 then 6 else if K = 0 then 6 else 2
def ciK (K : Nat) : Nat := if K = 13 then 2 else if K = 9 then 3 else if K = 0 then 4 else if K = 5 then 1 else 0
def fsK (ad : Nat → Nat) (K i : Nat) (f : Nat → Int32) : List Value := (List.range (nfK K)).map (fun k => fvl ad K i k (f k))
abbrev Gv : Type := va_G × (Nat → ClassId)
def rfs (f : Nat → Option Nat) : vp_A → vp_A := fun a => (a.1, .inr (.inr (.inr (.inr f))))
def alK (K : Nat) : Nat := if K = 10 then 3 else if K = 12 then 12 else 0
def cellK (g : Gv) (ad : Nat → Nat) (K i : Nat) (f : Nat → Int32) : va_E :=
  if K = 11 then .inl (g.2 3, 24, .inr (.inr (.inr (.inr (fun k => some (ad (i + 2 + k)))))))
  else if K = 2 then .inl (g.2 4, 6, .inr (.inr (.inr (.inr (fun k => some (ad (59 + 28 * (f k).toNatClampNeg)))))))
  else if K = 3 then .inl (g.2 4, 2, .inr (.inr (.inr (.inr (fun k => some (ad (231 + 28 * k)))))))
  else if K = 4 then .inl (g.2 1, 2, .inl f)
  else if K = 6 then .inl (g.2 2, 60, .inl f)
  else if alK K = 0 then .inr (ciK K, fsK ad K i f)
  else .inl (g.2 0, alK K, .inl f)
def lay (g : Gv) (ad : Nat → Nat) (μ : Mem) (i : Nat) : va_E := cellK g ad (kd i) i (μ i)
def wl (g : Gv) (ad : Nat → Nat) (μ : Mem) : va_W := (List.range 287).map (fun i => (ad i, lay g ad μ i))
theorem kd_lt {i K : Nat} (h : kd i = K) (hK : K < 99) : i < 287 := by
  rcases Nat.lt_or_ge i 287 with q | q
  · exact q
  · exfalso
    have : kd i = 99 := by
      unfold kd
      repeat rw [if_neg (by omega)]
    omega
theorem wl_at (g : Gv) (ad : Nat → Nat) (μ : Mem) {i K : Nat} (h : kd i = K) (hK : K < 99) : (wl g ad μ)[i]? = some (ad i, cellK g ad K i (μ i)) := by
  have hi := kd_lt h hK
  subst h
  simp [wl, hi, lay]
theorem wl_len (g : Gv) (ad : Nat → Nat) (μ : Mem) : (wl g ad μ).length = 287 := by simp [wl]
theorem wl_set (g : Gv) (ad : Nat → Nat) (μ μ' : Mem) {i : Nat} {e : va_E} (he : lay g ad μ' i = e) (hne : ∀ j, j ≠ i → μ' j = μ j) : (wl g ad μ).set i (ad i, e) = wl g ad μ' := by
  apply List.ext_getElem?
  intro j
  by_cases hj : j = i
  · subst hj
    by_cases hl : j < 287
    · rw [List.getElem?_set_self (by rw [wl_len]; exact hl)]
      simp [wl, hl, he]
    · simp [wl, hl]
  · rw [List.getElem?_set_ne (Ne.symm hj)]
    by_cases hl : j < 287
    · simp [wl, hl, lay, hne j hj]
    · simp [wl, hl]
/-- the addresses of the world, and what comes behind sz -/
def Aw (ad : Nat → Nat) (sz : Nat) : Nat → Prop := fun q => (∃ i, i < 287 ∧ q = ad i) ∨ sz ≤ q
def RX0 : String := "StairBows$History"
def TX0 : u_T := fun k => match k with
  | 0 => ("StairBows$History", "states", "[LStairBows$Staircase;", true)
  | _ => ("StairBows$History", "size", "I", false)
def RX1 : String := "StairBows$Pad"
def TX1 : u_T := fun k => match k with
  | 0 => ("StairBows$Pad", "signs", "[C", true)
  | _ => ("StairBows$Pad", "length", "I", false)
def RX2 : String := "StairBows$Person"
def TX2 : u_T := fun k => match k with
  | 0 => ("StairBows$Person", "rank", "I", false)
  | 1 => ("StairBows$Person", "goesUp", "Z", false)
  | 2 => ("StairBows$Person", "place", "I", false)
  | 3 => ("StairBows$Person", "at", "I", false)
  | 4 => ("StairBows$Person", "waits", "I", false)
  | 5 => ("StairBows$Person", "yields", "I", false)
  | 6 => ("StairBows$Person", "bows", "I", false)
  | 7 => ("StairBows$Person", "endedAt", "I", false)
  | 8 => ("StairBows$Person", "stayed", "I", false)
  | _ => ("StairBows$Person", "deed", "I", false)
def RX3 : String := "StairBows$Staircase"
def TX3 : u_T := fun k => match k with
  | 0 => ("StairBows$Staircase", "settings", "[I", true)
  | 1 => ("StairBows$Staircase", "people", "[LStairBows$Person;", true)
  | 2 => ("StairBows$Staircase", "crowds", "[I", true)
  | 3 => ("StairBows$Staircase", "landings", "I", false)
  | 4 => ("StairBows$Staircase", "size", "I", false)
  | _ => ("StairBows$Staircase", "ticks", "I", false)
def RX4 : String := "StairBows"
def TX4 : u_T := fun k => match k with
  | 0 => ("StairBows", "now", "LStairBows$Staircase;", true)
  | 1 => ("StairBows", "trial", "LStairBows$Staircase;", true)
  | 2 => ("StairBows", "history", "LStairBows$History;", true)
  | 3 => ("StairBows", "slots", "[LStairBows$Staircase;", true)
  | 4 => ("StairBows", "isSaved", "[Z", true)
  | _ => ("StairBows", "pad", "LStairBows$Pad;", true)
def tyX0 : Nat → FieldType := fun k => match k with
  | 0 => .array (.object "StairBows$Staircase")
  | _ => .int
theorem nmX0 : ∀ a, a < 2 → ∀ b, b < 2 → a ≠ b → (TX0 a).2.1 ≠ (TX0 b).2.1 := by decide +kernel
theorem tyX0_ok : ∀ k, k < 2 → parseFieldDescriptor (TX0 k).2.2.1 = some (tyX0 k) := by decide +kernel
theorem iX0 : ∀ w ∈ u_ws RX0 TX0 2, w ∈ tb_G := fun w hw => List.mem_filter.mpr ((by decide +kernel : ∀ w ∈ u_ws RX0 TX0 2, w ∈ lw_tbl ∧ goodWord w = true) w hw)
def tyX1 : Nat → FieldType := fun k => match k with
  | 0 => .array .char
  | _ => .int
theorem nmX1 : ∀ a, a < 2 → ∀ b, b < 2 → a ≠ b → (TX1 a).2.1 ≠ (TX1 b).2.1 := by decide +kernel
theorem tyX1_ok : ∀ k, k < 2 → parseFieldDescriptor (TX1 k).2.2.1 = some (tyX1 k) := by decide +kernel
theorem iX1 : ∀ w ∈ u_ws RX1 TX1 2, w ∈ tb_G := fun w hw => List.mem_filter.mpr ((by decide +kernel : ∀ w ∈ u_ws RX1 TX1 2, w ∈ lw_tbl ∧ goodWord w = true) w hw)
def tyX2 : Nat → FieldType := fun k => match k with
  | 0 => .int
  | 1 => .boolean
  | 2 => .int
  | 3 => .int
  | 4 => .int
  | 5 => .int
  | 6 => .int
  | 7 => .int
  | 8 => .int
  | _ => .int
theorem nmX2 : ∀ a, a < 10 → ∀ b, b < 10 → a ≠ b → (TX2 a).2.1 ≠ (TX2 b).2.1 := by decide +kernel
theorem tyX2_ok : ∀ k, k < 10 → parseFieldDescriptor (TX2 k).2.2.1 = some (tyX2 k) := by decide +kernel
theorem iX2 : ∀ w ∈ u_ws RX2 TX2 10, w ∈ tb_G := fun w hw => List.mem_filter.mpr ((by decide +kernel : ∀ w ∈ u_ws RX2 TX2 10, w ∈ lw_tbl ∧ goodWord w = true) w hw)
def tyX3 : Nat → FieldType := fun k => match k with
  | 0 => .array .int
  | 1 => .array (.object "StairBows$Person")
  | 2 => .array .int
  | 3 => .int
  | 4 => .int
  | _ => .int
theorem nmX3 : ∀ a, a < 6 → ∀ b, b < 6 → a ≠ b → (TX3 a).2.1 ≠ (TX3 b).2.1 := by decide +kernel
theorem tyX3_ok : ∀ k, k < 6 → parseFieldDescriptor (TX3 k).2.2.1 = some (tyX3 k) := by decide +kernel
theorem iX3 : ∀ w ∈ u_ws RX3 TX3 6, w ∈ tb_G := fun w hw => List.mem_filter.mpr ((by decide +kernel : ∀ w ∈ u_ws RX3 TX3 6, w ∈ lw_tbl ∧ goodWord w = true) w hw)
def tyX4 : Nat → FieldType := fun k => match k with
  | 0 => .object "StairBows$Staircase"
  | 1 => .object "StairBows$Staircase"
  | 2 => .object "StairBows$History"
  | 3 => .array (.object "StairBows$Staircase")
  | 4 => .array .boolean
  | _ => .object "StairBows$Pad"
theorem nmX4 : ∀ a, a < 6 → ∀ b, b < 6 → a ≠ b → (TX4 a).2.1 ≠ (TX4 b).2.1 := by decide +kernel
theorem tyX4_ok : ∀ k, k < 6 → parseFieldDescriptor (TX4 k).2.2.1 = some (tyX4 k) := by decide +kernel
theorem iX4 : ∀ w ∈ u_ws RX4 TX4 6, w ∈ tb_G := fun w hw => List.mem_filter.mpr ((by decide +kernel : ∀ w ∈ u_ws RX4 TX4 6, w ∈ lw_tbl ∧ goodWord w = true) w hw)
abbrev vwCl : List vw_C := [(RX0, TX0, 2), (RX1, TX1, 2), (RX2, TX2, 10), (RX3, TX3, 6), (RX4, TX4, 6)]
end
section
/-! THE ROWS over that world -/
abbrev tysG (g : Gv) : List (ClassId × FieldType) := [(g.2 0, .int), (g.2 1, .boolean), (g.2 2, .char), (g.2 3, .object "StairBows$Person"), (g.2 4, .object "StairBows$Staircase")]
abbrev nwS : Cond := .methodLinkNest "StairBows$Staircase" 52 ⟨"StairBows", "isStep", "(I)Z"⟩ "StairBows"
def bz (v : Int32) : Prop := v = 0 ∨ v = 1
theorem bz_narrow {v : Int32} (h : bz v) : narrow .boolean (.int v) = .int v := by rcases h with rfl | rfl <;> rfl
theorem bz_fits {v : Int32} (h : bz v) : fits .boolean (.int v) = true := by rcases h with rfl | rfl <;> rfl
theorem bz_nar {v : Int32} (h : bz v) : vp_nar .boolean v = v := by rcases h with rfl | rfl <;> rfl
def firstV (k : Nat) : Int32 := if k = 0 then 2 else if k = 1 then 1 else 0
def leastV (k : Nat) : Int32 := if k = 0 then 1 else if k = 1 then 1 else 0
def greatV (k : Nat) : Int32 := if k = 0 then 4 else if k = 1 then 5 else 9
def Stt (A : Nat → Prop) (U : State) (H : Heap) : Prop := ∃ tF tL tG : Nat,
  (va_Z "StairBows" "FIRST_VALUE" "[I" (.ref tF) A U H ∧ va_T .int tF 3 (fun k => .int (firstV k)) A U H) ∧
  (va_Z "StairBows" "LEAST_VALUE" "[I" (.ref tL) A U H ∧ va_T .int tL 3 (fun k => .int (leastV k)) A U H) ∧
  (va_Z "StairBows" "GREATEST_VALUE" "[I" (.ref tG) A U H ∧ va_T .int tG 3 (fun k => .int (greatV k)) A U H)
theorem Stt.moved {A : Nat → Prop} {u U : State} {H : Heap} (hvm : u.vm.Alike U.vm) (h : Stt A u H) : Stt A U H := by
  obtain ⟨a, b, c, ⟨h1, h2⟩, ⟨h3, h4⟩, ⟨h5, h6⟩⟩ := h
  exact ⟨a, b, c, ⟨h1.moved hvm, h2.moved hvm⟩, ⟨h3.moved hvm, h4.moved hvm⟩, ⟨h5.moved hvm, h6.moved hvm⟩⟩
theorem Stt.kept {A : Nat → Prop} {U : State} {H H1 : Heap} (h : Stt A U H) (hq : ∀ a : Nat, a < H.size → ¬ A a → H1[a]? = H[a]?) : Stt A U H1 := by
  obtain ⟨a, b, c, ⟨h1, h2⟩, ⟨h3, h4⟩, ⟨h5, h6⟩⟩ := h
  exact ⟨a, b, c, ⟨h1.kept hq, h2.kept hq⟩, ⟨h3.kept hq, h4.kept hq⟩, ⟨h5.kept hq, h6.kept hq⟩⟩
theorem Stt.narrow {A B : Nat → Prop} {U : State} {H : Heap} (h : Stt A U H) (hAB : ∀ q, B q → A q) : Stt B U H := by
  obtain ⟨a, b, c, ⟨h1, h2⟩, ⟨h3, h4⟩, ⟨h5, h6⟩⟩ := h
  exact ⟨a, b, c, ⟨h1.narrow hAB, h2.narrow hAB⟩, ⟨h3.narrow hAB, h4.narrow hAB⟩, ⟨h5.narrow hAB, h6.narrow hAB⟩⟩
def Pre (g : Gv) (ad : Nat → Nat) (μ : Mem) (sz : Nat) (av : List Value) : Array Value → State → Prop :=
  va_Pc av (fun U => U.heap.size = sz ∧ va_P g.1 vwCl (wl g ad μ) U.heap ∧ va_K g.1 vwCl (tysG g) U ∧ va_D (fun _ => True) (wl g ad μ) ∧ va_Nw nwS U ∧ Stt (Aw ad sz) U U.heap)
def PostI (g : Gv) (ad : Nat → Nat) (sz : Nat) (K : Int32 → Mem → Prop) : Array Value → State → Outcome → State → Prop :=
  va_Qi K (fun μ' t => va_P g.1 vwCl (wl g ad μ') t.heap) (Aw ad sz)
def PostV (g : Gv) (ad : Nat → Nat) (sz : Nat) (K : Mem → Prop) : Array Value → State → Outcome → State → Prop :=
  va_Qv K (fun μ' t => va_P g.1 vwCl (wl g ad μ') t.heap) (Aw ad sz)
def PostR (g : Gv) (ad : Nat → Nat) (sz : Nat) (K : Option Nat → Mem → Prop) : Array Value → State → Outcome → State → Prop :=
  va_Qe ad (fun r μ' => (∀ q, r = some q → kd q = 13) ∧ K r μ') (fun μ' t => va_P g.1 vwCl (wl g ad μ') t.heap) (Aw ad sz)
/-- what stays through a method -/
def Cx (g : Gv) (p : Program) (s : State) (m : MethodId) (args : Array Value) (meth : Method) (c : Code) (own : String) (cc : ByteArray) (nL : Nat) (ret : Option FieldType) : Prop :=
  p.tables.exec = Jvm.exec ∧ c.code = cc ∧ c.maxLocals = nL ∧ meth.sig.returnType = ret ∧ (∀ w ∈ tb_G, w.before args s = true) ∧ s.vm.findClass own = some m.cls ∧ meth.locks = false ∧ va_K g.1 vwCl (tysG g) s ∧ va_Nw nwS s
/-- the world at a heap -/
def Wd (g : Gv) (ad : Nat → Nat) (μ : Mem) (A : Nat → Prop) (s : State) (H : Heap) (locs : List Loc) : Prop :=
  va_P g.1 vwCl (wl g ad μ) H ∧ va_D A (wl g ad μ) ∧ va_S A s.heap H locs ∧ (∀ q, s.heap.size ≤ q → A q) ∧ Stt A s s.heap
theorem wl_ad {g : Gv} {ad : Nat → Nat} {μ : Mem} {k : Nat} {q : Nat × va_E} (h : (wl g ad μ)[k]? = some q) : k < 287 ∧ q = (ad k, lay g ad μ k) := by
  have hl := (List.getElem?_eq_some_iff.mp h).1
  rw [wl_len] at hl
  refine ⟨hl, ?_⟩
  simp [wl, hl] at h
  exact h.symm
theorem wl_get {g : Gv} {ad : Nat → Nat} {μ : Mem} {k : Nat} (h : k < 287) : (wl g ad μ)[k]? = some (ad k, lay g ad μ k) := by simp [wl, h]
theorem wl_D {g : Gv} {ad : Nat → Nat} {μ : Mem} {A : Nat → Prop} (μ' : Mem) (h : va_D A (wl g ad μ)) : va_D A (wl g ad μ') := by
  refine ⟨fun i j x y hi hj hxy => ?_, fun k q hk => ?_⟩
  · obtain ⟨a1, b1⟩ := wl_ad hi
    obtain ⟨a2, b2⟩ := wl_ad hj
    subst b1; subst b2
    exact h.1 i j _ _ (wl_get a1) (wl_get a2) hxy
  · obtain ⟨a1, b1⟩ := wl_ad hk
    subst b1
    exact h.2 k (ad k, lay g ad μ k) (wl_get a1)
theorem wl_A {g : Gv} {ad : Nat → Nat} {μ : Mem} {A : Nat → Prop} {s : State} {H : Heap} {locs : List Loc} (w : Wd g ad μ A s H locs) : ∀ q, Aw ad H.size q → A q := by
  intro q h
  rcases h with ⟨i, hi, rfl⟩ | h
  · exact w.2.1.2 i _ (wl_get hi)
  · exact w.2.2.2.1 q (Nat.le_trans w.2.2.1.1 h)
theorem pre_blind (g : Gv) (ad : Nat → Nat) (μ : Mem) (sz : Nat) (av : List Value) : FrameBlind (Pre g ad μ sz av) := by
  intro a U f mk h
  obtain ⟨h1, h2, h3, h4, h5, h6, h7⟩ := h
  exact ⟨h1, h2, h3, va_K.moved (u := U) (U := U.calling f mk a) (Vm.Alike.refl U.vm) h4, h5, va_Nw.same (u := U) (U := U.calling f mk a) rfl rfl h6, Stt.moved (u := U) (U := U.calling f mk a) (Vm.Alike.refl U.vm) h7⟩
theorem x_pre {g : Gv} {p : Program} {s : State} {m : MethodId} {args : Array Value} {meth : Method} {c : Code} {own : String} {cc : ByteArray} {nL : Nat} {ret : Option FieldType} {ad : Nat → Nat} {μ : Mem} {A : Nat → Prop} {H : Heap} {locs : List Loc} (C : Cx g p s m args meth c own cc nL ret) (w : Wd g ad μ A s H locs) (av : List Value) : ∀ U : State, U.heap = H → s.WarmedH U.vm → Pre g ad μ H.size av av.toArray U := by
  intro U hU hW
  obtain ⟨hx, hb, hml, hr, hts, hown, hlocks, hK, hN⟩ := C
  exact ⟨rfl, by rw [hU], by rw [hU]; exact w.1, va_K.moved hW.alike hK, w.2.1.weaken (fun _ _ _ _ => trivial), hN.warmM hW, by rw [hU]; exact ((w.2.2.2.2.kept (fun a h1 h2 => w.2.2.1.2.1 a h1 h2)).narrow (wl_A w)).moved hW.alike⟩
theorem x_start {g : Gv} {ad : Nat → Nat} {μ : Mem} {sz : Nat} {av : List Value} {p : Program} {l : Launch} {y : MethodName} {cc : ByteArray} {nL : Nat} {ret : Option FieldType} {rm : Room} {e : Env} {s : State} {m : MethodId} {args : Array Value} {below : List Frame} {meth : Method} {c : Code} {s₁ : State}
    (B : BodyLoose p l y (headSpec (wX y cc nL ret) rm) cc nL ret e s m args below meth c s₁) (hml : c.maxLocals = nL) (hv : Pre g ad μ sz av args s) : args = av.toArray ∧ s.heap.size = sz ∧ Cx g p s m args meth c y.cls cc nL ret ∧ Wd g ad μ (Aw ad s.heap.size) s s.heap [] := by
  obtain ⟨h1, h2, h3, h4, h5, h6, h7⟩ := hv
  have hts := atoms_spec (ws := wX y cc nL ret) B.pre
  refine ⟨h1, h2, ⟨B.exec, B.bytes, hml, B.returns, fun w hw => hts w (List.mem_cons_of_mem _ hw), findClass_of_methodNamed B.named, B.notSynchronized, h4, h6⟩, h3, ⟨h5.1, fun k q hk => ?_⟩, va_S.rf, fun q hq => Or.inr hq, by rw [h2]; exact h7⟩
  obtain ⟨a1, b1⟩ := wl_ad hk
  subst b1
  exact Or.inl ⟨k, a1, rfl⟩
theorem fsK_at (ad : Nat → Nat) (K i : Nat) (f : Nat → Int32) {k : Nat} (hk : k < nfK K) : (fsK ad K i f)[k]? = some (fvl ad K i k (f k)) := by simp [fsK, hk]
theorem fsK_len (ad : Nat → Nat) (K i : Nat) (f : Nat → Int32) : (fsK ad K i f).length = nfK K := by simp [fsK]
theorem fsK_set (ad : Nat → Nat) (K i : Nat) (f : Nat → Int32) {k : Nat} (v : Int32) (hr : fr K i k = none) : (fsK ad K i f).set k (.int v) = fsK ad K i (upd f k v) := by
  apply List.ext_getElem?
  intro j
  by_cases hj : j = k
  · subst hj
    by_cases hl : j < nfK K
    · rw [List.getElem?_set_self (by rw [fsK_len]; exact hl), fsK_at _ _ _ _ hl]
      simp [fvl, hr, upd]
    · simp [fsK, hl]
  · rw [List.getElem?_set_ne (Ne.symm hj)]
    by_cases hl : j < nfK K
    · rw [fsK_at _ _ _ _ hl, fsK_at _ _ _ _ hl]
      simp [upd, hj]
    · simp [fsK, hl]
theorem Wd_up {g : Gv} {ad : Nat → Nat} {μ μ' : Mem} {A : Nat → Prop} {s : State} {H1 : Heap} {locs1 : List Loc} {i : Nat} {e : va_E} (hA : (∀ q, s.heap.size ≤ q → A q) ∧ Stt A s s.heap) (he : lay g ad μ' i = e) (hne : ∀ j, j ≠ i → μ' j = μ j) (hP : va_P g.1 vwCl ((wl g ad μ).set i (ad i, e)) H1) (hD : va_D A ((wl g ad μ).set i (ad i, e))) (hS : va_S A s.heap H1 locs1) : Wd g ad μ' A s H1 locs1 := by
  rw [wl_set g ad μ μ' he hne] at hP hD
  exact ⟨hP, hD, hS, hA⟩
section XR
variable {g : Gv} {ad : Nat → Nat} {μ : Mem} {A : Nat → Prop} {own : String} {cc : ByteArray} {nL : Nat} {ret : Option FieldType}
variable {p : Program} {l : Launch} {e : Env} {R : Room} {s : State} {m : MethodId} {args : Array Value} {below : List Frame} {meth : Method} {c : Code} {H : Heap} {locs : List Loc} {cells slots : Nat} {Q : State → Prop}
variable {pc : Nat} {ls : Array Slot} {rest : List Value}
theorem x_get (C0 : Cx g p s m args meth c own cc nL ret) (w : Wd g ad μ A s H locs) {i K ci k N : Nat} {C ref : String} {T : u_T} {index : Nat} {v : Value} (hk : kd i = K) (hK : K < 99) (hal : cellK g ad K i (μ i) = .inr (ci, fsK ad K i (μ i))) (hin : ∀ w ∈ u_ws C T N, w ∈ tb_G) (hc : vwCl[ci]? = some (C, T, N)) (hkN : k < N) (hkK : k < nfK K) (hv : fvl ad K i k (μ i k) = v) (hlink : Cond.fieldLink own index ref (T k).2.1 (T k).2.2.1 ∈ tb_G) (hsame : (T k).1 = ref) (hdg : decode cc pc = .ok (.getfield index, 3))
    (kk : W p l e R s m args below meth c H locs cells slots Q (F0 m (pc + 3) ls (v :: rest))) : W p l e R s m args below meth c H locs cells slots Q (F0 m pc ls (.ref (ad i) :: rest)) := by
  obtain ⟨hx, hb, hml, hr, hts, hown, hlocks, hKK, hN⟩ := C0
  subst hv
  subst hsame
  exact va_get hx hb hts hin hown hKK w.1 i ((wl_at g ad μ hk hK).trans (congrArg (fun e => some (ad i, e)) hal)) hc k hkN (hts _ hlink) (fun _ h => h) (fsK_at ad K i (μ i) hkK) hdg kk
theorem x_put (C0 : Cx g p s m args meth c own cc nL ret) (w : Wd g ad μ A s H locs) {i K ci k N : Nat} {C ref : String} {T : u_T} {index : Nat} {v : Int32} {ty : FieldType} (hk : kd i = K) (hK : K < 99) (hal : ∀ f, cellK g ad K i f = .inr (ci, fsK ad K i f)) (hin : ∀ w ∈ u_ws C T N, w ∈ tb_G) (ty0 : Nat → FieldType) (hty : ∀ k, k < N → parseFieldDescriptor (T k).2.2.1 = some (ty0 k)) (hnm : ∀ a, a < N → ∀ b, b < N → a ≠ b → (T a).2.1 ≠ (T b).2.1) (hc : vwCl[ci]? = some (C, T, N)) (hkN : k < N) (hkK : k < nfK K) (hr0 : fr K i k = none) (hlink : Cond.fieldLink own index ref (T k).2.1 (T k).2.2.1 ∈ tb_G) (hsame : (T k).1 = ref) (hfin : (T k).2.2.2 = false) (hd : ty0 k = ty) (hn : narrow ty (.int v) = .int v) (hfit : fits ty (.int v) = true) (hdg : decode cc pc = .ok (.putfield index, 3))
    (kk : ∀ μ', μ' = up2 μ i k v → ∀ (H1 : Heap) (locs1 : List Loc), Wd g ad μ' A s H1 locs1 → W p l e R s m args below meth c H1 locs1 cells slots Q (F0 m (pc + 3) ls rest)) : W p l e R s m args below meth c H locs cells slots Q (F0 m pc ls (.int v :: .ref (ad i) :: rest)) := by
  obtain ⟨hx, hb, hml, hr, hts, hown, hlocks, hKK, hN⟩ := C0
  subst hsame
  refine va_put hx hb hts hin ty0 hty hnm hown hKK w.1 w.2.1 w.2.2.1 i ((wl_at g ad μ hk hK).trans (congrArg (fun e => some (ad i, e)) (hal _))) hc k hkN (hts _ hlink) (fun _ h => h) hfin ((hty k hkN).trans (congrArg some hd)) hn hfit (by rw [fsK_len]; exact hkK) hdg (fun H1 locs1 hP hD hS => kk _ rfl H1 locs1 ?_)
  refine Wd_up w.2.2.2 ?_ (fun j hj => up2_ne μ i k v hj) hP hD hS
  show cellK g ad (kd i) i (up2 μ i k v i) = _
  rw [hk, up2_row, hal, fsK_set ad K i (μ i) v hr0]
theorem x_getP (C0 : Cx g p s m args meth c own cc nL ret) (w : Wd g ad μ A s H locs) {i k : Nat} {index : Nat} (hk : kd i = 13) (hkN : k < 10) (hlink : Cond.fieldLink own index (TX2 k).1 (TX2 k).2.1 (TX2 k).2.2.1 ∈ tb_G) (hdg : decode cc pc = .ok (.getfield index, 3))
    (kk : W p l e R s m args below meth c H locs cells slots Q (F0 m (pc + 3) ls (.int (μ i k) :: rest))) : W p l e R s m args below meth c H locs cells slots Q (F0 m pc ls (.ref (ad i) :: rest)) :=
  x_get C0 w (C := RX2) (T := TX2) (N := 10) (ci := 2) hk (by decide) rfl iX2 rfl hkN hkN rfl hlink rfl hdg kk
theorem x_putP (C0 : Cx g p s m args meth c own cc nL ret) (w : Wd g ad μ A s H locs) {i k : Nat} {index : Nat} {v : Int32} {ty : FieldType} (hk : kd i = 13) (hkN : k < 10) (hlink : Cond.fieldLink own index (TX2 k).1 (TX2 k).2.1 (TX2 k).2.2.1 ∈ tb_G) (hfin : (TX2 k).2.2.2 = false) (hd : tyX2 k = ty) (hn : narrow ty (.int v) = .int v) (hfit : fits ty (.int v) = true) (hdg : decode cc pc = .ok (.putfield index, 3))
    (kk : ∀ μ', μ' = up2 μ i k v → ∀ (H1 : Heap) (locs1 : List Loc), Wd g ad μ' A s H1 locs1 → W p l e R s m args below meth c H1 locs1 cells slots Q (F0 m (pc + 3) ls rest)) : W p l e R s m args below meth c H locs cells slots Q (F0 m pc ls (.int v :: .ref (ad i) :: rest)) :=
  x_put C0 w (C := RX2) (T := TX2) (N := 10) (ci := 2) hk (by decide) (fun _ => rfl) iX2 tyX2 tyX2_ok nmX2 rfl hkN hkN rfl hlink rfl hfin hd hn hfit hdg kk
theorem x_getS (C0 : Cx g p s m args meth c own cc nL ret) (w : Wd g ad μ A s H locs) {i k : Nat} {index : Nat} {v : Value} (hk : kd i = 9) (hkN : k < 6) (hv : fvl ad 9 i k (μ i k) = v) (hlink : Cond.fieldLink own index (TX3 k).1 (TX3 k).2.1 (TX3 k).2.2.1 ∈ tb_G) (hdg : decode cc pc = .ok (.getfield index, 3))
    (kk : W p l e R s m args below meth c H locs cells slots Q (F0 m (pc + 3) ls (v :: rest))) : W p l e R s m args below meth c H locs cells slots Q (F0 m pc ls (.ref (ad i) :: rest)) :=
  x_get C0 w (C := RX3) (T := TX3) (N := 6) (ci := 3) hk (by decide) rfl iX3 rfl hkN hkN hv hlink rfl hdg kk
theorem x_putS (C0 : Cx g p s m args meth c own cc nL ret) (w : Wd g ad μ A s H locs) {i k : Nat} {index : Nat} {v : Int32} (hk : kd i = 9) (hkN : k < 6) (hr0 : fr 9 i k = none) (hlink : Cond.fieldLink own index (TX3 k).1 (TX3 k).2.1 (TX3 k).2.2.1 ∈ tb_G) (hfin : (TX3 k).2.2.2 = false) (hd : tyX3 k = .int) (hdg : decode cc pc = .ok (.putfield index, 3))
    (kk : ∀ μ', μ' = up2 μ i k v → ∀ (H1 : Heap) (locs1 : List Loc), Wd g ad μ' A s H1 locs1 → W p l e R s m args below meth c H1 locs1 cells slots Q (F0 m (pc + 3) ls rest)) : W p l e R s m args below meth c H locs cells slots Q (F0 m pc ls (.int v :: .ref (ad i) :: rest)) :=
  x_put C0 w (C := RX3) (T := TX3) (N := 6) (ci := 3) hk (by decide) (fun _ => rfl) iX3 tyX3 tyX3_ok nmX3 rfl hkN hkN hr0 hlink rfl hfin hd rfl rfl hdg kk
theorem x_getX (C0 : Cx g p s m args meth c own cc nL ret) (w : Wd g ad μ A s H locs) {k : Nat} {index : Nat} {v : Value} (hkN : k < 6) (hv : fvl ad 0 0 k (μ 0 k) = v) (hlink : Cond.fieldLink own index (TX4 k).1 (TX4 k).2.1 (TX4 k).2.2.1 ∈ tb_G) (hdg : decode cc pc = .ok (.getfield index, 3))
    (kk : W p l e R s m args below meth c H locs cells slots Q (F0 m (pc + 3) ls (v :: rest))) : W p l e R s m args below meth c H locs cells slots Q (F0 m pc ls (.ref (ad 0) :: rest)) :=
  x_get C0 w (C := RX4) (T := TX4) (N := 6) (ci := 4) (K := 0) rfl (by decide) rfl iX4 rfl hkN hkN hv hlink rfl hdg kk
theorem x_getH (C0 : Cx g p s m args meth c own cc nL ret) (w : Wd g ad μ A s H locs) {k : Nat} {index : Nat} {v : Value} (hkN : k < 2) (hv : fvl ad 1 57 k (μ 57 k) = v) (hlink : Cond.fieldLink own index (TX0 k).1 (TX0 k).2.1 (TX0 k).2.2.1 ∈ tb_G) (hdg : decode cc pc = .ok (.getfield index, 3))
    (kk : W p l e R s m args below meth c H locs cells slots Q (F0 m (pc + 3) ls (v :: rest))) : W p l e R s m args below meth c H locs cells slots Q (F0 m pc ls (.ref (ad 57) :: rest)) :=
  x_get C0 w (C := RX0) (T := TX0) (N := 2) (ci := 0) (K := 1) rfl (by decide) rfl iX0 rfl hkN hkN hv hlink rfl hdg kk
theorem x_putH (C0 : Cx g p s m args meth c own cc nL ret) (w : Wd g ad μ A s H locs) {index : Nat} {v : Int32} (hlink : Cond.fieldLink own index (TX0 1).1 (TX0 1).2.1 (TX0 1).2.2.1 ∈ tb_G) (hdg : decode cc pc = .ok (.putfield index, 3))
    (kk : ∀ μ', μ' = up2 μ 57 1 v → ∀ (H1 : Heap) (locs1 : List Loc), Wd g ad μ' A s H1 locs1 → W p l e R s m args below meth c H1 locs1 cells slots Q (F0 m (pc + 3) ls rest)) : W p l e R s m args below meth c H locs cells slots Q (F0 m pc ls (.int v :: .ref (ad 57) :: rest)) :=
  x_put C0 w (C := RX0) (T := TX0) (N := 2) (ci := 0) (k := 1) (ty := .int) (K := 1) rfl (by decide) (fun _ => rfl) iX0 tyX0 tyX0_ok nmX0 rfl (by decide) (by decide) rfl hlink rfl rfl rfl rfl rfl hdg kk
theorem x_getD (C0 : Cx g p s m args meth c own cc nL ret) (w : Wd g ad μ A s H locs) {k : Nat} {index : Nat} {v : Value} (hkN : k < 2) (hv : fvl ad 5 229 k (μ 229 k) = v) (hlink : Cond.fieldLink own index (TX1 k).1 (TX1 k).2.1 (TX1 k).2.2.1 ∈ tb_G) (hdg : decode cc pc = .ok (.getfield index, 3))
    (kk : W p l e R s m args below meth c H locs cells slots Q (F0 m (pc + 3) ls (v :: rest))) : W p l e R s m args below meth c H locs cells slots Q (F0 m pc ls (.ref (ad 229) :: rest)) :=
  x_get C0 w (C := RX1) (T := TX1) (N := 2) (ci := 1) (K := 5) rfl (by decide) rfl iX1 rfl hkN hkN hv hlink rfl hdg kk
theorem x_putD (C0 : Cx g p s m args meth c own cc nL ret) (w : Wd g ad μ A s H locs) {index : Nat} {v : Int32} (hlink : Cond.fieldLink own index (TX1 1).1 (TX1 1).2.1 (TX1 1).2.2.1 ∈ tb_G) (hdg : decode cc pc = .ok (.putfield index, 3))
    (kk : ∀ μ', μ' = up2 μ 229 1 v → ∀ (H1 : Heap) (locs1 : List Loc), Wd g ad μ' A s H1 locs1 → W p l e R s m args below meth c H1 locs1 cells slots Q (F0 m (pc + 3) ls rest)) : W p l e R s m args below meth c H locs cells slots Q (F0 m pc ls (.int v :: .ref (ad 229) :: rest)) :=
  x_put C0 w (C := RX1) (T := TX1) (N := 2) (ci := 1) (k := 1) (ty := .int) (K := 5) rfl (by decide) (fun _ => rfl) iX1 tyX1 tyX1_ok nmX1 rfl (by decide) (by decide) rfl hlink rfl rfl rfl rfl rfl hdg kk
theorem x_at (w : Wd g ad μ A s H locs) {i K : Nat} {e : va_E} (hk : kd i = K) (hK : K < 99) (hal : cellK g ad K i (μ i) = e) : (wl g ad μ)[i]? = some (ad i, e) := (wl_at g ad μ hk hK).trans (congrArg (fun e => some (ad i, e)) hal)
theorem x_iald (C0 : Cx g p s m args meth c own cc nL ret) (w : Wd g ad μ A s H locs) {i K n jn : Nat} {j : Int32} (hj : j.toNatClampNeg = jn) (hk : kd i = K) (hK : K < 99) (hal : cellK g ad K i (μ i) = .inl (g.2 0, n, .inl (μ i))) (hin : vp_in j n) (hdg : decode cc pc = .ok (.iaload, 1))
    (kk : W p l e R s m args below meth c H locs cells slots Q (F0 m (pc + 1) ls (.int (μ i jn) :: rest))) : W p l e R s m args below meth c H locs cells slots Q (F0 m pc ls (.int j :: .ref (ad i) :: rest)) := by
  subst hj
  obtain ⟨hx, hb, hml, hr, hts, hown, hlocks, hKK, hN⟩ := C0
  exact va_iald hx hb hKK w.1 i 0 (x_at w hk hK hal) rfl hin hdg kk
theorem x_zald (C0 : Cx g p s m args meth c own cc nL ret) (w : Wd g ad μ A s H locs) {j : Int32} (hin : vp_in j 2) (hdg : decode cc pc = .ok (.baload, 1))
    (kk : W p l e R s m args below meth c H locs cells slots Q (F0 m (pc + 1) ls (.int (μ 228 j.toNatClampNeg) :: rest))) : W p l e R s m args below meth c H locs cells slots Q (F0 m pc ls (.int j :: .ref (ad 228) :: rest)) := by
  obtain ⟨hx, hb, hml, hr, hts, hown, hlocks, hKK, hN⟩ := C0
  exact va_zald hx hb hKK w.1 228 1 (x_at w (K := 4) rfl (by decide) rfl) rfl hin hdg kk
theorem x_cald (C0 : Cx g p s m args meth c own cc nL ret) (w : Wd g ad μ A s H locs) {j : Int32} (hin : vp_in j 60) (hdg : decode cc pc = .ok (.caload, 1))
    (kk : W p l e R s m args below meth c H locs cells slots Q (F0 m (pc + 1) ls (.int (μ 230 j.toNatClampNeg) :: rest))) : W p l e R s m args below meth c H locs cells slots Q (F0 m pc ls (.int j :: .ref (ad 230) :: rest)) := by
  obtain ⟨hx, hb, hml, hr, hts, hown, hlocks, hKK, hN⟩ := C0
  exact va_cald hx hb hKK w.1 230 2 (x_at w (K := 6) rfl (by decide) rfl) rfl hin hdg kk
theorem x_iast (C0 : Cx g p s m args meth c own cc nL ret) (w : Wd g ad μ A s H locs) {i K n jn : Nat} {j v : Int32} (hj : j.toNatClampNeg = jn) (hk : kd i = K) (hK : K < 99) (hal : ∀ f, cellK g ad K i f = .inl (g.2 0, n, .inl f)) (hin : vp_in j n) (hdg : decode cc pc = .ok (.iastore, 1))
    (kk : ∀ μ', μ' = up2 μ i jn v → ∀ (H1 : Heap) (locs1 : List Loc), Wd g ad μ' A s H1 locs1 → W p l e R s m args below meth c H1 locs1 cells slots Q (F0 m (pc + 1) ls rest)) : W p l e R s m args below meth c H locs cells slots Q (F0 m pc ls (.int v :: .int j :: .ref (ad i) :: rest)) := by
  subst hj
  obtain ⟨hx, hb, hml, hr, hts, hown, hlocks, hKK, hN⟩ := C0
  refine va_iast hx hb hKK w.1 w.2.1 w.2.2.1 i 0 (x_at w hk hK (hal _)) rfl hin hdg (fun H1 locs1 hP hD hS => kk _ rfl H1 locs1 ?_)
  refine Wd_up w.2.2.2 ?_ (fun a ha => up2_ne μ i _ v ha) hP hD hS
  show cellK g ad (kd i) i (up2 μ i _ v i) = _
  rw [hk, up2_row, hal]
theorem x_zast (C0 : Cx g p s m args meth c own cc nL ret) (w : Wd g ad μ A s H locs) {j v : Int32} (hv : bz v) (hin : vp_in j 2) (hdg : decode cc pc = .ok (.bastore, 1))
    (kk : ∀ μ', μ' = up2 μ 228 j.toNatClampNeg v → ∀ (H1 : Heap) (locs1 : List Loc), Wd g ad μ' A s H1 locs1 → W p l e R s m args below meth c H1 locs1 cells slots Q (F0 m (pc + 1) ls rest)) : W p l e R s m args below meth c H locs cells slots Q (F0 m pc ls (.int v :: .int j :: .ref (ad 228) :: rest)) := by
  obtain ⟨hx, hb, hml, hr, hts, hown, hlocks, hKK, hN⟩ := C0
  refine va_zast hx hb hKK w.1 w.2.1 w.2.2.1 228 1 (x_at w (K := 4) rfl (by decide) rfl) rfl hin hdg (fun H1 locs1 hP hD hS => kk _ rfl H1 locs1 ?_)
  rw [bz_nar hv] at hP hD
  exact Wd_up w.2.2.2 (by show cellK g ad 4 228 (up2 μ 228 _ v 228) = _; rw [up2_row]; rfl) (fun a ha => up2_ne μ 228 _ v ha) hP hD hS
theorem x_cast (C0 : Cx g p s m args meth c own cc nL ret) (w : Wd g ad μ A s H locs) {j v : Int32} (hin : vp_in j 60) (hdg : decode cc pc = .ok (.castore, 1))
    (kk : ∀ μ', μ' = up2 μ 230 j.toNatClampNeg (vp_nar .char v) → ∀ (H1 : Heap) (locs1 : List Loc), Wd g ad μ' A s H1 locs1 → W p l e R s m args below meth c H1 locs1 cells slots Q (F0 m (pc + 1) ls rest)) : W p l e R s m args below meth c H locs cells slots Q (F0 m pc ls (.int v :: .int j :: .ref (ad 230) :: rest)) := by
  obtain ⟨hx, hb, hml, hr, hts, hown, hlocks, hKK, hN⟩ := C0
  refine va_cast hx hb hKK w.1 w.2.1 w.2.2.1 230 2 (x_at w (K := 6) rfl (by decide) rfl) rfl hin hdg (fun H1 locs1 hP hD hS => kk _ rfl H1 locs1 ?_)
  exact Wd_up w.2.2.2 (by show cellK g ad 6 230 (up2 μ 230 _ _ 230) = _; rw [up2_row]; rfl) (fun a ha => up2_ne μ 230 _ _ ha) hP hD hS
/-- a person out of a staircase's row -/
theorem x_aldP (C0 : Cx g p s m args meth c own cc nL ret) (w : Wd g ad μ A s H locs) {i : Nat} {j : Int32} (hk : kd i = 11) (hin : vp_in j 24) (hdg : decode cc pc = .ok (.aaload, 1))
    (kk : W p l e R s m args below meth c H locs cells slots Q (F0 m (pc + 1) ls (.ref (ad (i + 2 + j.toNatClampNeg)) :: rest))) : W p l e R s m args below meth c H locs cells slots Q (F0 m pc ls (.int j :: .ref (ad i) :: rest)) := by
  obtain ⟨hx, hb, hml, hr, hts, hown, hlocks, hKK, hN⟩ := C0
  exact va_aldq hx hb hKK w.1 i 3 (x_at w hk (by decide) rfl) rfl hin hdg kk
theorem x_aldH (C0 : Cx g p s m args meth c own cc nL ret) (w : Wd g ad μ A s H locs) {jn : Nat} {j : Int32} (hj : j.toNatClampNeg = jn) (hin : vp_in j 6) (hdg : decode cc pc = .ok (.aaload, 1))
    (kk : W p l e R s m args below meth c H locs cells slots Q (F0 m (pc + 1) ls (.ref (ad (59 + 28 * (μ 58 jn).toNatClampNeg)) :: rest))) : W p l e R s m args below meth c H locs cells slots Q (F0 m pc ls (.int j :: .ref (ad 58) :: rest)) := by
  subst hj
  obtain ⟨hx, hb, hml, hr, hts, hown, hlocks, hKK, hN⟩ := C0
  exact va_aldq hx hb hKK w.1 58 4 (x_at w (K := 2) rfl (by decide) rfl) rfl hin hdg kk
theorem x_aldL (C0 : Cx g p s m args meth c own cc nL ret) (w : Wd g ad μ A s H locs) {j : Int32} (hin : vp_in j 2) (hdg : decode cc pc = .ok (.aaload, 1))
    (kk : W p l e R s m args below meth c H locs cells slots Q (F0 m (pc + 1) ls (.ref (ad (231 + 28 * j.toNatClampNeg)) :: rest))) : W p l e R s m args below meth c H locs cells slots Q (F0 m pc ls (.int j :: .ref (ad 227) :: rest)) := by
  obtain ⟨hx, hb, hml, hr, hts, hown, hlocks, hKK, hN⟩ := C0
  exact va_aldq hx hb hKK w.1 227 4 (x_at w (K := 3) rfl (by decide) rfl) rfl hin hdg kk
theorem x_astH (C0 : Cx g p s m args meth c own cc nL ret) (w : Wd g ad μ A s H locs) {jn : Nat} {j v : Int32} (hj : j.toNatClampNeg = jn) (hin : vp_in j 6) (hv : kd (59 + 28 * v.toNatClampNeg) = 9) (hdg : decode cc pc = .ok (.aastore, 1))
    (kk : ∀ μ', μ' = up2 μ 58 jn v → ∀ (H1 : Heap) (locs1 : List Loc), Wd g ad μ' A s H1 locs1 → W p l e R s m args below meth c H1 locs1 cells slots Q (F0 m (pc + 1) ls rest)) : W p l e R s m args below meth c H locs cells slots Q (F0 m pc ls (.ref (ad (59 + 28 * v.toNatClampNeg)) :: .int j :: .ref (ad 58) :: rest)) := by
  subst hj
  obtain ⟨hx, hb, hml, hr, hts, hown, hlocks, hKK, hN⟩ := C0
  refine va_astq hx hb hKK w.1 w.2.1 w.2.2.1 58 4 (59 + 28 * v.toNatClampNeg) 3 (r := (RX3, TX3, 6)) (x_at w (K := 2) rfl (by decide) rfl) rfl (x_at w (e := .inr (3, fsK ad 9 _ (μ _))) hv (by decide) rfl) rfl hin hdg (fun H1 locs1 hP hD hS => kk _ rfl H1 locs1 ?_)
  refine Wd_up w.2.2.2 ?_ (fun a ha => up2_ne μ 58 _ v ha) hP hD hS
  show cellK g ad 2 58 (up2 μ 58 _ v 58) = _
  rw [up2_row]
  show Sum.inl (g.2 4, 6, Sum.inr (Sum.inr (Sum.inr (Sum.inr fun k => some (ad (59 + 28 * (upd (μ 58) j.toNatClampNeg v k).toNatClampNeg)))))) = _
  congr 7
  funext k
  by_cases h : k = j.toNatClampNeg <;> simp [upd, va_up, h]
theorem x_alen (C0 : Cx g p s m args meth c own cc nL ret) (w : Wd g ad μ A s H locs) {i K n : Nat} {v : Int32} (hk : kd i = K) (hK : K < 99) (hal : cellK g ad K i (μ i) = .inl (g.2 0, n, .inl (μ i))) (hv : Int32.ofNat n = v) (hdg : decode cc pc = .ok (.arraylength, 1))
    (kk : W p l e R s m args below meth c H locs cells slots Q (F0 m (pc + 1) ls (.int v :: rest))) : W p l e R s m args below meth c H locs cells slots Q (F0 m pc ls (.ref (ad i) :: rest)) := by
  obtain ⟨hx, hb, hml, hr, hts, hown, hlocks, hKK, hN⟩ := C0
  exact va_alen hx hb hKK w.1 i 0 (x_at w hk hK hal) (ty := .int) rfl hv hdg kk
theorem x_copy (C0 : Cx g p s m args meth c own cc nL ret) (w : Wd g ad μ A s H locs) {i0 i1 K n : Nat} {index : Nat} {v : Int32} (hk0 : kd i0 = K) (hk1 : kd i1 = K) (hK : K < 99) (hal : ∀ i f, cellK g ad K i f = .inl (g.2 0, n, .inl f)) (hv0 : ¬ v < 0) (hv : v.toNatClampNeg = n) (hls : ls.size = nL) (hlink : Cond.methodLink own index arraycopyName ∈ tb_G) (hR : 1 ≤ R.frames) (hlocals : (rest.map fun v => v.category).sum + (nativeFrameWords "java/lang/System" "arraycopy" 5 + 11) ≤ R.locals) (hdg : decode cc pc = .ok (.invokestatic index, 3))
    (kk : ∀ μ', μ' = upR μ i1 (va_cpy (μ i0) (μ i1) 0 0 n) → ∀ (H1 : Heap) (locs1 : List Loc), Wd g ad μ' A s H1 locs1 → W p l e R s m args below meth c H1 locs1 cells slots Q (F0 m (pc + 3) ls rest)) : W p l e R s m args below meth c H locs cells slots Q (F0 m pc ls (.int v :: .int 0 :: .ref (ad i1) :: .int 0 :: .ref (ad i0) :: rest)) := by
  obtain ⟨hx, hb, hml, hr, hts, hown, hlocks, hKK, hN⟩ := C0
  refine va_copyi hx hb (hml.trans hls.symm) hown (hts _ hlink) (hts _ (tb_in 189 (by decide +kernel) rfl)) (hts _ (tb_in 188 (by decide +kernel) rfl)) (hts _ (tb_in 15 (by decide +kernel) rfl)) hKK w.1 w.2.1 w.2.2.1 i0 i1 0 0 (ty := .int) (x_at w hk0 hK (hal _ _)) (x_at w hk1 hK (hal _ _)) rfl rfl rfl (by decide) (by decide) hv0 (by rw [hv]; exact Nat.le_of_eq (Nat.zero_add n)) (by rw [hv]; exact Nat.le_of_eq (Nat.zero_add n)) (fun _ _ => rfl) hR hlocals hdg (fun H1 locs1 hP hD hS => kk _ rfl H1 locs1 ?_)
  rw [hv] at hP hD
  refine Wd_up w.2.2.2 ?_ (fun a ha => upR_ne μ i1 _ ha) hP hD hS
  show cellK g ad (kd i1) i1 (upR μ i1 _ i1) = _
  rw [hk1, upR_row, hal]
  rfl
end XR
end
section
/-! CALLS AND RETURNS over that world -/
def MeV (y : MethodName) (b : ByteArray) (nL : Nat) (rt : Option FieldType) (n : Nat) : Prop :=
  (Cond.instanceMethod y ∈ tb_G ∧ Cond.selects y.cls y y ∈ tb_G ∧ Cond.initialized y.cls ∈ tb_G ∧ Cond.code y b nL rt ∈ tb_G) ∧ y.cls = y.cls ∧ y.cls ≠ "java/lang/invoke/MethodHandle" ∧ y.cls ≠ "java/lang/invoke/VarHandle" ∧ (parseMethodDescriptor y.desc).map (fun d => d.parameters.length) = some n
def MeS (y : MethodName) (b : ByteArray) (nL : Nat) (rt : Option FieldType) (n : Nat) : Prop :=
  (Cond.static y ∈ tb_G ∧ Cond.initialized y.cls ∈ tb_G ∧ Cond.code y b nL rt ∈ tb_G) ∧ y.cls = y.cls ∧ y.cls ≠ "java/lang/invoke/MethodHandle" ∧ y.cls ≠ "java/lang/invoke/VarHandle" ∧ (parseMethodDescriptor y.desc).map (fun d => d.parameters.length) = some n
section XC
variable {g : Gv} {ad : Nat → Nat} {μ : Mem} {A : Nat → Prop} {own : String} {cc : ByteArray} {nL : Nat} {ret : Option FieldType}
variable {p : Program} {l : Launch} {e : Env} {R : Room} {s : State} {m : MethodId} {args : Array Value} {below : List Frame} {meth : Method} {c : Code} {H : Heap} {locs : List Loc} {cells slots : Nat} {Q : State → Prop}
variable {pc : Nat} {ls : Array Slot} {rest st : List Value} {y : MethodName} {b : ByteArray} {nY n idx : Nat} {rt : Option FieldType} {rm : Room} {As : List Value}
theorem x_back (C0 : Cx g p s m args meth c own cc nL ret) (w : Wd g ad μ A s H locs) {μ' : Mem} {t : State} {H1 : Heap} {locs1 : List Loc} (ht : t.heap = H1) (hB : va_P g.1 vwCl (wl g ad μ') t.heap) (hS : va_S A s.heap H1 locs1) : Wd g ad μ' A s H1 locs1 := ⟨by rw [← ht]; exact hB, wl_D μ' w.2.1, hS, w.2.2.2⟩
theorem x_recv (C0 : Cx g p s m args meth c own cc nL ret) (w : Wd g ad μ A s H locs) {i K ci : Nat} {q : vw_C} (hk : kd i = K) (hK : K < 99) (hal : cellK g ad K i (μ i) = .inr (ci, fsK ad K i (μ i))) (hc : vwCl[ci]? = some q) : ∃ cell : Cell, H[ad i]? = some cell ∧ cell.vm.isStatics = false ∧ s.vm.findClass q.1 = some cell.cls := by
  obtain ⟨hx, hb, hml, hr, hts, hown, hlocks, hKK, hN⟩ := C0
  exact va_recv hKK w.1 hc (x_at w hk hK hal)
/-- a virtual call of a method of ours -/
theorem x_runV {Qc : Array Value → State → Outcome → State → Prop} (C0 : Cx g p s m args meth c own cc nL ret) (w : Wd g ad μ A s H locs) {i K ci : Nat} {q : vw_C} (hk : kd i = K) (hK : K < 99) (hal : cellK g ad K i (μ i) = .inr (ci, fsK ad K i (μ i))) (hc : vwCl[ci]? = some q) (hq : q.1 = y.cls) (me : MeV y b nY rt n) (hl : Cond.methodLink own idx y ∈ tb_G)
    (hM : Met l y (wX y b nY rt) rm (Pre g ad μ H.size (.ref (ad i) :: As)) Qc 0 0 (Aw ad H.size)) (hrm : rm.cells = 0 ∧ rm.slots = 0) (hR : rm.frames + 1 ≤ R.frames ∧ 8 + (nY + 11) + rm.locals ≤ R.locals)
    (hn : As.length = n) (hls : ls.size = nL) (hst : st = As.reverse ++ .ref (ad i) :: rest) (hW : (rest.map fun v => v.category).sum ≤ 8) (hdg : decode cc pc = .ok (.invokevirtual idx, 3)) (hcs : cells ≤ R.cells ∧ slots ≤ R.slots) :
    va_Run p l e R s m args below meth c H locs cells slots 0 0 (F0 m pc ls st) rest (Qc (Value.ref (ad i) :: As).toArray) (Aw ad H.size) := by
  have C1 := C0
  obtain ⟨hx, hb, hml, hr, hts, hown, hlocks, hKK, hN⟩ := C0
  have hg : GoodIn tb_G (wsV own idx y.cls y (wX y b nY rt)) := by
    refine tb_gi (fun w hw => ?_)
    obtain ⟨h1, h2, h3, h4⟩ := me.1
    rcases List.mem_append.mp hw with h | h
    · simp only [List.mem_cons, List.not_mem_nil, or_false] at h
      rcases h with rfl | rfl | rfl | rfl
      · exact hl
      · exact h1
      · exact h2
      · exact h3
    · exact tb_wX h4 w h
  exact va_runV ⟨hx, hb, hml, hown, hts⟩ hM (cwV n hts hg rfl hrm.1 hrm.2 me.2 hR) ⟨pre_blind g ad μ H.size _, by rw [← hq]; exact x_recv C1 w hk hK hal hc, x_pre C1 w _⟩ rfl hn hls hst (lv_room hW) hdg ⟨hcs.1, hcs.2⟩
theorem x_runS {Qc : Array Value → State → Outcome → State → Prop} (C0 : Cx g p s m args meth c own cc nL ret) (w : Wd g ad μ A s H locs) (me : MeS y b nY rt n) (hl : Cond.methodLink own idx y ∈ tb_G)
    (hM : Met l y (wX y b nY rt) rm (Pre g ad μ H.size As) Qc 0 0 (Aw ad H.size)) (hrm : rm.cells = 0 ∧ rm.slots = 0) (hR : rm.frames + 1 ≤ R.frames ∧ 8 + (nY + 11) + rm.locals ≤ R.locals)
    (hn : As.length = n) (hls : ls.size = nL) (hst : st = As.reverse ++ rest) (hW : (rest.map fun v => v.category).sum ≤ 8) (hdg : decode cc pc = .ok (.invokestatic idx, 3)) (hcs : cells ≤ R.cells ∧ slots ≤ R.slots) :
    va_Run p l e R s m args below meth c H locs cells slots 0 0 (F0 m pc ls st) rest (Qc As.toArray) (Aw ad H.size) := by
  have C1 := C0
  obtain ⟨hx, hb, hml, hr, hts, hown, hlocks, hKK, hN⟩ := C0
  have hg : GoodIn tb_G (va_wsS own idx y (wX y b nY rt)) := by
    refine tb_gi (fun w hw => ?_)
    obtain ⟨h1, h3, h4⟩ := me.1
    rcases List.mem_append.mp hw with h | h
    · simp only [List.mem_cons, List.not_mem_nil, or_false] at h
      rcases h with rfl | rfl | rfl
      · exact hl
      · exact h1
      · exact h3
    · exact tb_wX h4 w h
  exact va_runS ⟨hx, hb, hml, hown, hts⟩ hM (va_cwS n hts hg rfl hrm.1 hrm.2 me.2.2 hR) ⟨pre_blind g ad μ H.size _, x_pre C1 w _⟩ rfl hn hls hst (lv_room hW) hdg ⟨hcs.1, hcs.2⟩
theorem x_runSN {host : String} {Qc : Array Value → State → Outcome → State → Prop} (C0 : Cx g p s m args meth c own cc nL ret) (w : Wd g ad μ A s H locs) (me : MeS y b nY rt n) (hl : va_Nw (.methodLinkNest own idx y host) s)
    (hM : Met l y (wX y b nY rt) rm (Pre g ad μ H.size As) Qc 0 0 (Aw ad H.size)) (hrm : rm.cells = 0 ∧ rm.slots = 0) (hR : rm.frames + 1 ≤ R.frames ∧ 8 + (nY + 11) + rm.locals ≤ R.locals)
    (hn : As.length = n) (hls : ls.size = nL) (hst : st = As.reverse ++ rest) (hW : (rest.map fun v => v.category).sum ≤ 8) (hdg : decode cc pc = .ok (.invokestatic idx, 3)) (hcs : cells ≤ R.cells ∧ slots ≤ R.slots) :
    va_Run p l e R s m args below meth c H locs cells slots 0 0 (F0 m pc ls st) rest (Qc As.toArray) (Aw ad H.size) := by
  have C1 := C0
  obtain ⟨hx, hb, hml, hr, hts, hown, hlocks, hKK, hN⟩ := C0
  exact va_runSN ⟨hx, hb, hml, hown, hts⟩ hM ⟨va_cnB n hts (tb_gi (tb_wX me.1.2.2)) rfl hrm.1 hrm.2 hl (hts _ me.1.2.1) me.2.2 hR, hts _ me.1.1, trivial⟩ ⟨pre_blind g ad μ H.size _, x_pre C1 w _⟩ rfl hn hls hst (lv_room hW) hdg ⟨hcs.1, hcs.2⟩
theorem x_calli {a : Array Value} {K' : Int32 → Mem → Prop} (C0 : Cx g p s m args meth c own cc nL ret) (w : Wd g ad μ A s H locs) (hr : va_Run p l e R s m args below meth c H locs cells slots 0 0 (F0 m pc ls st) rest (PostI g ad H.size K' a) (Aw ad H.size))
    (kk : ∀ (r : Int32) (μ' : Mem), K' r μ' → ∀ (H1 : Heap) (locs1 : List Loc), Wd g ad μ' A s H1 locs1 → W p l e R s m args below meth c H1 locs1 cells slots Q (F0 m (pc + 3) ls (.int r :: rest))) : W p l e R s m args below meth c H locs cells slots Q (F0 m pc ls st) :=
  va_calli hr w.2.2.1 (fun q _ h => wl_A w q h) (wl_A w) (fun r u t H1 locs1 ht hvm hw hB hz1 hk1 hS => kk r u hw H1 locs1 (x_back C0 w ht hB hS))
theorem x_callv {a : Array Value} {K' : Mem → Prop} (C0 : Cx g p s m args meth c own cc nL ret) (w : Wd g ad μ A s H locs) (hr : va_Run p l e R s m args below meth c H locs cells slots 0 0 (F0 m pc ls st) rest (PostV g ad H.size K' a) (Aw ad H.size))
    (kk : ∀ (μ' : Mem), K' μ' → ∀ (H1 : Heap) (locs1 : List Loc), Wd g ad μ' A s H1 locs1 → W p l e R s m args below meth c H1 locs1 cells slots Q (F0 m (pc + 3) ls rest)) : W p l e R s m args below meth c H locs cells slots Q (F0 m pc ls st) :=
  va_callv hr w.2.2.1 (fun q _ h => wl_A w q h) (wl_A w) (fun u t H1 locs1 ht hvm hw hB hz1 hk1 hS => kk u hw H1 locs1 (x_back C0 w ht hB hS))
theorem x_callr {a : Array Value} {K' : Option Nat → Mem → Prop} (C0 : Cx g p s m args meth c own cc nL ret) (w : Wd g ad μ A s H locs) (hr : va_Run p l e R s m args below meth c H locs cells slots 0 0 (F0 m pc ls st) rest (PostR g ad H.size K' a) (Aw ad H.size))
    (kk : ∀ (r : Option Nat) (μ' : Mem), (∀ q, r = some q → kd q = 13) → K' r μ' → ∀ (H1 : Heap) (locs1 : List Loc), Wd g ad μ' A s H1 locs1 → W p l e R s m args below meth c H1 locs1 cells slots Q (F0 m (pc + 3) ls (va_re ad r :: rest))) : W p l e R s m args below meth c H locs cells slots Q (F0 m pc ls st) :=
  va_calle hr w.2.2.1 (fun q _ h => wl_A w q h) (wl_A w) (fun r u t H1 locs1 ht hvm hw hB hz1 hk1 hS => kk r u hw.1 hw.2 H1 locs1 (x_back C0 w ht hB hS))
theorem x_iret {K' : Int32 → Mem → Prop} {v : Int32} (C0 : Cx g p s m args meth c own cc nL (some .int)) (w : Wd g ad μ (Aw ad s.heap.size) s H locs) (h : K' v μ) (hdg : decode cc pc = .ok (.ireturn, 1)) : W p l e R s m args below meth c H locs cells slots (MQ below (PostI g ad s.heap.size K') args s cells slots (Aw ad s.heap.size)) (F0 m pc ls [.int v]) := by
  obtain ⟨hx, hb, hml, hr, hts, hown, hlocks, hKK, hN⟩ := C0
  exact W.iret (v := v) hx hb hr (fun t ht hW => ⟨⟨v, μ, rfl, h, by show va_P _ _ _ t.heap; rw [ht]; exact w.1⟩, w.2.2.1.F ht⟩) w.2.2.1.2.2 hdg
theorem x_zret {K' : Int32 → Mem → Prop} {v : Int32} (C0 : Cx g p s m args meth c own cc nL (some .boolean)) (w : Wd g ad μ (Aw ad s.heap.size) s H locs) (hv : bz v) (h : K' v μ) (hdg : decode cc pc = .ok (.ireturn, 1)) : W p l e R s m args below meth c H locs cells slots (MQ below (PostI g ad s.heap.size K') args s cells slots (Aw ad s.heap.size)) (F0 m pc ls [.int v]) := by
  obtain ⟨hx, hb, hml, hr, hts, hown, hlocks, hKK, hN⟩ := C0
  exact W.zret (v := v) hx hb hr (bz_narrow hv) (fun t ht hW => ⟨⟨v, μ, rfl, h, by show va_P _ _ _ t.heap; rw [ht]; exact w.1⟩, w.2.2.1.F ht⟩) w.2.2.1.2.2 hdg
theorem x_vret {K' : Mem → Prop} (C0 : Cx g p s m args meth c own cc nL none) (w : Wd g ad μ (Aw ad s.heap.size) s H locs) (h : K' μ) (hdg : decode cc pc = .ok (.return_, 1)) : W p l e R s m args below meth c H locs cells slots (MQ below (PostV g ad s.heap.size K') args s cells slots (Aw ad s.heap.size)) (F0 m pc ls []) := by
  obtain ⟨hx, hb, hml, hr, hts, hown, hlocks, hKK, hN⟩ := C0
  exact W.vret hx hb hr (fun t ht hW => ⟨⟨μ, rfl, h, by show va_P _ _ _ t.heap; rw [ht]; exact w.1⟩, w.2.2.1.F ht⟩) w.2.2.1.2.2 hdg
theorem x_aret {K' : Option Nat → Mem → Prop} {r : Option Nat} {nm : String} (C0 : Cx g p s m args meth c own cc nL (some (.object nm))) (w : Wd g ad μ (Aw ad s.heap.size) s H locs) (hk : ∀ q, r = some q → kd q = 13) (h : K' r μ) (hdg : decode cc pc = .ok (.areturn, 1)) : W p l e R s m args below meth c H locs cells slots (MQ below (PostR g ad s.heap.size K') args s cells slots (Aw ad s.heap.size)) (F0 m pc ls [va_re ad r]) := by
  obtain ⟨hx, hb, hml, hr, hts, hown, hlocks, hKK, hN⟩ := C0
  exact W.aret hx hb hr (Or.inl ⟨_, rfl⟩) (va_re_or ad r) (fun t ht hW => ⟨⟨r, μ, rfl, ⟨hk, h⟩, by show va_P _ _ _ t.heap; rw [ht]; exact w.1⟩, w.2.2.1.F ht⟩) w.2.2.1.2.2 hdg
end XC
/-! kinds -/
theorem kd_S1 : ∀ b, b < 287 → kd b = 9 → kd (b + 1) = 10 ∧ kd (b + 2) = 11 ∧ kd (b + 3) = 12 := by decide +kernel
theorem kd_S2 : ∀ b, b < 287 → kd b = 11 → ∀ j, j < 24 → kd (b + 2 + j) = 13 := by decide +kernel
theorem kS1 {b : Nat} (h : kd b = 9) : kd (b + 1) = 10 := (kd_S1 b (kd_lt h (by decide)) h).1
theorem kS2 {b : Nat} (h : kd b = 9) : kd (b + 2) = 11 := (kd_S1 b (kd_lt h (by decide)) h).2.1
theorem kS3 {b : Nat} (h : kd b = 9) : kd (b + 3) = 12 := (kd_S1 b (kd_lt h (by decide)) h).2.2
theorem vp_lt {j : Int32} {n : Nat} (h : vp_in j n) : j.toNatClampNeg < n := Nat.not_le.mp fun q => h (Or.inr q)
theorem kSP {b : Nat} {j : Int32} (h : kd b = 11) (hj : vp_in j 24) : kd (b + 2 + j.toNatClampNeg) = 13 := kd_S2 b (kd_lt h (by decide)) h _ (vp_lt hj)
theorem kd_H : ∀ j, j < 6 → kd (59 + 28 * j) = 9 := by decide +kernel
theorem kd_L : ∀ j, j < 2 → kd (231 + 28 * j) = 9 := by decide +kernel
section XO
variable {ad : Nat → Nat} {cc : ByteArray} {p : Program} {l : Launch} {e : Env} {R : Room} {s : State} {m : MethodId} {args : Array Value} {below : List Frame} {meth : Method} {c : Code} {H : Heap} {locs : List Loc} {cells slots : Nat} {Q : State → Prop}
variable {pc : Nat} {ls : Array Slot} {rest : List Value} {r : Option Nat}
theorem x_ifnullR (hx : p.tables.exec = Jvm.exec) (hb : c.code = cc) {off : Int} {tgt : Nat} (hdg : decode cc pc = .ok (.ifnull off, 3)) (ht : (pc : Int) + off = (tgt : Int)) (kt : r = none → W p l e R s m args below meth c H locs cells slots Q (F0 m tgt ls rest)) (kf : ∀ q, r = some q → W p l e R s m args below meth c H locs cells slots Q (F0 m (pc + 3) ls rest)) : W p l e R s m args below meth c H locs cells slots Q (F0 m pc ls (va_re ad r :: rest)) := by
  cases r with
  | none => exact lv_ifnullN hx hb hdg ht (kt rfl)
  | some q => exact lv_ifnull hx hb hdg (kf q rfl)
theorem x_ifnonnullR (hx : p.tables.exec = Jvm.exec) (hb : c.code = cc) {off : Int} {tgt : Nat} (hdg : decode cc pc = .ok (.ifnonnull off, 3)) (ht : (pc : Int) + off = (tgt : Int)) (kt : ∀ q, r = some q → W p l e R s m args below meth c H locs cells slots Q (F0 m tgt ls rest)) (kf : r = none → W p l e R s m args below meth c H locs cells slots Q (F0 m (pc + 3) ls rest)) : W p l e R s m args below meth c H locs cells slots Q (F0 m pc ls (va_re ad r :: rest)) := by
  cases r with
  | none => exact lv_ifnonnullN hx hb hdg (kf rfl)
  | some q => exact lv_ifnonnull hx hb hdg ht (kt q rfl)
theorem x_aload_nR (hx : p.tables.exec = Jvm.exec) (hb : c.code = cc) {k : Fin 4} {i : Nat} (hdg : decode cc pc = .ok (.aload_n k, 1)) (hi : (k : Nat) = i) (hl : ls[i]? = some (.val (va_re ad r))) (kk : W p l e R s m args below meth c H locs cells slots Q (F0 m (pc + 1) ls (va_re ad r :: rest))) : W p l e R s m args below meth c H locs cells slots Q (F0 m pc ls rest) := by
  cases r with
  | none => exact lv_aload_nN hx hb hdg hi hl kk
  | some q => exact lv_aload_n hx hb hdg hi hl kk
theorem x_aloadR (hx : p.tables.exec = Jvm.exec) (hb : c.code = cc) {i : Nat} (hdg : decode cc pc = .ok (.aload i, 2)) (hl : ls[i]? = some (.val (va_re ad r))) (kk : W p l e R s m args below meth c H locs cells slots Q (F0 m (pc + 2) ls (va_re ad r :: rest))) : W p l e R s m args below meth c H locs cells slots Q (F0 m pc ls rest) := by
  cases r with
  | none => exact lv_aloadN hx hb hdg hl kk
  | some q => exact lv_aload hx hb hdg hl kk
theorem x_astore_nR (hx : p.tables.exec = Jvm.exec) (hb : c.code = cc) {k : Fin 4} {i nL : Nat} {lv lv' : List (Nat × Value)} (hdg : decode cc pc = .ok (.astore_n k, 1)) (hi : (k : Nat) = i) (h : lv_has ls nL lv) (hn : i < nL) (hl : (i, va_re ad r) :: lv.filter (fun q => !(q.1 == i) && !(q.1 + 1 == i && q.2.category == 2)) = lv') (kk : ∀ ls' : Array Slot, lv_has ls' nL lv' → W p l e R s m args below meth c H locs cells slots Q (F0 m (pc + 1) ls' rest)) : W p l e R s m args below meth c H locs cells slots Q (F0 m pc ls (va_re ad r :: rest)) := by
  cases r with
  | none => exact lv_astore_nN hx hb hdg hi h hn hl kk
  | some q => exact lv_astore_n hx hb hdg hi h hn hl kk
theorem x_astoreR (hx : p.tables.exec = Jvm.exec) (hb : c.code = cc) {i nL : Nat} {lv lv' : List (Nat × Value)} (hdg : decode cc pc = .ok (.astore i, 2)) (h : lv_has ls nL lv) (hn : i < nL) (hl : (i, va_re ad r) :: lv.filter (fun q => !(q.1 == i) && !(q.1 + 1 == i && q.2.category == 2)) = lv') (kk : ∀ ls' : Array Slot, lv_has ls' nL lv' → W p l e R s m args below meth c H locs cells slots Q (F0 m (pc + 2) ls' rest)) : W p l e R s m args below meth c H locs cells slots Q (F0 m pc ls (va_re ad r :: rest)) := by
  cases r with
  | none => exact lv_astoreN hx hb hdg h hn hl kk
  | some q => exact lv_astore hx hb hdg h hn hl kk
end XO
def lsr (x : Int64) (y : Int32) : Int64 := (x.toUInt64 >>> (y.toInt64.toUInt64 &&& Int64.toUInt64 63)).toInt64
def isr (x : Int32) (y : Int32) : Int32 := (x.toUInt32 >>> (y.toUInt32 &&& Int32.toUInt32 31)).toInt32
theorem vp_lit {j : Int32} {n : Nat} (h1 : ¬ j < 0) (h2 : j.toNatClampNeg < n) : vp_in j n := fun h => h.elim h1 (fun q => absurd h2 (Nat.not_lt.mpr q))
theorem mx_static : Cond.static Lib.Math.max.name ∈ tb_G := tb_in 173 (by decide +kernel) rfl
theorem mx_init : Cond.initialized "java/lang/Math" ∈ tb_G := tb_in 14 (by decide +kernel) rfl
theorem mx_code : Cond.code Lib.Math.max.name Lib.Math.max.code 2 (some .int) ∈ tb_G := tb_in 174 (by decide +kernel) rfl
end
section
/-! NAMES: methods and words, by program (wip/p23/drive.py) -/
abbrev cX0_dropOldest : ByteArray := prog_2_method_3_code
abbrev yX0_dropOldest : MethodName := ⟨"StairBows$History", "dropOldest", "()V"⟩
abbrev cX2_takeFrom : ByteArray := prog_4_method_3_code
abbrev yX2_takeFrom : MethodName := ⟨"StairBows$Person", "takeFrom", "(LStairBows$Person;)V"⟩
abbrev cX3_takeFrom : ByteArray := prog_5_method_2_code
abbrev yX3_takeFrom : MethodName := ⟨"StairBows$Staircase", "takeFrom", "(LStairBows$Staircase;)V"⟩
abbrev cX0_keep : ByteArray := prog_2_method_2_code
abbrev yX0_keep : MethodName := ⟨"StairBows$History", "keep", "(LStairBows$Staircase;)V"⟩
abbrev cX1_charactersIn : ByteArray := prog_3_method_3_code
abbrev yX1_charactersIn : MethodName := ⟨"StairBows$Pad", "charactersIn", "(J)I"⟩
abbrev cX1_append : ByteArray := prog_3_method_2_code
abbrev yX1_append : MethodName := ⟨"StairBows$Pad", "append", "(J)I"⟩
abbrev cX1_canStandAt : ByteArray := prog_3_method_5_code
abbrev yX1_canStandAt : MethodName := ⟨"StairBows$Pad", "canStandAt", "(I)Z"⟩
abbrev cX1_firstFault : ByteArray := prog_3_method_4_code
abbrev yX1_firstFault : MethodName := ⟨"StairBows$Pad", "firstFault", "()I"⟩
abbrev cX1_isUp : ByteArray := prog_3_method_6_code
abbrev yX1_isUp : MethodName := ⟨"StairBows$Pad", "isUp", "(I)Z"⟩
abbrev cX1_rankOf : ByteArray := prog_3_method_7_code
abbrev yX1_rankOf : MethodName := ⟨"StairBows$Pad", "rankOf", "(I)I"⟩
abbrev cX2_enterHall : ByteArray := prog_4_method_2_code
abbrev yX2_enterHall : MethodName := ⟨"StairBows$Person", "enterHall", "(IZ)V"⟩
abbrev cX2_isOnWay : ByteArray := prog_4_method_4_code
abbrev yX2_isOnWay : MethodName := ⟨"StairBows$Person", "isOnWay", "()Z"⟩
abbrev cX2_standsOn : ByteArray := prog_4_method_5_code
abbrev yX2_standsOn : MethodName := ⟨"StairBows$Person", "standsOn", "(I)Z"⟩
abbrev cX2_nextStep : ByteArray := prog_4_method_6_code
abbrev yX2_nextStep : MethodName := ⟨"StairBows$Person", "nextStep", "()I"⟩
abbrev cX2_stepBehind : ByteArray := prog_4_method_7_code
abbrev yX2_stepBehind : MethodName := ⟨"StairBows$Person", "stepBehind", "()I"⟩
abbrev cX2_yieldsTo : ByteArray := prog_4_method_8_code
abbrev yX2_yieldsTo : MethodName := ⟨"StairBows$Person", "yieldsTo", "(LStairBows$Person;)Z"⟩
abbrev cX2_stay : ByteArray := prog_4_method_9_code
abbrev yX2_stay : MethodName := ⟨"StairBows$Person", "stay", "()V"⟩
abbrev cX2_bow : ByteArray := prog_4_method_10_code
abbrev yX2_bow : MethodName := ⟨"StairBows$Person", "bow", "(I)V"⟩
abbrev cX2_tell : ByteArray := prog_4_method_11_code
abbrev yX2_tell : MethodName := ⟨"StairBows$Person", "tell", "(I)I"⟩
abbrev cX3_admit : ByteArray := prog_5_method_3_code
/-- a method name whose word may not stand in these rows, read off the tables -/
def nmT (w : Option Cond) : String := match w with
  | some (.methodLink _ _ y) => y.name
  | _ => ""
abbrev yX3_admit : MethodName := ⟨"StairBows$Staircase", nmT lw_tbl[352]?, "(IZ)V"⟩
abbrev cX3_isLanding : ByteArray := prog_5_method_4_code
abbrev yX3_isLanding : MethodName := ⟨"StairBows$Staircase", "isLanding", "(I)Z"⟩
abbrev cX4_isStep : ByteArray := prog_1_method_23_code
abbrev yX4_isStep : MethodName := ⟨"StairBows", "isStep", "(I)Z"⟩
abbrev cX3_crowdOn : ByteArray := prog_5_method_5_code
abbrev yX3_crowdOn : MethodName := ⟨"StairBows$Staircase", "crowdOn", "(I)I"⟩
abbrev cX3_roomOn : ByteArray := prog_5_method_6_code
abbrev yX3_roomOn : MethodName := ⟨"StairBows$Staircase", "roomOn", "(I)I"⟩
abbrev cX3_greatestCrowd : ByteArray := prog_5_method_7_code
abbrev yX3_greatestCrowd : MethodName := ⟨"StairBows$Staircase", "greatestCrowd", "()I"⟩
abbrev cX3_highestOn : ByteArray := prog_5_method_8_code
abbrev yX3_highestOn : MethodName := ⟨"StairBows$Staircase", "highestOn", "(I)I"⟩
abbrev cX3_peopleWho : ByteArray := prog_5_method_9_code
abbrev yX3_peopleWho : MethodName := ⟨"StairBows$Staircase", "peopleWho", "(I)I"⟩
abbrev cX3_sumOf : ByteArray := prog_5_method_10_code
abbrev yX3_sumOf : MethodName := ⟨"StairBows$Staircase", "sumOf", "(I)I"⟩
abbrev cX3_isAnybodyOnWay : ByteArray := prog_5_method_11_code
abbrev yX3_isAnybodyOnWay : MethodName := ⟨"StairBows$Staircase", "isAnybodyOnWay", "()Z"⟩
abbrev cX3_bring : ByteArray := prog_5_method_16_code
abbrev yX3_bring : MethodName := ⟨"StairBows$Staircase", "bring", "(LStairBows$Person;III)V"⟩
abbrev cX3_yielderOn : ByteArray := prog_5_method_15_code
abbrev yX3_yielderOn : MethodName := ⟨"StairBows$Staircase", "yielderOn", "(ILStairBows$Person;)LStairBows$Person;"⟩
abbrev cX3_isCleared : ByteArray := prog_5_method_14_code
abbrev yX3_isCleared : MethodName := ⟨"StairBows$Staircase", "isCleared", "(ILStairBows$Person;)Z"⟩
abbrev cX3_move : ByteArray := prog_5_method_13_code
abbrev yX3_move : MethodName := ⟨"StairBows$Staircase", "move", "(LStairBows$Person;)V"⟩
abbrev cX3_tick : ByteArray := prog_5_method_12_code
abbrev yX3_tick : MethodName := ⟨"StairBows$Staircase", "tick", "()V"⟩
abbrev cX4_isSetting : ByteArray := prog_1_method_22_code
abbrev yX4_isSetting : MethodName := ⟨"StairBows", "isSetting", "(I)Z"⟩
abbrev cX4_set : ByteArray := prog_1_method_2_code
abbrev yX4_set : MethodName := ⟨"StairBows", "set", "(II)I"⟩
abbrev cJ6_bitCount_0f7a4 : ByteArray := prog_8_method_49_code
abbrev yJ6_bitCount_0f7a4 : MethodName := ⟨"java/lang/Integer", "bitCount", "(I)I"⟩
abbrev cX4_landing : ByteArray := prog_1_method_3_code
abbrev yX4_landing : MethodName := ⟨"StairBows", "landing", "(IZ)I"⟩
abbrev cX4_come : ByteArray := prog_1_method_4_code
abbrev yX4_come : MethodName := ⟨"StairBows", "come", "(IZ)I"⟩
abbrev cX4_read : ByteArray := prog_1_method_5_code
abbrev yX4_read : MethodName := ⟨"StairBows", "read", "()I"⟩
abbrev cX4_isPerson : ByteArray := prog_1_method_25_code
abbrev yX4_isPerson : MethodName := ⟨"StairBows", "isPerson", "(I)Z"⟩
abbrev cX4_turn : ByteArray := prog_1_method_6_code
abbrev yX4_turn : MethodName := ⟨"StairBows", "turn", "(I)I"⟩
abbrev cX4_pass : ByteArray := prog_1_method_7_code
abbrev yX4_pass : MethodName := ⟨"StairBows", "pass", "(I)I"⟩
abbrev cX4_person : ByteArray := prog_1_method_8_code
abbrev yX4_person : MethodName := ⟨"StairBows", "person", "(II)I"⟩
abbrev cX4_step : ByteArray := prog_1_method_9_code
abbrev yX4_step : MethodName := ⟨"StairBows", "step", "(II)I"⟩
abbrev cX4_does : ByteArray := prog_1_method_10_code
abbrev yX4_does : MethodName := ⟨"StairBows", "does", "(I)I"⟩
abbrev cX4_count : ByteArray := prog_1_method_11_code
abbrev yX4_count : MethodName := ⟨"StairBows", "count", "(I)I"⟩
abbrev cX4_untilArrived : ByteArray := prog_1_method_12_code
abbrev yX4_untilArrived : MethodName := ⟨"StairBows", "untilArrived", "(I)I"⟩
abbrev cX4_tryOut : ByteArray := prog_1_method_26_code
abbrev yX4_tryOut : MethodName := ⟨"StairBows", "tryOut", "(I)I"⟩
abbrev cX4_untilEmpty : ByteArray := prog_1_method_13_code
abbrev yX4_untilEmpty : MethodName := ⟨"StairBows", "untilEmpty", "()I"⟩
abbrev cX4_ifPassed : ByteArray := prog_1_method_14_code
abbrev yX4_ifPassed : MethodName := ⟨"StairBows", "ifPassed", "(II)I"⟩
abbrev cX4_bestLanding : ByteArray := prog_1_method_15_code
abbrev yX4_bestLanding : MethodName := ⟨"StairBows", "bestLanding", "()I"⟩
abbrev cX4_put : ByteArray := prog_1_method_16_code
abbrev yX4_put : MethodName := ⟨"StairBows", "put", "(J)I"⟩
abbrev cX4_wipe : ByteArray := prog_1_method_17_code
abbrev yX4_wipe : MethodName := ⟨"StairBows", "wipe", "()I"⟩
abbrev cX4_isSlot : ByteArray := prog_1_method_24_code
abbrev yX4_isSlot : MethodName := ⟨"StairBows", "isSlot", "(I)Z"⟩
abbrev cX4_save : ByteArray := prog_1_method_20_code
abbrev yX4_save : MethodName := ⟨"StairBows", "save", "(I)I"⟩
abbrev cX4_restore : ByteArray := prog_1_method_21_code
abbrev yX4_restore : MethodName := ⟨"StairBows", "restore", "(I)I"⟩
theorem me_X0_dropOldest : MeV yX0_dropOldest cX0_dropOldest 3 none 0 := ⟨⟨tb_in 181 (by decide +kernel) rfl, tb_in 0 (by decide +kernel) rfl, tb_in 12 (by decide +kernel) rfl, tb_in 182 (by decide +kernel) rfl⟩, rfl, by decide +kernel, by decide +kernel, by decide +kernel⟩
theorem me_X2_takeFrom : MeV yX2_takeFrom cX2_takeFrom 2 none 1 := ⟨⟨tb_in 191 (by decide +kernel) rfl, tb_in 192 (by decide +kernel) rfl, tb_in 11 (by decide +kernel) rfl, tb_in 193 (by decide +kernel) rfl⟩, rfl, by decide +kernel, by decide +kernel, by decide +kernel⟩
theorem me_X3_takeFrom : MeV yX3_takeFrom cX3_takeFrom 3 none 1 := ⟨⟨tb_in 184 (by decide +kernel) rfl, tb_in 185 (by decide +kernel) rfl, tb_in 10 (by decide +kernel) rfl, tb_in 186 (by decide +kernel) rfl⟩, rfl, by decide +kernel, by decide +kernel, by decide +kernel⟩
theorem me_X0_keep : MeV yX0_keep cX0_keep 2 none 1 := ⟨⟨tb_in 176 (by decide +kernel) rfl, tb_in 177 (by decide +kernel) rfl, tb_in 12 (by decide +kernel) rfl, tb_in 178 (by decide +kernel) rfl⟩, rfl, by decide +kernel, by decide +kernel, by decide +kernel⟩
theorem me_X1_charactersIn : MeS yX1_charactersIn cX1_charactersIn 7 (some .int) 1 := ⟨⟨tb_in 375 (by decide +kernel) rfl, tb_in 13 (by decide +kernel) rfl, tb_in 376 (by decide +kernel) rfl⟩, rfl, by decide +kernel, by decide +kernel, by decide +kernel⟩
theorem me_X1_append : MeV yX1_append cX1_append 5 (some .int) 1 := ⟨⟨tb_in 371 (by decide +kernel) rfl, tb_in 372 (by decide +kernel) rfl, tb_in 13 (by decide +kernel) rfl, tb_in 373 (by decide +kernel) rfl⟩, rfl, by decide +kernel, by decide +kernel, by decide +kernel⟩
theorem me_X1_canStandAt : MeV yX1_canStandAt cX1_canStandAt 3 (some .boolean) 1 := ⟨⟨tb_in 390 (by decide +kernel) rfl, tb_in 7 (by decide +kernel) rfl, tb_in 13 (by decide +kernel) rfl, tb_in 391 (by decide +kernel) rfl⟩, rfl, by decide +kernel, by decide +kernel, by decide +kernel⟩
theorem me_X1_firstFault : MeV yX1_firstFault cX1_firstFault 2 (some .int) 0 := ⟨⟨tb_in 385 (by decide +kernel) rfl, tb_in 386 (by decide +kernel) rfl, tb_in 13 (by decide +kernel) rfl, tb_in 387 (by decide +kernel) rfl⟩, rfl, by decide +kernel, by decide +kernel, by decide +kernel⟩
theorem me_X1_isUp : MeV yX1_isUp cX1_isUp 3 (some .boolean) 1 := ⟨⟨tb_in 397 (by decide +kernel) rfl, tb_in 398 (by decide +kernel) rfl, tb_in 13 (by decide +kernel) rfl, tb_in 399 (by decide +kernel) rfl⟩, rfl, by decide +kernel, by decide +kernel, by decide +kernel⟩
theorem me_X1_rankOf : MeV yX1_rankOf cX1_rankOf 3 (some .int) 1 := ⟨⟨tb_in 393 (by decide +kernel) rfl, tb_in 394 (by decide +kernel) rfl, tb_in 13 (by decide +kernel) rfl, tb_in 395 (by decide +kernel) rfl⟩, rfl, by decide +kernel, by decide +kernel, by decide +kernel⟩
theorem me_X2_enterHall : MeV yX2_enterHall cX2_enterHall 3 none 2 := ⟨⟨tb_in 357 (by decide +kernel) rfl, tb_in 358 (by decide +kernel) rfl, tb_in 11 (by decide +kernel) rfl, tb_in 359 (by decide +kernel) rfl⟩, rfl, by decide +kernel, by decide +kernel, by decide +kernel⟩
theorem me_X2_isOnWay : MeV yX2_isOnWay cX2_isOnWay 1 (some .boolean) 0 := ⟨⟨tb_in 218 (by decide +kernel) rfl, tb_in 219 (by decide +kernel) rfl, tb_in 11 (by decide +kernel) rfl, tb_in 220 (by decide +kernel) rfl⟩, rfl, by decide +kernel, by decide +kernel, by decide +kernel⟩
theorem me_X2_standsOn : MeV yX2_standsOn cX2_standsOn 2 (some .boolean) 1 := ⟨⟨tb_in 252 (by decide +kernel) rfl, tb_in 253 (by decide +kernel) rfl, tb_in 11 (by decide +kernel) rfl, tb_in 254 (by decide +kernel) rfl⟩, rfl, by decide +kernel, by decide +kernel, by decide +kernel⟩
theorem me_X2_nextStep : MeV yX2_nextStep cX2_nextStep 1 (some .int) 0 := ⟨⟨tb_in 301 (by decide +kernel) rfl, tb_in 302 (by decide +kernel) rfl, tb_in 11 (by decide +kernel) rfl, tb_in 303 (by decide +kernel) rfl⟩, rfl, by decide +kernel, by decide +kernel, by decide +kernel⟩
theorem me_X2_stepBehind : MeV yX2_stepBehind cX2_stepBehind 1 (some .int) 0 := ⟨⟨tb_in 322 (by decide +kernel) rfl, tb_in 323 (by decide +kernel) rfl, tb_in 11 (by decide +kernel) rfl, tb_in 324 (by decide +kernel) rfl⟩, rfl, by decide +kernel, by decide +kernel, by decide +kernel⟩
theorem me_X2_yieldsTo : MeV yX2_yieldsTo cX2_yieldsTo 2 (some .boolean) 1 := ⟨⟨tb_in 318 (by decide +kernel) rfl, tb_in 319 (by decide +kernel) rfl, tb_in 11 (by decide +kernel) rfl, tb_in 320 (by decide +kernel) rfl⟩, rfl, by decide +kernel, by decide +kernel, by decide +kernel⟩
theorem me_X2_stay : MeV yX2_stay cX2_stay 1 none 0 := ⟨⟨tb_in 330 (by decide +kernel) rfl, tb_in 331 (by decide +kernel) rfl, tb_in 11 (by decide +kernel) rfl, tb_in 332 (by decide +kernel) rfl⟩, rfl, by decide +kernel, by decide +kernel, by decide +kernel⟩
theorem me_X2_bow : MeV yX2_bow cX2_bow 2 none 1 := ⟨⟨tb_in 326 (by decide +kernel) rfl, tb_in 327 (by decide +kernel) rfl, tb_in 11 (by decide +kernel) rfl, tb_in 328 (by decide +kernel) rfl⟩, rfl, by decide +kernel, by decide +kernel, by decide +kernel⟩
theorem me_X2_tell : MeV yX2_tell cX2_tell 2 (some .int) 1 := ⟨⟨tb_in 214 (by decide +kernel) rfl, tb_in 215 (by decide +kernel) rfl, tb_in 11 (by decide +kernel) rfl, tb_in 216 (by decide +kernel) rfl⟩, rfl, by decide +kernel, by decide +kernel, by decide +kernel⟩
theorem me_X3_admit : MeV yX3_admit cX3_admit 3 none 2 := ⟨⟨tb_in 353 (by decide +kernel) rfl, tb_in 354 (by decide +kernel) rfl, tb_in 10 (by decide +kernel) rfl, tb_in 355 (by decide +kernel) rfl⟩, rfl, by decide +kernel, by decide +kernel, by decide +kernel⟩
theorem me_X3_isLanding : MeV yX3_isLanding cX3_isLanding 2 (some .boolean) 1 := ⟨⟨tb_in 233 (by decide +kernel) rfl, tb_in 234 (by decide +kernel) rfl, tb_in 10 (by decide +kernel) rfl, tb_in 235 (by decide +kernel) rfl⟩, rfl, by decide +kernel, by decide +kernel, by decide +kernel⟩
theorem me_X4_isStep : MeS yX4_isStep cX4_isStep 1 (some .boolean) 1 := ⟨⟨tb_in 230 (by decide +kernel) rfl, tb_in 9 (by decide +kernel) rfl, tb_in 231 (by decide +kernel) rfl⟩, rfl, by decide +kernel, by decide +kernel, by decide +kernel⟩
theorem me_X3_crowdOn : MeV yX3_crowdOn cX3_crowdOn 2 (some .int) 1 := ⟨⟨tb_in 237 (by decide +kernel) rfl, tb_in 238 (by decide +kernel) rfl, tb_in 10 (by decide +kernel) rfl, tb_in 239 (by decide +kernel) rfl⟩, rfl, by decide +kernel, by decide +kernel, by decide +kernel⟩
theorem me_X3_roomOn : MeV yX3_roomOn cX3_roomOn 2 (some .int) 1 := ⟨⟨tb_in 242 (by decide +kernel) rfl, tb_in 243 (by decide +kernel) rfl, tb_in 10 (by decide +kernel) rfl, tb_in 244 (by decide +kernel) rfl⟩, rfl, by decide +kernel, by decide +kernel, by decide +kernel⟩
theorem me_X3_greatestCrowd : MeV yX3_greatestCrowd cX3_greatestCrowd 3 (some .int) 0 := ⟨⟨tb_in 169 (by decide +kernel) rfl, tb_in 170 (by decide +kernel) rfl, tb_in 10 (by decide +kernel) rfl, tb_in 171 (by decide +kernel) rfl⟩, rfl, by decide +kernel, by decide +kernel, by decide +kernel⟩
theorem me_X3_highestOn : MeV yX3_highestOn cX3_highestOn 5 (some .int) 1 := ⟨⟨tb_in 248 (by decide +kernel) rfl, tb_in 249 (by decide +kernel) rfl, tb_in 10 (by decide +kernel) rfl, tb_in 250 (by decide +kernel) rfl⟩, rfl, by decide +kernel, by decide +kernel, by decide +kernel⟩
theorem me_X3_peopleWho : MeV yX3_peopleWho cX3_peopleWho 4 (some .int) 1 := ⟨⟨tb_in 206 (by decide +kernel) rfl, tb_in 207 (by decide +kernel) rfl, tb_in 10 (by decide +kernel) rfl, tb_in 208 (by decide +kernel) rfl⟩, rfl, by decide +kernel, by decide +kernel, by decide +kernel⟩
theorem me_X3_sumOf : MeV yX3_sumOf cX3_sumOf 4 (some .int) 1 := ⟨⟨tb_in 210 (by decide +kernel) rfl, tb_in 211 (by decide +kernel) rfl, tb_in 10 (by decide +kernel) rfl, tb_in 212 (by decide +kernel) rfl⟩, rfl, by decide +kernel, by decide +kernel, by decide +kernel⟩
theorem me_X3_isAnybodyOnWay : MeV yX3_isAnybodyOnWay cX3_isAnybodyOnWay 2 (some .boolean) 0 := ⟨⟨tb_in 288 (by decide +kernel) rfl, tb_in 289 (by decide +kernel) rfl, tb_in 10 (by decide +kernel) rfl, tb_in 290 (by decide +kernel) rfl⟩, rfl, by decide +kernel, by decide +kernel, by decide +kernel⟩
theorem me_X3_bring : MeV yX3_bring cX3_bring 5 none 4 := ⟨⟨tb_in 306 (by decide +kernel) rfl, tb_in 4 (by decide +kernel) rfl, tb_in 10 (by decide +kernel) rfl, tb_in 307 (by decide +kernel) rfl⟩, rfl, by decide +kernel, by decide +kernel, by decide +kernel⟩
theorem me_X3_yielderOn : MeV yX3_yielderOn cX3_yielderOn 6 (some (.object "StairBows$Person")) 2 := ⟨⟨tb_in 315 (by decide +kernel) rfl, tb_in 6 (by decide +kernel) rfl, tb_in 10 (by decide +kernel) rfl, tb_in 316 (by decide +kernel) rfl⟩, rfl, by decide +kernel, by decide +kernel, by decide +kernel⟩
theorem me_X3_isCleared : MeV yX3_isCleared cX3_isCleared 5 (some .boolean) 2 := ⟨⟨tb_in 311 (by decide +kernel) rfl, tb_in 5 (by decide +kernel) rfl, tb_in 10 (by decide +kernel) rfl, tb_in 312 (by decide +kernel) rfl⟩, rfl, by decide +kernel, by decide +kernel, by decide +kernel⟩
theorem me_X3_move : MeV yX3_move cX3_move 3 none 1 := ⟨⟨tb_in 298 (by decide +kernel) rfl, tb_in 3 (by decide +kernel) rfl, tb_in 10 (by decide +kernel) rfl, tb_in 299 (by decide +kernel) rfl⟩, rfl, by decide +kernel, by decide +kernel, by decide +kernel⟩
theorem me_X3_tick : MeV yX3_tick cX3_tick 4 none 0 := ⟨⟨tb_in 293 (by decide +kernel) rfl, tb_in 294 (by decide +kernel) rfl, tb_in 10 (by decide +kernel) rfl, tb_in 295 (by decide +kernel) rfl⟩, rfl, by decide +kernel, by decide +kernel, by decide +kernel⟩
theorem me_X4_isSetting : MeS yX4_isSetting cX4_isSetting 1 (some .boolean) 1 := ⟨⟨tb_in 162 (by decide +kernel) rfl, tb_in 9 (by decide +kernel) rfl, tb_in 163 (by decide +kernel) rfl⟩, rfl, by decide +kernel, by decide +kernel, by decide +kernel⟩
theorem me_X4_set : MeV yX4_set cX4_set 4 (some .int) 2 := ⟨⟨tb_in 158 (by decide +kernel) rfl, tb_in 159 (by decide +kernel) rfl, tb_in 9 (by decide +kernel) rfl, tb_in 160 (by decide +kernel) rfl⟩, rfl, by decide +kernel, by decide +kernel, by decide +kernel⟩
theorem me_J6_bitCount_0f7a4 : MeS yJ6_bitCount_0f7a4 cJ6_bitCount_0f7a4 1 (some .int) 1 := ⟨⟨tb_in 260 (by decide +kernel) rfl, tb_in 16 (by decide +kernel) rfl, tb_in 261 (by decide +kernel) rfl⟩, rfl, by decide +kernel, by decide +kernel, by decide +kernel⟩
theorem me_X4_landing : MeV yX4_landing cX4_landing 3 (some .int) 2 := ⟨⟨tb_in 256 (by decide +kernel) rfl, tb_in 257 (by decide +kernel) rfl, tb_in 9 (by decide +kernel) rfl, tb_in 258 (by decide +kernel) rfl⟩, rfl, by decide +kernel, by decide +kernel, by decide +kernel⟩
theorem me_X4_come : MeV yX4_come cX4_come 3 (some .int) 2 := ⟨⟨tb_in 349 (by decide +kernel) rfl, tb_in 350 (by decide +kernel) rfl, tb_in 9 (by decide +kernel) rfl, tb_in 351 (by decide +kernel) rfl⟩, rfl, by decide +kernel, by decide +kernel, by decide +kernel⟩
theorem me_X4_read : MeV yX4_read cX4_read 3 (some .int) 0 := ⟨⟨tb_in 381 (by decide +kernel) rfl, tb_in 382 (by decide +kernel) rfl, tb_in 9 (by decide +kernel) rfl, tb_in 383 (by decide +kernel) rfl⟩, rfl, by decide +kernel, by decide +kernel, by decide +kernel⟩
theorem me_X4_isPerson : MeV yX4_isPerson cX4_isPerson 2 (some .boolean) 1 := ⟨⟨tb_in 271 (by decide +kernel) rfl, tb_in 1 (by decide +kernel) rfl, tb_in 9 (by decide +kernel) rfl, tb_in 272 (by decide +kernel) rfl⟩, rfl, by decide +kernel, by decide +kernel, by decide +kernel⟩
theorem me_X4_turn : MeV yX4_turn cX4_turn 3 (some .int) 1 := ⟨⟨tb_in 275 (by decide +kernel) rfl, tb_in 276 (by decide +kernel) rfl, tb_in 9 (by decide +kernel) rfl, tb_in 277 (by decide +kernel) rfl⟩, rfl, by decide +kernel, by decide +kernel, by decide +kernel⟩
theorem me_X4_pass : MeV yX4_pass cX4_pass 4 (some .int) 1 := ⟨⟨tb_in 345 (by decide +kernel) rfl, tb_in 346 (by decide +kernel) rfl, tb_in 9 (by decide +kernel) rfl, tb_in 347 (by decide +kernel) rfl⟩, rfl, by decide +kernel, by decide +kernel, by decide +kernel⟩
theorem me_X4_person : MeV yX4_person cX4_person 3 (some .int) 2 := ⟨⟨tb_in 266 (by decide +kernel) rfl, tb_in 267 (by decide +kernel) rfl, tb_in 9 (by decide +kernel) rfl, tb_in 268 (by decide +kernel) rfl⟩, rfl, by decide +kernel, by decide +kernel, by decide +kernel⟩
theorem me_X4_step : MeV yX4_step cX4_step 3 (some .int) 2 := ⟨⟨tb_in 226 (by decide +kernel) rfl, tb_in 227 (by decide +kernel) rfl, tb_in 9 (by decide +kernel) rfl, tb_in 228 (by decide +kernel) rfl⟩, rfl, by decide +kernel, by decide +kernel, by decide +kernel⟩
theorem me_X4_does : MeV yX4_does cX4_does 2 (some .int) 1 := ⟨⟨tb_in 412 (by decide +kernel) rfl, tb_in 413 (by decide +kernel) rfl, tb_in 9 (by decide +kernel) rfl, tb_in 414 (by decide +kernel) rfl⟩, rfl, by decide +kernel, by decide +kernel, by decide +kernel⟩
theorem me_X4_count : MeV yX4_count cX4_count 2 (some .int) 1 := ⟨⟨tb_in 202 (by decide +kernel) rfl, tb_in 203 (by decide +kernel) rfl, tb_in 9 (by decide +kernel) rfl, tb_in 204 (by decide +kernel) rfl⟩, rfl, by decide +kernel, by decide +kernel, by decide +kernel⟩
theorem me_X4_untilArrived : MeV yX4_untilArrived cX4_untilArrived 4 (some .int) 1 := ⟨⟨tb_in 416 (by decide +kernel) rfl, tb_in 417 (by decide +kernel) rfl, tb_in 9 (by decide +kernel) rfl, tb_in 418 (by decide +kernel) rfl⟩, rfl, by decide +kernel, by decide +kernel, by decide +kernel⟩
theorem me_X4_tryOut : MeV yX4_tryOut cX4_tryOut 3 (some .int) 1 := ⟨⟨tb_in 285 (by decide +kernel) rfl, tb_in 2 (by decide +kernel) rfl, tb_in 9 (by decide +kernel) rfl, tb_in 286 (by decide +kernel) rfl⟩, rfl, by decide +kernel, by decide +kernel, by decide +kernel⟩
theorem me_X4_untilEmpty : MeV yX4_untilEmpty cX4_untilEmpty 2 (some .int) 0 := ⟨⟨tb_in 279 (by decide +kernel) rfl, tb_in 280 (by decide +kernel) rfl, tb_in 9 (by decide +kernel) rfl, tb_in 281 (by decide +kernel) rfl⟩, rfl, by decide +kernel, by decide +kernel, by decide +kernel⟩
theorem me_X4_ifPassed : MeV yX4_ifPassed cX4_ifPassed 3 (some .int) 2 := ⟨⟨tb_in 408 (by decide +kernel) rfl, tb_in 409 (by decide +kernel) rfl, tb_in 9 (by decide +kernel) rfl, tb_in 410 (by decide +kernel) rfl⟩, rfl, by decide +kernel, by decide +kernel, by decide +kernel⟩
theorem me_X4_bestLanding : MeV yX4_bestLanding cX4_bestLanding 5 (some .int) 0 := ⟨⟨tb_in 404 (by decide +kernel) rfl, tb_in 405 (by decide +kernel) rfl, tb_in 9 (by decide +kernel) rfl, tb_in 406 (by decide +kernel) rfl⟩, rfl, by decide +kernel, by decide +kernel, by decide +kernel⟩
theorem me_X4_put : MeV yX4_put cX4_put 3 (some .int) 1 := ⟨⟨tb_in 367 (by decide +kernel) rfl, tb_in 368 (by decide +kernel) rfl, tb_in 9 (by decide +kernel) rfl, tb_in 369 (by decide +kernel) rfl⟩, rfl, by decide +kernel, by decide +kernel, by decide +kernel⟩
theorem me_X4_wipe : MeV yX4_wipe cX4_wipe 2 (some .int) 0 := ⟨⟨tb_in 361 (by decide +kernel) rfl, tb_in 362 (by decide +kernel) rfl, tb_in 9 (by decide +kernel) rfl, tb_in 363 (by decide +kernel) rfl⟩, rfl, by decide +kernel, by decide +kernel, by decide +kernel⟩
theorem me_X4_isSlot : MeS yX4_isSlot cX4_isSlot 1 (some .boolean) 1 := ⟨⟨tb_in 338 (by decide +kernel) rfl, tb_in 9 (by decide +kernel) rfl, tb_in 339 (by decide +kernel) rfl⟩, rfl, by decide +kernel, by decide +kernel, by decide +kernel⟩
theorem me_X4_save : MeV yX4_save cX4_save 2 (some .int) 1 := ⟨⟨tb_in 334 (by decide +kernel) rfl, tb_in 335 (by decide +kernel) rfl, tb_in 9 (by decide +kernel) rfl, tb_in 336 (by decide +kernel) rfl⟩, rfl, by decide +kernel, by decide +kernel, by decide +kernel⟩
theorem me_X4_restore : MeV yX4_restore cX4_restore 2 (some .int) 1 := ⟨⟨tb_in 341 (by decide +kernel) rfl, tb_in 342 (by decide +kernel) rfl, tb_in 9 (by decide +kernel) rfl, tb_in 343 (by decide +kernel) rfl⟩, rfl, by decide +kernel, by decide +kernel, by decide +kernel⟩
theorem mf_History_11 : Cond.fieldLink "StairBows$History" 11 "StairBows$History" "states" "[LStairBows$Staircase;" ∈ tb_G := tb_in 114 (by decide +kernel) rfl
theorem mf_History_18 : Cond.fieldLink "StairBows$History" 18 "StairBows$History" "size" "I" ∈ tb_G := tb_in 115 (by decide +kernel) rfl
theorem mf_Person_9 : Cond.fieldLink "StairBows$Person" 9 "StairBows$Person" "rank" "I" ∈ tb_G := tb_in 40 (by decide +kernel) rfl
theorem mf_Person_15 : Cond.fieldLink "StairBows$Person" 15 "StairBows$Person" "goesUp" "Z" ∈ tb_G := tb_in 42 (by decide +kernel) rfl
theorem mf_Person_19 : Cond.fieldLink "StairBows$Person" 19 "StairBows$Person" "place" "I" ∈ tb_G := tb_in 44 (by decide +kernel) rfl
theorem mf_Person_22 : Cond.fieldLink "StairBows$Person" 22 "StairBows$Person" "at" "I" ∈ tb_G := tb_in 47 (by decide +kernel) rfl
theorem mf_Person_25 : Cond.fieldLink "StairBows$Person" 25 "StairBows$Person" "waits" "I" ∈ tb_G := tb_in 49 (by decide +kernel) rfl
theorem mf_Person_28 : Cond.fieldLink "StairBows$Person" 28 "StairBows$Person" "yields" "I" ∈ tb_G := tb_in 50 (by decide +kernel) rfl
theorem mf_Person_31 : Cond.fieldLink "StairBows$Person" 31 "StairBows$Person" "bows" "I" ∈ tb_G := tb_in 51 (by decide +kernel) rfl
theorem mf_Person_34 : Cond.fieldLink "StairBows$Person" 34 "StairBows$Person" "endedAt" "I" ∈ tb_G := tb_in 52 (by decide +kernel) rfl
theorem mf_Person_37 : Cond.fieldLink "StairBows$Person" 37 "StairBows$Person" "stayed" "I" ∈ tb_G := tb_in 54 (by decide +kernel) rfl
theorem mf_Staircase_13 : Cond.fieldLink "StairBows$Staircase" 13 "StairBows$Staircase" "settings" "[I" ∈ tb_G := tb_in 81 (by decide +kernel) rfl
theorem ml_Staircase_32 : Cond.methodLink "StairBows$Staircase" 32 ⟨"java/lang/System", "arraycopy", "(Ljava/lang/Object;ILjava/lang/Object;II)V"⟩ ∈ tb_G := tb_in 187 (by decide +kernel) rfl
theorem mf_Staircase_24 : Cond.fieldLink "StairBows$Staircase" 24 "StairBows$Staircase" "crowds" "[I" ∈ tb_G := tb_in 85 (by decide +kernel) rfl
theorem mf_Staircase_27 : Cond.fieldLink "StairBows$Staircase" 27 "StairBows$Staircase" "landings" "I" ∈ tb_G := tb_in 86 (by decide +kernel) rfl
theorem mf_Staircase_38 : Cond.fieldLink "StairBows$Staircase" 38 "StairBows$Staircase" "size" "I" ∈ tb_G := tb_in 88 (by decide +kernel) rfl
theorem mf_Staircase_41 : Cond.fieldLink "StairBows$Staircase" 41 "StairBows$Staircase" "ticks" "I" ∈ tb_G := tb_in 90 (by decide +kernel) rfl
theorem mf_Staircase_20 : Cond.fieldLink "StairBows$Staircase" 20 "StairBows$Staircase" "people" "[LStairBows$Person;" ∈ tb_G := tb_in 83 (by decide +kernel) rfl
theorem ml_Staircase_44 : Cond.methodLink "StairBows$Staircase" 44 yX2_takeFrom ∈ tb_G := tb_in 190 (by decide +kernel) rfl
theorem ml_History_25 : Cond.methodLink "StairBows$History" 25 yX3_takeFrom ∈ tb_G := tb_in 183 (by decide +kernel) rfl
theorem ml_History_22 : Cond.methodLink "StairBows$History" 22 yX0_dropOldest ∈ tb_G := tb_in 179 (by decide +kernel) rfl
theorem mk_Pad_23 : Cond.constantLong "StairBows$Pad" 23 (255) ∈ tb_G := tb_in 377 (by decide +kernel) rfl
theorem mk_Pad_25 : Cond.constantLong "StairBows$Pad" 25 (33) ∈ tb_G := tb_in 378 (by decide +kernel) rfl
theorem mk_Pad_27 : Cond.constantLong "StairBows$Pad" 27 (126) ∈ tb_G := tb_in 379 (by decide +kernel) rfl
theorem ml_Pad_15 : Cond.methodLink "StairBows$Pad" 15 yX1_charactersIn ∈ tb_G := tb_in 374 (by decide +kernel) rfl
theorem mf_Pad_19 : Cond.fieldLink "StairBows$Pad" 19 "StairBows$Pad" "length" "I" ∈ tb_G := tb_in 129 (by decide +kernel) rfl
theorem mf_Pad_9 : Cond.fieldLink "StairBows$Pad" 9 "StairBows$Pad" "signs" "[C" ∈ tb_G := tb_in 128 (by decide +kernel) rfl
theorem ml_Pad_29 : Cond.methodLink "StairBows$Pad" 29 yX1_canStandAt ∈ tb_G := tb_in 388 (by decide +kernel) rfl
theorem mf_Person_40 : Cond.fieldLink "StairBows$Person" 40 "StairBows$Person" "deed" "I" ∈ tb_G := tb_in 56 (by decide +kernel) rfl
theorem ml_Person_43 : Cond.methodLink "StairBows$Person" 43 yX2_isOnWay ∈ tb_G := tb_in 217 (by decide +kernel) rfl
theorem ml_Staircase_48 : Cond.methodLink "StairBows$Staircase" 48 yX2_enterHall ∈ tb_G := tb_in 356 (by decide +kernel) rfl
theorem ml_Staircase_56 : Cond.methodLink "StairBows$Staircase" 56 yX3_isLanding ∈ tb_G := tb_in 245 (by decide +kernel) rfl
theorem ml_Staircase_59 : Cond.methodLink "StairBows$Staircase" 59 yX3_crowdOn ∈ tb_G := tb_in 246 (by decide +kernel) rfl
theorem ml_Staircase_63 : Cond.methodLink "StairBows$Staircase" 63 ⟨"java/lang/Math", "max", "(II)I"⟩ ∈ tb_G := tb_in 172 (by decide +kernel) rfl
theorem ml_Staircase_69 : Cond.methodLink "StairBows$Staircase" 69 yX2_standsOn ∈ tb_G := tb_in 251 (by decide +kernel) rfl
theorem mf_Staircase_72 : Cond.fieldLink "StairBows$Staircase" 72 "StairBows$Person" "rank" "I" ∈ tb_G := tb_in 41 (by decide +kernel) rfl
theorem mf_Staircase_75 : Cond.fieldLink "StairBows$Staircase" 75 "StairBows$Person" "place" "I" ∈ tb_G := tb_in 46 (by decide +kernel) rfl
theorem ml_Staircase_78 : Cond.methodLink "StairBows$Staircase" 78 yX2_tell ∈ tb_G := tb_in 213 (by decide +kernel) rfl
theorem ml_Staircase_81 : Cond.methodLink "StairBows$Staircase" 81 yX2_isOnWay ∈ tb_G := tb_in 291 (by decide +kernel) rfl
theorem mf_Staircase_127 : Cond.fieldLink "StairBows$Staircase" 127 "StairBows$Person" "at" "I" ∈ tb_G := tb_in 48 (by decide +kernel) rfl
theorem mf_Staircase_130 : Cond.fieldLink "StairBows$Staircase" 130 "StairBows$Person" "endedAt" "I" ∈ tb_G := tb_in 53 (by decide +kernel) rfl
theorem mf_Staircase_85 : Cond.fieldLink "StairBows$Staircase" 85 "StairBows$Person" "deed" "I" ∈ tb_G := tb_in 58 (by decide +kernel) rfl
theorem mf_Staircase_109 : Cond.fieldLink "StairBows$Staircase" 109 "StairBows$Person" "stayed" "I" ∈ tb_G := tb_in 55 (by decide +kernel) rfl
theorem ml_Staircase_123 : Cond.methodLink "StairBows$Staircase" 123 yX2_yieldsTo ∈ tb_G := tb_in 317 (by decide +kernel) rfl
theorem ml_Staircase_112 : Cond.methodLink "StairBows$Staircase" 112 yX3_yielderOn ∈ tb_G := tb_in 313 (by decide +kernel) rfl
theorem ml_Staircase_116 : Cond.methodLink "StairBows$Staircase" 116 yX2_stepBehind ∈ tb_G := tb_in 321 (by decide +kernel) rfl
theorem ml_Staircase_95 : Cond.methodLink "StairBows$Staircase" 95 yX3_bring ∈ tb_G := tb_in 304 (by decide +kernel) rfl
theorem ml_Staircase_119 : Cond.methodLink "StairBows$Staircase" 119 yX2_bow ∈ tb_G := tb_in 325 (by decide +kernel) rfl
theorem ml_Staircase_99 : Cond.methodLink "StairBows$Staircase" 99 yX3_roomOn ∈ tb_G := tb_in 308 (by decide +kernel) rfl
theorem ml_Staircase_91 : Cond.methodLink "StairBows$Staircase" 91 yX2_nextStep ∈ tb_G := tb_in 300 (by decide +kernel) rfl
theorem ml_Staircase_102 : Cond.methodLink "StairBows$Staircase" 102 yX3_isCleared ∈ tb_G := tb_in 309 (by decide +kernel) rfl
theorem ml_Staircase_106 : Cond.methodLink "StairBows$Staircase" 106 yX2_stay ∈ tb_G := tb_in 329 (by decide +kernel) rfl
theorem ml_Staircase_88 : Cond.methodLink "StairBows$Staircase" 88 yX3_move ∈ tb_G := tb_in 296 (by decide +kernel) rfl
theorem ml_StairBows_41 : Cond.methodLink "StairBows" 41 yX4_isSetting ∈ tb_G := tb_in 161 (by decide +kernel) rfl
theorem mf_StairBows_45 : Cond.fieldLink "StairBows" 45 "StairBows" "LEAST_VALUE" "[I" ∈ tb_G := tb_in 164 (by decide +kernel) rfl
theorem mf_StairBows_49 : Cond.fieldLink "StairBows" 49 "StairBows" "GREATEST_VALUE" "[I" ∈ tb_G := tb_in 166 (by decide +kernel) rfl
theorem mf_StairBows_22 : Cond.fieldLink "StairBows" 22 "StairBows" "history" "LStairBows$History;" ∈ tb_G := tb_in 140 (by decide +kernel) rfl
theorem mf_StairBows_10 : Cond.fieldLink "StairBows" 10 "StairBows" "now" "LStairBows$Staircase;" ∈ tb_G := tb_in 138 (by decide +kernel) rfl
theorem ml_StairBows_56 : Cond.methodLink "StairBows" 56 yX0_keep ∈ tb_G := tb_in 175 (by decide +kernel) rfl
theorem mf_StairBows_60 : Cond.fieldLink "StairBows" 60 "StairBows$Staircase" "settings" "[I" ∈ tb_G := tb_in 82 (by decide +kernel) rfl
theorem ml_StairBows_52 : Cond.methodLink "StairBows" 52 yX3_greatestCrowd ∈ tb_G := tb_in 168 (by decide +kernel) rfl
theorem mk_Integer_265 : Cond.constant "java/lang/Integer" 265 (1431655765) ∈ tb_G := tb_in 262 (by decide +kernel) rfl
theorem mk_Integer_266 : Cond.constant "java/lang/Integer" 266 (858993459) ∈ tb_G := tb_in 263 (by decide +kernel) rfl
theorem mk_Integer_267 : Cond.constant "java/lang/Integer" 267 (252645135) ∈ tb_G := tb_in 264 (by decide +kernel) rfl
theorem ml_StairBows_63 : Cond.methodLink "StairBows" 63 yX4_isStep ∈ tb_G := tb_in 229 (by decide +kernel) rfl
theorem ml_StairBows_66 : Cond.methodLink "StairBows" 66 yX3_isLanding ∈ tb_G := tb_in 232 (by decide +kernel) rfl
theorem ml_StairBows_69 : Cond.methodLink "StairBows" 69 yX3_crowdOn ∈ tb_G := tb_in 236 (by decide +kernel) rfl
theorem mf_StairBows_73 : Cond.fieldLink "StairBows" 73 "StairBows$Staircase" "landings" "I" ∈ tb_G := tb_in 87 (by decide +kernel) rfl
theorem ml_StairBows_77 : Cond.methodLink "StairBows" 77 yJ6_bitCount_0f7a4 ∈ tb_G := tb_in 259 (by decide +kernel) rfl
theorem mf_StairBows_82 : Cond.fieldLink "StairBows" 82 "StairBows$Staircase" "size" "I" ∈ tb_G := tb_in 89 (by decide +kernel) rfl
theorem ml_StairBows_85 : Cond.methodLink "StairBows" 85 yX3_admit ∈ tb_G := tb_in 352 (by decide +kernel) rfl
theorem mf_StairBows_37 : Cond.fieldLink "StairBows" 37 "StairBows" "pad" "LStairBows$Pad;" ∈ tb_G := tb_in 143 (by decide +kernel) rfl
theorem ml_StairBows_89 : Cond.methodLink "StairBows" 89 yX1_firstFault ∈ tb_G := tb_in 384 (by decide +kernel) rfl
theorem mf_StairBows_92 : Cond.fieldLink "StairBows" 92 "StairBows$Pad" "length" "I" ∈ tb_G := tb_in 130 (by decide +kernel) rfl
theorem ml_StairBows_95 : Cond.methodLink "StairBows" 95 yX1_rankOf ∈ tb_G := tb_in 392 (by decide +kernel) rfl
theorem ml_StairBows_98 : Cond.methodLink "StairBows" 98 yX1_isUp ∈ tb_G := tb_in 396 (by decide +kernel) rfl
theorem ml_StairBows_101 : Cond.methodLink "StairBows" 101 yX4_isPerson ∈ tb_G := tb_in 269 (by decide +kernel) rfl
theorem mf_StairBows_104 : Cond.fieldLink "StairBows" 104 "StairBows$Staircase" "people" "[LStairBows$Person;" ∈ tb_G := tb_in 84 (by decide +kernel) rfl
theorem mf_StairBows_108 : Cond.fieldLink "StairBows" 108 "StairBows$Person" "place" "I" ∈ tb_G := tb_in 45 (by decide +kernel) rfl
theorem mf_StairBows_113 : Cond.fieldLink "StairBows" 113 "StairBows$Person" "goesUp" "Z" ∈ tb_G := tb_in 43 (by decide +kernel) rfl
theorem mf_StairBows_117 : Cond.fieldLink "StairBows" 117 "StairBows$Staircase" "ticks" "I" ∈ tb_G := tb_in 91 (by decide +kernel) rfl
theorem ml_StairBows_120 : Cond.methodLink "StairBows" 120 yX3_peopleWho ∈ tb_G := tb_in 205 (by decide +kernel) rfl
theorem ml_StairBows_123 : Cond.methodLink "StairBows" 123 yX3_tick ∈ tb_G := tb_in 292 (by decide +kernel) rfl
theorem ml_StairBows_126 : Cond.methodLink "StairBows" 126 yX2_tell ∈ tb_G := tb_in 273 (by decide +kernel) rfl
theorem ml_StairBows_129 : Cond.methodLink "StairBows" 129 yX3_roomOn ∈ tb_G := tb_in 241 (by decide +kernel) rfl
theorem ml_StairBows_132 : Cond.methodLink "StairBows" 132 yX3_highestOn ∈ tb_G := tb_in 247 (by decide +kernel) rfl
theorem mf_StairBows_16 : Cond.fieldLink "StairBows" 16 "StairBows" "trial" "LStairBows$Staircase;" ∈ tb_G := tb_in 139 (by decide +kernel) rfl
theorem ml_StairBows_135 : Cond.methodLink "StairBows" 135 yX3_takeFrom ∈ tb_G := tb_in 282 (by decide +kernel) rfl
theorem mf_StairBows_138 : Cond.fieldLink "StairBows" 138 "StairBows$Person" "deed" "I" ∈ tb_G := tb_in 57 (by decide +kernel) rfl
theorem ml_StairBows_141 : Cond.methodLink "StairBows" 141 yX3_sumOf ∈ tb_G := tb_in 209 (by decide +kernel) rfl
theorem mf_StairBows_144 : Cond.fieldLink "StairBows" 144 "StairBows$History" "size" "I" ∈ tb_G := tb_in 116 (by decide +kernel) rfl
theorem ml_StairBows_145 : Cond.methodLink "StairBows" 145 yX2_isOnWay ∈ tb_G := tb_in 419 (by decide +kernel) rfl
theorem ml_StairBows_152 : Cond.methodLink "StairBows" 152 yX3_isAnybodyOnWay ∈ tb_G := tb_in 287 (by decide +kernel) rfl
theorem ml_StairBows_149 : Cond.methodLink "StairBows" 149 yX4_tryOut ∈ tb_G := tb_in 283 (by decide +kernel) rfl
theorem ml_StairBows_155 : Cond.methodLink "StairBows" 155 yX1_append ∈ tb_G := tb_in 370 (by decide +kernel) rfl
theorem ml_StairBows_162 : Cond.methodLink "StairBows" 162 yX4_isSlot ∈ tb_G := tb_in 337 (by decide +kernel) rfl
theorem mf_StairBows_26 : Cond.fieldLink "StairBows" 26 "StairBows" "slots" "[LStairBows$Staircase;" ∈ tb_G := tb_in 141 (by decide +kernel) rfl
theorem mf_StairBows_30 : Cond.fieldLink "StairBows" 30 "StairBows" "isSaved" "[Z" ∈ tb_G := tb_in 142 (by decide +kernel) rfl
end
section
/-! DECODE ROWS -/
theorem dX0_dropOldest_0 : decode cX0_dropOldest 0 = .ok (.aload_n 0, 1) := by decide +kernel
theorem dX0_dropOldest_1 : decode cX0_dropOldest 1 = .ok (.getfield 11, 3) := by decide +kernel
theorem dX0_dropOldest_4 : decode cX0_dropOldest 4 = .ok (.iconst 0, 1) := by decide +kernel
theorem dX0_dropOldest_5 : decode cX0_dropOldest 5 = .ok (.aaload, 1) := by decide +kernel
theorem dX0_dropOldest_6 : decode cX0_dropOldest 6 = .ok (.astore_n 1, 1) := by decide +kernel
theorem dX0_dropOldest_7 : decode cX0_dropOldest 7 = .ok (.iconst 1, 1) := by decide +kernel
theorem dX0_dropOldest_8 : decode cX0_dropOldest 8 = .ok (.istore_n 2, 1) := by decide +kernel
theorem dX0_dropOldest_9 : decode cX0_dropOldest 9 = .ok (.iload_n 2, 1) := by decide +kernel
theorem dX0_dropOldest_10 : decode cX0_dropOldest 10 = .ok (.bipush 6, 2) := by decide +kernel
theorem dX0_dropOldest_12 : decode cX0_dropOldest 12 = .ok (.if_icmp .ge 23, 3) := by decide +kernel
theorem dX0_dropOldest_15 : decode cX0_dropOldest 15 = .ok (.aload_n 0, 1) := by decide +kernel
theorem dX0_dropOldest_16 : decode cX0_dropOldest 16 = .ok (.getfield 11, 3) := by decide +kernel
theorem dX0_dropOldest_19 : decode cX0_dropOldest 19 = .ok (.iload_n 2, 1) := by decide +kernel
theorem dX0_dropOldest_20 : decode cX0_dropOldest 20 = .ok (.iconst 1, 1) := by decide +kernel
theorem dX0_dropOldest_21 : decode cX0_dropOldest 21 = .ok (.isub, 1) := by decide +kernel
theorem dX0_dropOldest_22 : decode cX0_dropOldest 22 = .ok (.aload_n 0, 1) := by decide +kernel
theorem dX0_dropOldest_23 : decode cX0_dropOldest 23 = .ok (.getfield 11, 3) := by decide +kernel
theorem dX0_dropOldest_26 : decode cX0_dropOldest 26 = .ok (.iload_n 2, 1) := by decide +kernel
theorem dX0_dropOldest_27 : decode cX0_dropOldest 27 = .ok (.aaload, 1) := by decide +kernel
theorem dX0_dropOldest_28 : decode cX0_dropOldest 28 = .ok (.aastore, 1) := by decide +kernel
theorem dX0_dropOldest_29 : decode cX0_dropOldest 29 = .ok (.iinc 2 1, 3) := by decide +kernel
theorem dX0_dropOldest_32 : decode cX0_dropOldest 32 = .ok (.goto (-23), 3) := by decide +kernel
theorem dX0_dropOldest_35 : decode cX0_dropOldest 35 = .ok (.aload_n 0, 1) := by decide +kernel
theorem dX0_dropOldest_36 : decode cX0_dropOldest 36 = .ok (.getfield 11, 3) := by decide +kernel
theorem dX0_dropOldest_39 : decode cX0_dropOldest 39 = .ok (.iconst 5, 1) := by decide +kernel
theorem dX0_dropOldest_40 : decode cX0_dropOldest 40 = .ok (.aload_n 1, 1) := by decide +kernel
theorem dX0_dropOldest_41 : decode cX0_dropOldest 41 = .ok (.aastore, 1) := by decide +kernel
theorem dX0_dropOldest_42 : decode cX0_dropOldest 42 = .ok (.aload_n 0, 1) := by decide +kernel
theorem dX0_dropOldest_43 : decode cX0_dropOldest 43 = .ok (.dup, 1) := by decide +kernel
theorem dX0_dropOldest_44 : decode cX0_dropOldest 44 = .ok (.getfield 18, 3) := by decide +kernel
theorem dX0_dropOldest_47 : decode cX0_dropOldest 47 = .ok (.iconst 1, 1) := by decide +kernel
theorem dX0_dropOldest_48 : decode cX0_dropOldest 48 = .ok (.isub, 1) := by decide +kernel
theorem dX0_dropOldest_49 : decode cX0_dropOldest 49 = .ok (.putfield 18, 3) := by decide +kernel
theorem dX0_dropOldest_52 : decode cX0_dropOldest 52 = .ok (.return_, 1) := by decide +kernel
theorem dX2_takeFrom_0 : decode cX2_takeFrom 0 = .ok (.aload_n 0, 1) := by decide +kernel
theorem dX2_takeFrom_1 : decode cX2_takeFrom 1 = .ok (.aload_n 1, 1) := by decide +kernel
theorem dX2_takeFrom_2 : decode cX2_takeFrom 2 = .ok (.getfield 9, 3) := by decide +kernel
theorem dX2_takeFrom_5 : decode cX2_takeFrom 5 = .ok (.putfield 9, 3) := by decide +kernel
theorem dX2_takeFrom_8 : decode cX2_takeFrom 8 = .ok (.aload_n 0, 1) := by decide +kernel
theorem dX2_takeFrom_9 : decode cX2_takeFrom 9 = .ok (.aload_n 1, 1) := by decide +kernel
theorem dX2_takeFrom_10 : decode cX2_takeFrom 10 = .ok (.getfield 15, 3) := by decide +kernel
theorem dX2_takeFrom_13 : decode cX2_takeFrom 13 = .ok (.putfield 15, 3) := by decide +kernel
theorem dX2_takeFrom_16 : decode cX2_takeFrom 16 = .ok (.aload_n 0, 1) := by decide +kernel
theorem dX2_takeFrom_17 : decode cX2_takeFrom 17 = .ok (.aload_n 1, 1) := by decide +kernel
theorem dX2_takeFrom_18 : decode cX2_takeFrom 18 = .ok (.getfield 19, 3) := by decide +kernel
theorem dX2_takeFrom_21 : decode cX2_takeFrom 21 = .ok (.putfield 19, 3) := by decide +kernel
theorem dX2_takeFrom_24 : decode cX2_takeFrom 24 = .ok (.aload_n 0, 1) := by decide +kernel
theorem dX2_takeFrom_25 : decode cX2_takeFrom 25 = .ok (.aload_n 1, 1) := by decide +kernel
theorem dX2_takeFrom_26 : decode cX2_takeFrom 26 = .ok (.getfield 22, 3) := by decide +kernel
theorem dX2_takeFrom_29 : decode cX2_takeFrom 29 = .ok (.putfield 22, 3) := by decide +kernel
theorem dX2_takeFrom_32 : decode cX2_takeFrom 32 = .ok (.aload_n 0, 1) := by decide +kernel
theorem dX2_takeFrom_33 : decode cX2_takeFrom 33 = .ok (.aload_n 1, 1) := by decide +kernel
theorem dX2_takeFrom_34 : decode cX2_takeFrom 34 = .ok (.getfield 25, 3) := by decide +kernel
theorem dX2_takeFrom_37 : decode cX2_takeFrom 37 = .ok (.putfield 25, 3) := by decide +kernel
theorem dX2_takeFrom_40 : decode cX2_takeFrom 40 = .ok (.aload_n 0, 1) := by decide +kernel
theorem dX2_takeFrom_41 : decode cX2_takeFrom 41 = .ok (.aload_n 1, 1) := by decide +kernel
theorem dX2_takeFrom_42 : decode cX2_takeFrom 42 = .ok (.getfield 28, 3) := by decide +kernel
theorem dX2_takeFrom_45 : decode cX2_takeFrom 45 = .ok (.putfield 28, 3) := by decide +kernel
theorem dX2_takeFrom_48 : decode cX2_takeFrom 48 = .ok (.aload_n 0, 1) := by decide +kernel
theorem dX2_takeFrom_49 : decode cX2_takeFrom 49 = .ok (.aload_n 1, 1) := by decide +kernel
theorem dX2_takeFrom_50 : decode cX2_takeFrom 50 = .ok (.getfield 31, 3) := by decide +kernel
theorem dX2_takeFrom_53 : decode cX2_takeFrom 53 = .ok (.putfield 31, 3) := by decide +kernel
theorem dX2_takeFrom_56 : decode cX2_takeFrom 56 = .ok (.aload_n 0, 1) := by decide +kernel
theorem dX2_takeFrom_57 : decode cX2_takeFrom 57 = .ok (.aload_n 1, 1) := by decide +kernel
theorem dX2_takeFrom_58 : decode cX2_takeFrom 58 = .ok (.getfield 34, 3) := by decide +kernel
theorem dX2_takeFrom_61 : decode cX2_takeFrom 61 = .ok (.putfield 34, 3) := by decide +kernel
theorem dX2_takeFrom_64 : decode cX2_takeFrom 64 = .ok (.aload_n 0, 1) := by decide +kernel
theorem dX2_takeFrom_65 : decode cX2_takeFrom 65 = .ok (.aload_n 1, 1) := by decide +kernel
theorem dX2_takeFrom_66 : decode cX2_takeFrom 66 = .ok (.getfield 37, 3) := by decide +kernel
theorem dX2_takeFrom_69 : decode cX2_takeFrom 69 = .ok (.putfield 37, 3) := by decide +kernel
theorem dX2_takeFrom_72 : decode cX2_takeFrom 72 = .ok (.return_, 1) := by decide +kernel
theorem dX3_takeFrom_0 : decode cX3_takeFrom 0 = .ok (.aload_n 1, 1) := by decide +kernel
theorem dX3_takeFrom_1 : decode cX3_takeFrom 1 = .ok (.getfield 13, 3) := by decide +kernel
theorem dX3_takeFrom_4 : decode cX3_takeFrom 4 = .ok (.iconst 0, 1) := by decide +kernel
theorem dX3_takeFrom_5 : decode cX3_takeFrom 5 = .ok (.aload_n 0, 1) := by decide +kernel
theorem dX3_takeFrom_6 : decode cX3_takeFrom 6 = .ok (.getfield 13, 3) := by decide +kernel
theorem dX3_takeFrom_9 : decode cX3_takeFrom 9 = .ok (.iconst 0, 1) := by decide +kernel
theorem dX3_takeFrom_10 : decode cX3_takeFrom 10 = .ok (.aload_n 0, 1) := by decide +kernel
theorem dX3_takeFrom_11 : decode cX3_takeFrom 11 = .ok (.getfield 13, 3) := by decide +kernel
theorem dX3_takeFrom_14 : decode cX3_takeFrom 14 = .ok (.arraylength, 1) := by decide +kernel
theorem dX3_takeFrom_15 : decode cX3_takeFrom 15 = .ok (.invokestatic 32, 3) := by decide +kernel
theorem dX3_takeFrom_18 : decode cX3_takeFrom 18 = .ok (.aload_n 1, 1) := by decide +kernel
theorem dX3_takeFrom_19 : decode cX3_takeFrom 19 = .ok (.getfield 24, 3) := by decide +kernel
theorem dX3_takeFrom_22 : decode cX3_takeFrom 22 = .ok (.iconst 0, 1) := by decide +kernel
theorem dX3_takeFrom_23 : decode cX3_takeFrom 23 = .ok (.aload_n 0, 1) := by decide +kernel
theorem dX3_takeFrom_24 : decode cX3_takeFrom 24 = .ok (.getfield 24, 3) := by decide +kernel
theorem dX3_takeFrom_27 : decode cX3_takeFrom 27 = .ok (.iconst 0, 1) := by decide +kernel
theorem dX3_takeFrom_28 : decode cX3_takeFrom 28 = .ok (.aload_n 0, 1) := by decide +kernel
theorem dX3_takeFrom_29 : decode cX3_takeFrom 29 = .ok (.getfield 24, 3) := by decide +kernel
theorem dX3_takeFrom_32 : decode cX3_takeFrom 32 = .ok (.arraylength, 1) := by decide +kernel
theorem dX3_takeFrom_33 : decode cX3_takeFrom 33 = .ok (.invokestatic 32, 3) := by decide +kernel
theorem dX3_takeFrom_36 : decode cX3_takeFrom 36 = .ok (.aload_n 0, 1) := by decide +kernel
theorem dX3_takeFrom_37 : decode cX3_takeFrom 37 = .ok (.aload_n 1, 1) := by decide +kernel
theorem dX3_takeFrom_38 : decode cX3_takeFrom 38 = .ok (.getfield 27, 3) := by decide +kernel
theorem dX3_takeFrom_41 : decode cX3_takeFrom 41 = .ok (.putfield 27, 3) := by decide +kernel
theorem dX3_takeFrom_44 : decode cX3_takeFrom 44 = .ok (.aload_n 0, 1) := by decide +kernel
theorem dX3_takeFrom_45 : decode cX3_takeFrom 45 = .ok (.aload_n 1, 1) := by decide +kernel
theorem dX3_takeFrom_46 : decode cX3_takeFrom 46 = .ok (.getfield 38, 3) := by decide +kernel
theorem dX3_takeFrom_49 : decode cX3_takeFrom 49 = .ok (.putfield 38, 3) := by decide +kernel
theorem dX3_takeFrom_52 : decode cX3_takeFrom 52 = .ok (.aload_n 0, 1) := by decide +kernel
theorem dX3_takeFrom_53 : decode cX3_takeFrom 53 = .ok (.aload_n 1, 1) := by decide +kernel
theorem dX3_takeFrom_54 : decode cX3_takeFrom 54 = .ok (.getfield 41, 3) := by decide +kernel
theorem dX3_takeFrom_57 : decode cX3_takeFrom 57 = .ok (.putfield 41, 3) := by decide +kernel
theorem dX3_takeFrom_60 : decode cX3_takeFrom 60 = .ok (.iconst 0, 1) := by decide +kernel
theorem dX3_takeFrom_61 : decode cX3_takeFrom 61 = .ok (.istore_n 2, 1) := by decide +kernel
theorem dX3_takeFrom_62 : decode cX3_takeFrom 62 = .ok (.iload_n 2, 1) := by decide +kernel
theorem dX3_takeFrom_63 : decode cX3_takeFrom 63 = .ok (.aload_n 0, 1) := by decide +kernel
theorem dX3_takeFrom_64 : decode cX3_takeFrom 64 = .ok (.getfield 38, 3) := by decide +kernel
theorem dX3_takeFrom_67 : decode cX3_takeFrom 67 = .ok (.if_icmp .ge 24, 3) := by decide +kernel
theorem dX3_takeFrom_70 : decode cX3_takeFrom 70 = .ok (.aload_n 0, 1) := by decide +kernel
theorem dX3_takeFrom_71 : decode cX3_takeFrom 71 = .ok (.getfield 20, 3) := by decide +kernel
theorem dX3_takeFrom_74 : decode cX3_takeFrom 74 = .ok (.iload_n 2, 1) := by decide +kernel
theorem dX3_takeFrom_75 : decode cX3_takeFrom 75 = .ok (.aaload, 1) := by decide +kernel
theorem dX3_takeFrom_76 : decode cX3_takeFrom 76 = .ok (.aload_n 1, 1) := by decide +kernel
theorem dX3_takeFrom_77 : decode cX3_takeFrom 77 = .ok (.getfield 20, 3) := by decide +kernel
theorem dX3_takeFrom_80 : decode cX3_takeFrom 80 = .ok (.iload_n 2, 1) := by decide +kernel
theorem dX3_takeFrom_81 : decode cX3_takeFrom 81 = .ok (.aaload, 1) := by decide +kernel
theorem dX3_takeFrom_82 : decode cX3_takeFrom 82 = .ok (.invokevirtual 44, 3) := by decide +kernel
theorem dX3_takeFrom_85 : decode cX3_takeFrom 85 = .ok (.iinc 2 1, 3) := by decide +kernel
theorem dX3_takeFrom_88 : decode cX3_takeFrom 88 = .ok (.goto (-26), 3) := by decide +kernel
theorem dX3_takeFrom_91 : decode cX3_takeFrom 91 = .ok (.return_, 1) := by decide +kernel
theorem dX0_keep_0 : decode cX0_keep 0 = .ok (.aload_n 0, 1) := by decide +kernel
theorem dX0_keep_1 : decode cX0_keep 1 = .ok (.getfield 18, 3) := by decide +kernel
theorem dX0_keep_4 : decode cX0_keep 4 = .ok (.bipush 6, 2) := by decide +kernel
theorem dX0_keep_6 : decode cX0_keep 6 = .ok (.if_icmp .ne 7, 3) := by decide +kernel
theorem dX0_keep_9 : decode cX0_keep 9 = .ok (.aload_n 0, 1) := by decide +kernel
theorem dX0_keep_10 : decode cX0_keep 10 = .ok (.invokevirtual 22, 3) := by decide +kernel
theorem dX0_keep_13 : decode cX0_keep 13 = .ok (.aload_n 0, 1) := by decide +kernel
theorem dX0_keep_14 : decode cX0_keep 14 = .ok (.getfield 18, 3) := by decide +kernel
theorem dX0_keep_17 : decode cX0_keep 17 = .ok (.ifCond .lt 35, 3) := by decide +kernel
theorem dX0_keep_20 : decode cX0_keep 20 = .ok (.aload_n 0, 1) := by decide +kernel
theorem dX0_keep_21 : decode cX0_keep 21 = .ok (.getfield 18, 3) := by decide +kernel
theorem dX0_keep_24 : decode cX0_keep 24 = .ok (.bipush 6, 2) := by decide +kernel
theorem dX0_keep_26 : decode cX0_keep 26 = .ok (.if_icmp .ge 26, 3) := by decide +kernel
theorem dX0_keep_29 : decode cX0_keep 29 = .ok (.aload_n 0, 1) := by decide +kernel
theorem dX0_keep_30 : decode cX0_keep 30 = .ok (.getfield 11, 3) := by decide +kernel
theorem dX0_keep_33 : decode cX0_keep 33 = .ok (.aload_n 0, 1) := by decide +kernel
theorem dX0_keep_34 : decode cX0_keep 34 = .ok (.getfield 18, 3) := by decide +kernel
theorem dX0_keep_37 : decode cX0_keep 37 = .ok (.aaload, 1) := by decide +kernel
theorem dX0_keep_38 : decode cX0_keep 38 = .ok (.aload_n 1, 1) := by decide +kernel
theorem dX0_keep_39 : decode cX0_keep 39 = .ok (.invokevirtual 25, 3) := by decide +kernel
theorem dX0_keep_42 : decode cX0_keep 42 = .ok (.aload_n 0, 1) := by decide +kernel
theorem dX0_keep_43 : decode cX0_keep 43 = .ok (.dup, 1) := by decide +kernel
theorem dX0_keep_44 : decode cX0_keep 44 = .ok (.getfield 18, 3) := by decide +kernel
theorem dX0_keep_47 : decode cX0_keep 47 = .ok (.iconst 1, 1) := by decide +kernel
theorem dX0_keep_48 : decode cX0_keep 48 = .ok (.iadd, 1) := by decide +kernel
theorem dX0_keep_49 : decode cX0_keep 49 = .ok (.putfield 18, 3) := by decide +kernel
theorem dX0_keep_52 : decode cX0_keep 52 = .ok (.return_, 1) := by decide +kernel
theorem dX1_charactersIn_0 : decode cX1_charactersIn 0 = .ok (.iconst 0, 1) := by decide +kernel
theorem dX1_charactersIn_1 : decode cX1_charactersIn 1 = .ok (.istore_n 2, 1) := by decide +kernel
theorem dX1_charactersIn_2 : decode cX1_charactersIn 2 = .ok (.lload_n 0, 1) := by decide +kernel
theorem dX1_charactersIn_3 : decode cX1_charactersIn 3 = .ok (.lstore_n 3, 1) := by decide +kernel
theorem dX1_charactersIn_4 : decode cX1_charactersIn 4 = .ok (.lload_n 3, 1) := by decide +kernel
theorem dX1_charactersIn_5 : decode cX1_charactersIn 5 = .ok (.lconst 0, 1) := by decide +kernel
theorem dX1_charactersIn_6 : decode cX1_charactersIn 6 = .ok (.lcmp, 1) := by decide +kernel
theorem dX1_charactersIn_7 : decode cX1_charactersIn 7 = .ok (.ifCond .eq 47, 3) := by decide +kernel
theorem dX1_charactersIn_10 : decode cX1_charactersIn 10 = .ok (.iload_n 2, 1) := by decide +kernel
theorem dX1_charactersIn_11 : decode cX1_charactersIn 11 = .ok (.bipush 8, 2) := by decide +kernel
theorem dX1_charactersIn_13 : decode cX1_charactersIn 13 = .ok (.if_icmp .ge 41, 3) := by decide +kernel
theorem dX1_charactersIn_16 : decode cX1_charactersIn 16 = .ok (.lload_n 3, 1) := by decide +kernel
theorem dX1_charactersIn_17 : decode cX1_charactersIn 17 = .ok (.ldc2_w 23, 3) := by decide +kernel
theorem dX1_charactersIn_20 : decode cX1_charactersIn 20 = .ok (.land, 1) := by decide +kernel
theorem dX1_charactersIn_21 : decode cX1_charactersIn 21 = .ok (.lstore 5, 2) := by decide +kernel
theorem dX1_charactersIn_23 : decode cX1_charactersIn 23 = .ok (.lload 5, 2) := by decide +kernel
theorem dX1_charactersIn_25 : decode cX1_charactersIn 25 = .ok (.ldc2_w 25, 3) := by decide +kernel
theorem dX1_charactersIn_28 : decode cX1_charactersIn 28 = .ok (.lcmp, 1) := by decide +kernel
theorem dX1_charactersIn_29 : decode cX1_charactersIn 29 = .ok (.ifCond .lt 12, 3) := by decide +kernel
theorem dX1_charactersIn_32 : decode cX1_charactersIn 32 = .ok (.lload 5, 2) := by decide +kernel
theorem dX1_charactersIn_34 : decode cX1_charactersIn 34 = .ok (.ldc2_w 27, 3) := by decide +kernel
theorem dX1_charactersIn_37 : decode cX1_charactersIn 37 = .ok (.lcmp, 1) := by decide +kernel
theorem dX1_charactersIn_38 : decode cX1_charactersIn 38 = .ok (.ifCond .le 5, 3) := by decide +kernel
theorem dX1_charactersIn_41 : decode cX1_charactersIn 41 = .ok (.iconst 0, 1) := by decide +kernel
theorem dX1_charactersIn_42 : decode cX1_charactersIn 42 = .ok (.ireturn, 1) := by decide +kernel
theorem dX1_charactersIn_43 : decode cX1_charactersIn 43 = .ok (.lload_n 3, 1) := by decide +kernel
theorem dX1_charactersIn_44 : decode cX1_charactersIn 44 = .ok (.bipush 8, 2) := by decide +kernel
theorem dX1_charactersIn_46 : decode cX1_charactersIn 46 = .ok (.lushr, 1) := by decide +kernel
theorem dX1_charactersIn_47 : decode cX1_charactersIn 47 = .ok (.lstore_n 3, 1) := by decide +kernel
theorem dX1_charactersIn_48 : decode cX1_charactersIn 48 = .ok (.iinc 2 1, 3) := by decide +kernel
theorem dX1_charactersIn_51 : decode cX1_charactersIn 51 = .ok (.goto (-47), 3) := by decide +kernel
theorem dX1_charactersIn_54 : decode cX1_charactersIn 54 = .ok (.iload_n 2, 1) := by decide +kernel
theorem dX1_charactersIn_55 : decode cX1_charactersIn 55 = .ok (.ireturn, 1) := by decide +kernel
theorem dX1_append_0 : decode cX1_append 0 = .ok (.lload_n 1, 1) := by decide +kernel
theorem dX1_append_1 : decode cX1_append 1 = .ok (.invokestatic 15, 3) := by decide +kernel
theorem dX1_append_4 : decode cX1_append 4 = .ok (.istore_n 3, 1) := by decide +kernel
theorem dX1_append_5 : decode cX1_append 5 = .ok (.iload_n 3, 1) := by decide +kernel
theorem dX1_append_6 : decode cX1_append 6 = .ok (.ifCond .ne 6, 3) := by decide +kernel
theorem dX1_append_9 : decode cX1_append 9 = .ok (.bipush (-2), 2) := by decide +kernel
theorem dX1_append_11 : decode cX1_append 11 = .ok (.ireturn, 1) := by decide +kernel
theorem dX1_append_12 : decode cX1_append 12 = .ok (.aload_n 0, 1) := by decide +kernel
theorem dX1_append_13 : decode cX1_append 13 = .ok (.getfield 19, 3) := by decide +kernel
theorem dX1_append_16 : decode cX1_append 16 = .ok (.iload_n 3, 1) := by decide +kernel
theorem dX1_append_17 : decode cX1_append 17 = .ok (.iadd, 1) := by decide +kernel
theorem dX1_append_18 : decode cX1_append 18 = .ok (.bipush 60, 2) := by decide +kernel
theorem dX1_append_20 : decode cX1_append 20 = .ok (.if_icmp .le 6, 3) := by decide +kernel
theorem dX1_append_23 : decode cX1_append 23 = .ok (.bipush (-4), 2) := by decide +kernel
theorem dX1_append_25 : decode cX1_append 25 = .ok (.ireturn, 1) := by decide +kernel
theorem dX1_append_26 : decode cX1_append 26 = .ok (.iconst 0, 1) := by decide +kernel
theorem dX1_append_27 : decode cX1_append 27 = .ok (.istore 4, 2) := by decide +kernel
theorem dX1_append_29 : decode cX1_append 29 = .ok (.iload 4, 2) := by decide +kernel
theorem dX1_append_31 : decode cX1_append 31 = .ok (.iload_n 3, 1) := by decide +kernel
theorem dX1_append_32 : decode cX1_append 32 = .ok (.if_icmp .ge 38, 3) := by decide +kernel
theorem dX1_append_35 : decode cX1_append 35 = .ok (.aload_n 0, 1) := by decide +kernel
theorem dX1_append_36 : decode cX1_append 36 = .ok (.getfield 9, 3) := by decide +kernel
theorem dX1_append_39 : decode cX1_append 39 = .ok (.aload_n 0, 1) := by decide +kernel
theorem dX1_append_40 : decode cX1_append 40 = .ok (.getfield 19, 3) := by decide +kernel
theorem dX1_append_43 : decode cX1_append 43 = .ok (.iload_n 3, 1) := by decide +kernel
theorem dX1_append_44 : decode cX1_append 44 = .ok (.iadd, 1) := by decide +kernel
theorem dX1_append_45 : decode cX1_append 45 = .ok (.iconst 1, 1) := by decide +kernel
theorem dX1_append_46 : decode cX1_append 46 = .ok (.isub, 1) := by decide +kernel
theorem dX1_append_47 : decode cX1_append 47 = .ok (.iload 4, 2) := by decide +kernel
theorem dX1_append_49 : decode cX1_append 49 = .ok (.isub, 1) := by decide +kernel
theorem dX1_append_50 : decode cX1_append 50 = .ok (.lload_n 1, 1) := by decide +kernel
theorem dX1_append_51 : decode cX1_append 51 = .ok (.bipush 8, 2) := by decide +kernel
theorem dX1_append_53 : decode cX1_append 53 = .ok (.iload 4, 2) := by decide +kernel
theorem dX1_append_55 : decode cX1_append 55 = .ok (.imul, 1) := by decide +kernel
theorem dX1_append_56 : decode cX1_append 56 = .ok (.lushr, 1) := by decide +kernel
theorem dX1_append_57 : decode cX1_append 57 = .ok (.ldc2_w 23, 3) := by decide +kernel
theorem dX1_append_60 : decode cX1_append 60 = .ok (.land, 1) := by decide +kernel
theorem dX1_append_61 : decode cX1_append 61 = .ok (.l2i, 1) := by decide +kernel
theorem dX1_append_62 : decode cX1_append 62 = .ok (.i2c, 1) := by decide +kernel
theorem dX1_append_63 : decode cX1_append 63 = .ok (.castore, 1) := by decide +kernel
theorem dX1_append_64 : decode cX1_append 64 = .ok (.iinc 4 1, 3) := by decide +kernel
theorem dX1_append_67 : decode cX1_append 67 = .ok (.goto (-38), 3) := by decide +kernel
theorem dX1_append_70 : decode cX1_append 70 = .ok (.aload_n 0, 1) := by decide +kernel
theorem dX1_append_71 : decode cX1_append 71 = .ok (.dup, 1) := by decide +kernel
theorem dX1_append_72 : decode cX1_append 72 = .ok (.getfield 19, 3) := by decide +kernel
theorem dX1_append_75 : decode cX1_append 75 = .ok (.iload_n 3, 1) := by decide +kernel
theorem dX1_append_76 : decode cX1_append 76 = .ok (.iadd, 1) := by decide +kernel
theorem dX1_append_77 : decode cX1_append 77 = .ok (.putfield 19, 3) := by decide +kernel
theorem dX1_append_80 : decode cX1_append 80 = .ok (.aload_n 0, 1) := by decide +kernel
theorem dX1_append_81 : decode cX1_append 81 = .ok (.getfield 19, 3) := by decide +kernel
theorem dX1_append_84 : decode cX1_append 84 = .ok (.ireturn, 1) := by decide +kernel
theorem dX1_canStandAt_0 : decode cX1_canStandAt 0 = .ok (.aload_n 0, 1) := by decide +kernel
theorem dX1_canStandAt_1 : decode cX1_canStandAt 1 = .ok (.getfield 9, 3) := by decide +kernel
theorem dX1_canStandAt_4 : decode cX1_canStandAt 4 = .ok (.iload_n 1, 1) := by decide +kernel
theorem dX1_canStandAt_5 : decode cX1_canStandAt 5 = .ok (.caload, 1) := by decide +kernel
theorem dX1_canStandAt_6 : decode cX1_canStandAt 6 = .ok (.istore_n 2, 1) := by decide +kernel
theorem dX1_canStandAt_7 : decode cX1_canStandAt 7 = .ok (.iload_n 1, 1) := by decide +kernel
theorem dX1_canStandAt_8 : decode cX1_canStandAt 8 = .ok (.iconst 2, 1) := by decide +kernel
theorem dX1_canStandAt_9 : decode cX1_canStandAt 9 = .ok (.irem, 1) := by decide +kernel
theorem dX1_canStandAt_10 : decode cX1_canStandAt 10 = .ok (.ifCond .ne 21, 3) := by decide +kernel
theorem dX1_canStandAt_13 : decode cX1_canStandAt 13 = .ok (.iload_n 2, 1) := by decide +kernel
theorem dX1_canStandAt_14 : decode cX1_canStandAt 14 = .ok (.bipush 117, 2) := by decide +kernel
theorem dX1_canStandAt_16 : decode cX1_canStandAt 16 = .ok (.if_icmp .eq 9, 3) := by decide +kernel
theorem dX1_canStandAt_19 : decode cX1_canStandAt 19 = .ok (.iload_n 2, 1) := by decide +kernel
theorem dX1_canStandAt_20 : decode cX1_canStandAt 20 = .ok (.bipush 100, 2) := by decide +kernel
theorem dX1_canStandAt_22 : decode cX1_canStandAt 22 = .ok (.if_icmp .ne 7, 3) := by decide +kernel
theorem dX1_canStandAt_25 : decode cX1_canStandAt 25 = .ok (.iconst 1, 1) := by decide +kernel
theorem dX1_canStandAt_26 : decode cX1_canStandAt 26 = .ok (.goto 4, 3) := by decide +kernel
theorem dX1_canStandAt_29 : decode cX1_canStandAt 29 = .ok (.iconst 0, 1) := by decide +kernel
theorem dX1_canStandAt_30 : decode cX1_canStandAt 30 = .ok (.ireturn, 1) := by decide +kernel
theorem dX1_canStandAt_31 : decode cX1_canStandAt 31 = .ok (.iload_n 2, 1) := by decide +kernel
theorem dX1_canStandAt_32 : decode cX1_canStandAt 32 = .ok (.bipush 49, 2) := by decide +kernel
theorem dX1_canStandAt_34 : decode cX1_canStandAt 34 = .ok (.if_icmp .lt 13, 3) := by decide +kernel
theorem dX1_canStandAt_37 : decode cX1_canStandAt 37 = .ok (.iload_n 2, 1) := by decide +kernel
theorem dX1_canStandAt_38 : decode cX1_canStandAt 38 = .ok (.bipush 57, 2) := by decide +kernel
theorem dX1_canStandAt_40 : decode cX1_canStandAt 40 = .ok (.if_icmp .gt 7, 3) := by decide +kernel
theorem dX1_canStandAt_43 : decode cX1_canStandAt 43 = .ok (.iconst 1, 1) := by decide +kernel
theorem dX1_canStandAt_44 : decode cX1_canStandAt 44 = .ok (.goto 4, 3) := by decide +kernel
theorem dX1_canStandAt_47 : decode cX1_canStandAt 47 = .ok (.iconst 0, 1) := by decide +kernel
theorem dX1_canStandAt_48 : decode cX1_canStandAt 48 = .ok (.ireturn, 1) := by decide +kernel
theorem dX1_firstFault_0 : decode cX1_firstFault 0 = .ok (.iconst 0, 1) := by decide +kernel
theorem dX1_firstFault_1 : decode cX1_firstFault 1 = .ok (.istore_n 1, 1) := by decide +kernel
theorem dX1_firstFault_2 : decode cX1_firstFault 2 = .ok (.iload_n 1, 1) := by decide +kernel
theorem dX1_firstFault_3 : decode cX1_firstFault 3 = .ok (.aload_n 0, 1) := by decide +kernel
theorem dX1_firstFault_4 : decode cX1_firstFault 4 = .ok (.getfield 19, 3) := by decide +kernel
theorem dX1_firstFault_7 : decode cX1_firstFault 7 = .ok (.if_icmp .ge 19, 3) := by decide +kernel
theorem dX1_firstFault_10 : decode cX1_firstFault 10 = .ok (.aload_n 0, 1) := by decide +kernel
theorem dX1_firstFault_11 : decode cX1_firstFault 11 = .ok (.iload_n 1, 1) := by decide +kernel
theorem dX1_firstFault_12 : decode cX1_firstFault 12 = .ok (.invokevirtual 29, 3) := by decide +kernel
theorem dX1_firstFault_15 : decode cX1_firstFault 15 = .ok (.ifCond .ne 5, 3) := by decide +kernel
theorem dX1_firstFault_18 : decode cX1_firstFault 18 = .ok (.iload_n 1, 1) := by decide +kernel
theorem dX1_firstFault_19 : decode cX1_firstFault 19 = .ok (.ireturn, 1) := by decide +kernel
theorem dX1_firstFault_20 : decode cX1_firstFault 20 = .ok (.iinc 1 1, 3) := by decide +kernel
theorem dX1_firstFault_23 : decode cX1_firstFault 23 = .ok (.goto (-21), 3) := by decide +kernel
theorem dX1_firstFault_26 : decode cX1_firstFault 26 = .ok (.aload_n 0, 1) := by decide +kernel
theorem dX1_firstFault_27 : decode cX1_firstFault 27 = .ok (.getfield 19, 3) := by decide +kernel
theorem dX1_firstFault_30 : decode cX1_firstFault 30 = .ok (.ifCond .eq 13, 3) := by decide +kernel
theorem dX1_firstFault_33 : decode cX1_firstFault 33 = .ok (.aload_n 0, 1) := by decide +kernel
theorem dX1_firstFault_34 : decode cX1_firstFault 34 = .ok (.getfield 19, 3) := by decide +kernel
theorem dX1_firstFault_37 : decode cX1_firstFault 37 = .ok (.iconst 2, 1) := by decide +kernel
theorem dX1_firstFault_38 : decode cX1_firstFault 38 = .ok (.irem, 1) := by decide +kernel
theorem dX1_firstFault_39 : decode cX1_firstFault 39 = .ok (.iconst 1, 1) := by decide +kernel
theorem dX1_firstFault_40 : decode cX1_firstFault 40 = .ok (.if_icmp .ne 10, 3) := by decide +kernel
theorem dX1_firstFault_43 : decode cX1_firstFault 43 = .ok (.aload_n 0, 1) := by decide +kernel
theorem dX1_firstFault_44 : decode cX1_firstFault 44 = .ok (.getfield 19, 3) := by decide +kernel
theorem dX1_firstFault_47 : decode cX1_firstFault 47 = .ok (.goto 5, 3) := by decide +kernel
theorem dX1_firstFault_50 : decode cX1_firstFault 50 = .ok (.bipush (-6), 2) := by decide +kernel
theorem dX1_firstFault_52 : decode cX1_firstFault 52 = .ok (.ireturn, 1) := by decide +kernel
theorem dX1_isUp_0 : decode cX1_isUp 0 = .ok (.iconst 2, 1) := by decide +kernel
theorem dX1_isUp_1 : decode cX1_isUp 1 = .ok (.iload_n 1, 1) := by decide +kernel
theorem dX1_isUp_2 : decode cX1_isUp 2 = .ok (.imul, 1) := by decide +kernel
theorem dX1_isUp_3 : decode cX1_isUp 3 = .ok (.istore_n 2, 1) := by decide +kernel
theorem dX1_isUp_4 : decode cX1_isUp 4 = .ok (.iload_n 2, 1) := by decide +kernel
theorem dX1_isUp_5 : decode cX1_isUp 5 = .ok (.ifCond .lt 26, 3) := by decide +kernel
theorem dX1_isUp_8 : decode cX1_isUp 8 = .ok (.iload_n 2, 1) := by decide +kernel
theorem dX1_isUp_9 : decode cX1_isUp 9 = .ok (.aload_n 0, 1) := by decide +kernel
theorem dX1_isUp_10 : decode cX1_isUp 10 = .ok (.getfield 19, 3) := by decide +kernel
theorem dX1_isUp_13 : decode cX1_isUp 13 = .ok (.if_icmp .ge 18, 3) := by decide +kernel
theorem dX1_isUp_16 : decode cX1_isUp 16 = .ok (.aload_n 0, 1) := by decide +kernel
theorem dX1_isUp_17 : decode cX1_isUp 17 = .ok (.getfield 9, 3) := by decide +kernel
theorem dX1_isUp_20 : decode cX1_isUp 20 = .ok (.iload_n 2, 1) := by decide +kernel
theorem dX1_isUp_21 : decode cX1_isUp 21 = .ok (.caload, 1) := by decide +kernel
theorem dX1_isUp_22 : decode cX1_isUp 22 = .ok (.bipush 117, 2) := by decide +kernel
theorem dX1_isUp_24 : decode cX1_isUp 24 = .ok (.if_icmp .ne 7, 3) := by decide +kernel
theorem dX1_isUp_27 : decode cX1_isUp 27 = .ok (.iconst 1, 1) := by decide +kernel
theorem dX1_isUp_28 : decode cX1_isUp 28 = .ok (.goto 4, 3) := by decide +kernel
theorem dX1_isUp_31 : decode cX1_isUp 31 = .ok (.iconst 0, 1) := by decide +kernel
theorem dX1_isUp_32 : decode cX1_isUp 32 = .ok (.ireturn, 1) := by decide +kernel
theorem dX1_rankOf_0 : decode cX1_rankOf 0 = .ok (.iconst 2, 1) := by decide +kernel
theorem dX1_rankOf_1 : decode cX1_rankOf 1 = .ok (.iload_n 1, 1) := by decide +kernel
theorem dX1_rankOf_2 : decode cX1_rankOf 2 = .ok (.imul, 1) := by decide +kernel
theorem dX1_rankOf_3 : decode cX1_rankOf 3 = .ok (.iconst 1, 1) := by decide +kernel
theorem dX1_rankOf_4 : decode cX1_rankOf 4 = .ok (.iadd, 1) := by decide +kernel
theorem dX1_rankOf_5 : decode cX1_rankOf 5 = .ok (.istore_n 2, 1) := by decide +kernel
theorem dX1_rankOf_6 : decode cX1_rankOf 6 = .ok (.iload_n 2, 1) := by decide +kernel
theorem dX1_rankOf_7 : decode cX1_rankOf 7 = .ok (.iconst 1, 1) := by decide +kernel
theorem dX1_rankOf_8 : decode cX1_rankOf 8 = .ok (.if_icmp .lt 23, 3) := by decide +kernel
theorem dX1_rankOf_11 : decode cX1_rankOf 11 = .ok (.iload_n 2, 1) := by decide +kernel
theorem dX1_rankOf_12 : decode cX1_rankOf 12 = .ok (.aload_n 0, 1) := by decide +kernel
theorem dX1_rankOf_13 : decode cX1_rankOf 13 = .ok (.getfield 19, 3) := by decide +kernel
theorem dX1_rankOf_16 : decode cX1_rankOf 16 = .ok (.if_icmp .ge 15, 3) := by decide +kernel
theorem dX1_rankOf_19 : decode cX1_rankOf 19 = .ok (.aload_n 0, 1) := by decide +kernel
theorem dX1_rankOf_20 : decode cX1_rankOf 20 = .ok (.getfield 9, 3) := by decide +kernel
theorem dX1_rankOf_23 : decode cX1_rankOf 23 = .ok (.iload_n 2, 1) := by decide +kernel
theorem dX1_rankOf_24 : decode cX1_rankOf 24 = .ok (.caload, 1) := by decide +kernel
theorem dX1_rankOf_25 : decode cX1_rankOf 25 = .ok (.bipush 48, 2) := by decide +kernel
theorem dX1_rankOf_27 : decode cX1_rankOf 27 = .ok (.isub, 1) := by decide +kernel
theorem dX1_rankOf_28 : decode cX1_rankOf 28 = .ok (.goto 4, 3) := by decide +kernel
theorem dX1_rankOf_31 : decode cX1_rankOf 31 = .ok (.iconst 1, 1) := by decide +kernel
theorem dX1_rankOf_32 : decode cX1_rankOf 32 = .ok (.ireturn, 1) := by decide +kernel
theorem dX2_enterHall_0 : decode cX2_enterHall 0 = .ok (.aload_n 0, 1) := by decide +kernel
theorem dX2_enterHall_1 : decode cX2_enterHall 1 = .ok (.iload_n 1, 1) := by decide +kernel
theorem dX2_enterHall_2 : decode cX2_enterHall 2 = .ok (.putfield 9, 3) := by decide +kernel
theorem dX2_enterHall_5 : decode cX2_enterHall 5 = .ok (.aload_n 0, 1) := by decide +kernel
theorem dX2_enterHall_6 : decode cX2_enterHall 6 = .ok (.iload_n 2, 1) := by decide +kernel
theorem dX2_enterHall_7 : decode cX2_enterHall 7 = .ok (.putfield 15, 3) := by decide +kernel
theorem dX2_enterHall_10 : decode cX2_enterHall 10 = .ok (.aload_n 0, 1) := by decide +kernel
theorem dX2_enterHall_11 : decode cX2_enterHall 11 = .ok (.iconst 0, 1) := by decide +kernel
theorem dX2_enterHall_12 : decode cX2_enterHall 12 = .ok (.putfield 19, 3) := by decide +kernel
theorem dX2_enterHall_15 : decode cX2_enterHall 15 = .ok (.aload_n 0, 1) := by decide +kernel
theorem dX2_enterHall_16 : decode cX2_enterHall 16 = .ok (.iload_n 2, 1) := by decide +kernel
theorem dX2_enterHall_17 : decode cX2_enterHall 17 = .ok (.ifCond .eq 7, 3) := by decide +kernel
theorem dX2_enterHall_20 : decode cX2_enterHall 20 = .ok (.iconst (-1), 1) := by decide +kernel
theorem dX2_enterHall_21 : decode cX2_enterHall 21 = .ok (.goto 5, 3) := by decide +kernel
theorem dX2_enterHall_24 : decode cX2_enterHall 24 = .ok (.bipush 12, 2) := by decide +kernel
theorem dX2_enterHall_26 : decode cX2_enterHall 26 = .ok (.putfield 22, 3) := by decide +kernel
theorem dX2_enterHall_29 : decode cX2_enterHall 29 = .ok (.aload_n 0, 1) := by decide +kernel
theorem dX2_enterHall_30 : decode cX2_enterHall 30 = .ok (.iconst 0, 1) := by decide +kernel
theorem dX2_enterHall_31 : decode cX2_enterHall 31 = .ok (.putfield 25, 3) := by decide +kernel
theorem dX2_enterHall_34 : decode cX2_enterHall 34 = .ok (.aload_n 0, 1) := by decide +kernel
theorem dX2_enterHall_35 : decode cX2_enterHall 35 = .ok (.iconst 0, 1) := by decide +kernel
theorem dX2_enterHall_36 : decode cX2_enterHall 36 = .ok (.putfield 28, 3) := by decide +kernel
theorem dX2_enterHall_39 : decode cX2_enterHall 39 = .ok (.aload_n 0, 1) := by decide +kernel
theorem dX2_enterHall_40 : decode cX2_enterHall 40 = .ok (.iconst 0, 1) := by decide +kernel
theorem dX2_enterHall_41 : decode cX2_enterHall 41 = .ok (.putfield 31, 3) := by decide +kernel
theorem dX2_enterHall_44 : decode cX2_enterHall 44 = .ok (.aload_n 0, 1) := by decide +kernel
theorem dX2_enterHall_45 : decode cX2_enterHall 45 = .ok (.iconst 0, 1) := by decide +kernel
theorem dX2_enterHall_46 : decode cX2_enterHall 46 = .ok (.putfield 34, 3) := by decide +kernel
theorem dX2_enterHall_49 : decode cX2_enterHall 49 = .ok (.aload_n 0, 1) := by decide +kernel
theorem dX2_enterHall_50 : decode cX2_enterHall 50 = .ok (.iconst 0, 1) := by decide +kernel
theorem dX2_enterHall_51 : decode cX2_enterHall 51 = .ok (.putfield 37, 3) := by decide +kernel
theorem dX2_enterHall_54 : decode cX2_enterHall 54 = .ok (.return_, 1) := by decide +kernel
theorem dX2_isOnWay_0 : decode cX2_isOnWay 0 = .ok (.aload_n 0, 1) := by decide +kernel
theorem dX2_isOnWay_1 : decode cX2_isOnWay 1 = .ok (.getfield 19, 3) := by decide +kernel
theorem dX2_isOnWay_4 : decode cX2_isOnWay 4 = .ok (.ifCond .eq 11, 3) := by decide +kernel
theorem dX2_isOnWay_7 : decode cX2_isOnWay 7 = .ok (.aload_n 0, 1) := by decide +kernel
theorem dX2_isOnWay_8 : decode cX2_isOnWay 8 = .ok (.getfield 19, 3) := by decide +kernel
theorem dX2_isOnWay_11 : decode cX2_isOnWay 11 = .ok (.iconst 1, 1) := by decide +kernel
theorem dX2_isOnWay_12 : decode cX2_isOnWay 12 = .ok (.if_icmp .ne 7, 3) := by decide +kernel
theorem dX2_isOnWay_15 : decode cX2_isOnWay 15 = .ok (.iconst 1, 1) := by decide +kernel
theorem dX2_isOnWay_16 : decode cX2_isOnWay 16 = .ok (.goto 4, 3) := by decide +kernel
theorem dX2_isOnWay_19 : decode cX2_isOnWay 19 = .ok (.iconst 0, 1) := by decide +kernel
theorem dX2_isOnWay_20 : decode cX2_isOnWay 20 = .ok (.ireturn, 1) := by decide +kernel
theorem dX2_standsOn_0 : decode cX2_standsOn 0 = .ok (.aload_n 0, 1) := by decide +kernel
theorem dX2_standsOn_1 : decode cX2_standsOn 1 = .ok (.getfield 19, 3) := by decide +kernel
theorem dX2_standsOn_4 : decode cX2_standsOn 4 = .ok (.iconst 1, 1) := by decide +kernel
theorem dX2_standsOn_5 : decode cX2_standsOn 5 = .ok (.if_icmp .ne 15, 3) := by decide +kernel
theorem dX2_standsOn_8 : decode cX2_standsOn 8 = .ok (.aload_n 0, 1) := by decide +kernel
theorem dX2_standsOn_9 : decode cX2_standsOn 9 = .ok (.getfield 22, 3) := by decide +kernel
theorem dX2_standsOn_12 : decode cX2_standsOn 12 = .ok (.iload_n 1, 1) := by decide +kernel
theorem dX2_standsOn_13 : decode cX2_standsOn 13 = .ok (.if_icmp .ne 7, 3) := by decide +kernel
theorem dX2_standsOn_16 : decode cX2_standsOn 16 = .ok (.iconst 1, 1) := by decide +kernel
theorem dX2_standsOn_17 : decode cX2_standsOn 17 = .ok (.goto 4, 3) := by decide +kernel
theorem dX2_standsOn_20 : decode cX2_standsOn 20 = .ok (.iconst 0, 1) := by decide +kernel
theorem dX2_standsOn_21 : decode cX2_standsOn 21 = .ok (.ireturn, 1) := by decide +kernel
theorem dX2_nextStep_0 : decode cX2_nextStep 0 = .ok (.aload_n 0, 1) := by decide +kernel
theorem dX2_nextStep_1 : decode cX2_nextStep 1 = .ok (.getfield 15, 3) := by decide +kernel
theorem dX2_nextStep_4 : decode cX2_nextStep 4 = .ok (.ifCond .eq 12, 3) := by decide +kernel
theorem dX2_nextStep_7 : decode cX2_nextStep 7 = .ok (.aload_n 0, 1) := by decide +kernel
theorem dX2_nextStep_8 : decode cX2_nextStep 8 = .ok (.getfield 22, 3) := by decide +kernel
theorem dX2_nextStep_11 : decode cX2_nextStep 11 = .ok (.iconst 1, 1) := by decide +kernel
theorem dX2_nextStep_12 : decode cX2_nextStep 12 = .ok (.iadd, 1) := by decide +kernel
theorem dX2_nextStep_13 : decode cX2_nextStep 13 = .ok (.goto 9, 3) := by decide +kernel
theorem dX2_nextStep_16 : decode cX2_nextStep 16 = .ok (.aload_n 0, 1) := by decide +kernel
theorem dX2_nextStep_17 : decode cX2_nextStep 17 = .ok (.getfield 22, 3) := by decide +kernel
theorem dX2_nextStep_20 : decode cX2_nextStep 20 = .ok (.iconst 1, 1) := by decide +kernel
theorem dX2_nextStep_21 : decode cX2_nextStep 21 = .ok (.isub, 1) := by decide +kernel
theorem dX2_nextStep_22 : decode cX2_nextStep 22 = .ok (.ireturn, 1) := by decide +kernel
theorem dX2_stepBehind_0 : decode cX2_stepBehind 0 = .ok (.aload_n 0, 1) := by decide +kernel
theorem dX2_stepBehind_1 : decode cX2_stepBehind 1 = .ok (.getfield 15, 3) := by decide +kernel
theorem dX2_stepBehind_4 : decode cX2_stepBehind 4 = .ok (.ifCond .eq 12, 3) := by decide +kernel
theorem dX2_stepBehind_7 : decode cX2_stepBehind 7 = .ok (.aload_n 0, 1) := by decide +kernel
theorem dX2_stepBehind_8 : decode cX2_stepBehind 8 = .ok (.getfield 22, 3) := by decide +kernel
theorem dX2_stepBehind_11 : decode cX2_stepBehind 11 = .ok (.iconst 1, 1) := by decide +kernel
theorem dX2_stepBehind_12 : decode cX2_stepBehind 12 = .ok (.isub, 1) := by decide +kernel
theorem dX2_stepBehind_13 : decode cX2_stepBehind 13 = .ok (.goto 9, 3) := by decide +kernel
theorem dX2_stepBehind_16 : decode cX2_stepBehind 16 = .ok (.aload_n 0, 1) := by decide +kernel
theorem dX2_stepBehind_17 : decode cX2_stepBehind 17 = .ok (.getfield 22, 3) := by decide +kernel
theorem dX2_stepBehind_20 : decode cX2_stepBehind 20 = .ok (.iconst 1, 1) := by decide +kernel
theorem dX2_stepBehind_21 : decode cX2_stepBehind 21 = .ok (.iadd, 1) := by decide +kernel
theorem dX2_stepBehind_22 : decode cX2_stepBehind 22 = .ok (.ireturn, 1) := by decide +kernel
theorem dX2_yieldsTo_0 : decode cX2_yieldsTo 0 = .ok (.aload_n 0, 1) := by decide +kernel
theorem dX2_yieldsTo_1 : decode cX2_yieldsTo 1 = .ok (.getfield 15, 3) := by decide +kernel
theorem dX2_yieldsTo_4 : decode cX2_yieldsTo 4 = .ok (.aload_n 1, 1) := by decide +kernel
theorem dX2_yieldsTo_5 : decode cX2_yieldsTo 5 = .ok (.getfield 15, 3) := by decide +kernel
theorem dX2_yieldsTo_8 : decode cX2_yieldsTo 8 = .ok (.if_icmp .eq 36, 3) := by decide +kernel
theorem dX2_yieldsTo_11 : decode cX2_yieldsTo 11 = .ok (.aload_n 1, 1) := by decide +kernel
theorem dX2_yieldsTo_12 : decode cX2_yieldsTo 12 = .ok (.getfield 9, 3) := by decide +kernel
theorem dX2_yieldsTo_15 : decode cX2_yieldsTo 15 = .ok (.aload_n 0, 1) := by decide +kernel
theorem dX2_yieldsTo_16 : decode cX2_yieldsTo 16 = .ok (.getfield 9, 3) := by decide +kernel
theorem dX2_yieldsTo_19 : decode cX2_yieldsTo 19 = .ok (.if_icmp .gt 21, 3) := by decide +kernel
theorem dX2_yieldsTo_22 : decode cX2_yieldsTo 22 = .ok (.aload_n 1, 1) := by decide +kernel
theorem dX2_yieldsTo_23 : decode cX2_yieldsTo 23 = .ok (.getfield 9, 3) := by decide +kernel
theorem dX2_yieldsTo_26 : decode cX2_yieldsTo 26 = .ok (.aload_n 0, 1) := by decide +kernel
theorem dX2_yieldsTo_27 : decode cX2_yieldsTo 27 = .ok (.getfield 9, 3) := by decide +kernel
theorem dX2_yieldsTo_30 : decode cX2_yieldsTo 30 = .ok (.if_icmp .ne 14, 3) := by decide +kernel
theorem dX2_yieldsTo_33 : decode cX2_yieldsTo 33 = .ok (.aload_n 1, 1) := by decide +kernel
theorem dX2_yieldsTo_34 : decode cX2_yieldsTo 34 = .ok (.getfield 15, 3) := by decide +kernel
theorem dX2_yieldsTo_37 : decode cX2_yieldsTo 37 = .ok (.ifCond .ne 7, 3) := by decide +kernel
theorem dX2_yieldsTo_40 : decode cX2_yieldsTo 40 = .ok (.iconst 1, 1) := by decide +kernel
theorem dX2_yieldsTo_41 : decode cX2_yieldsTo 41 = .ok (.goto 4, 3) := by decide +kernel
theorem dX2_yieldsTo_44 : decode cX2_yieldsTo 44 = .ok (.iconst 0, 1) := by decide +kernel
theorem dX2_yieldsTo_45 : decode cX2_yieldsTo 45 = .ok (.ireturn, 1) := by decide +kernel
theorem dX2_stay_0 : decode cX2_stay 0 = .ok (.aload_n 0, 1) := by decide +kernel
theorem dX2_stay_1 : decode cX2_stay 1 = .ok (.iconst 3, 1) := by decide +kernel
theorem dX2_stay_2 : decode cX2_stay 2 = .ok (.putfield 40, 3) := by decide +kernel
theorem dX2_stay_5 : decode cX2_stay 5 = .ok (.aload_n 0, 1) := by decide +kernel
theorem dX2_stay_6 : decode cX2_stay 6 = .ok (.dup, 1) := by decide +kernel
theorem dX2_stay_7 : decode cX2_stay 7 = .ok (.getfield 25, 3) := by decide +kernel
theorem dX2_stay_10 : decode cX2_stay 10 = .ok (.iconst 1, 1) := by decide +kernel
theorem dX2_stay_11 : decode cX2_stay 11 = .ok (.iadd, 1) := by decide +kernel
theorem dX2_stay_12 : decode cX2_stay 12 = .ok (.putfield 25, 3) := by decide +kernel
theorem dX2_stay_15 : decode cX2_stay 15 = .ok (.aload_n 0, 1) := by decide +kernel
theorem dX2_stay_16 : decode cX2_stay 16 = .ok (.dup, 1) := by decide +kernel
theorem dX2_stay_17 : decode cX2_stay 17 = .ok (.getfield 37, 3) := by decide +kernel
theorem dX2_stay_20 : decode cX2_stay 20 = .ok (.iconst 1, 1) := by decide +kernel
theorem dX2_stay_21 : decode cX2_stay 21 = .ok (.iadd, 1) := by decide +kernel
theorem dX2_stay_22 : decode cX2_stay 22 = .ok (.putfield 37, 3) := by decide +kernel
theorem dX2_stay_25 : decode cX2_stay 25 = .ok (.return_, 1) := by decide +kernel
theorem dX2_bow_0 : decode cX2_bow 0 = .ok (.aload_n 0, 1) := by decide +kernel
theorem dX2_bow_1 : decode cX2_bow 1 = .ok (.dup, 1) := by decide +kernel
theorem dX2_bow_2 : decode cX2_bow 2 = .ok (.getfield 28, 3) := by decide +kernel
theorem dX2_bow_5 : decode cX2_bow 5 = .ok (.iconst 1, 1) := by decide +kernel
theorem dX2_bow_6 : decode cX2_bow 6 = .ok (.iadd, 1) := by decide +kernel
theorem dX2_bow_7 : decode cX2_bow 7 = .ok (.putfield 28, 3) := by decide +kernel
theorem dX2_bow_10 : decode cX2_bow 10 = .ok (.aload_n 0, 1) := by decide +kernel
theorem dX2_bow_11 : decode cX2_bow 11 = .ok (.dup, 1) := by decide +kernel
theorem dX2_bow_12 : decode cX2_bow 12 = .ok (.getfield 31, 3) := by decide +kernel
theorem dX2_bow_15 : decode cX2_bow 15 = .ok (.iload_n 1, 1) := by decide +kernel
theorem dX2_bow_16 : decode cX2_bow 16 = .ok (.iadd, 1) := by decide +kernel
theorem dX2_bow_17 : decode cX2_bow 17 = .ok (.putfield 31, 3) := by decide +kernel
theorem dX2_bow_20 : decode cX2_bow 20 = .ok (.return_, 1) := by decide +kernel
theorem dX2_tell_0 : decode cX2_tell 0 = .ok (.iload_n 1, 1) := by decide +kernel
theorem dX2_tell_1 : decode cX2_tell 1 = .ok (.tableswitch 129 0 8 #[51, 56, 69, 74, 92, 97, 102, 107, 124], 51) := by decide +kernel
theorem dX2_tell_52 : decode cX2_tell 52 = .ok (.aload_n 0, 1) := by decide +kernel
theorem dX2_tell_53 : decode cX2_tell 53 = .ok (.getfield 9, 3) := by decide +kernel
theorem dX2_tell_56 : decode cX2_tell 56 = .ok (.ireturn, 1) := by decide +kernel
theorem dX2_tell_57 : decode cX2_tell 57 = .ok (.aload_n 0, 1) := by decide +kernel
theorem dX2_tell_58 : decode cX2_tell 58 = .ok (.getfield 15, 3) := by decide +kernel
theorem dX2_tell_61 : decode cX2_tell 61 = .ok (.ifCond .eq 7, 3) := by decide +kernel
theorem dX2_tell_64 : decode cX2_tell 64 = .ok (.iconst 1, 1) := by decide +kernel
theorem dX2_tell_65 : decode cX2_tell 65 = .ok (.goto 4, 3) := by decide +kernel
theorem dX2_tell_68 : decode cX2_tell 68 = .ok (.iconst 0, 1) := by decide +kernel
theorem dX2_tell_69 : decode cX2_tell 69 = .ok (.ireturn, 1) := by decide +kernel
theorem dX2_tell_70 : decode cX2_tell 70 = .ok (.aload_n 0, 1) := by decide +kernel
theorem dX2_tell_71 : decode cX2_tell 71 = .ok (.getfield 19, 3) := by decide +kernel
theorem dX2_tell_74 : decode cX2_tell 74 = .ok (.ireturn, 1) := by decide +kernel
theorem dX2_tell_75 : decode cX2_tell 75 = .ok (.aload_n 0, 1) := by decide +kernel
theorem dX2_tell_76 : decode cX2_tell 76 = .ok (.getfield 19, 3) := by decide +kernel
theorem dX2_tell_79 : decode cX2_tell 79 = .ok (.iconst 1, 1) := by decide +kernel
theorem dX2_tell_80 : decode cX2_tell 80 = .ok (.if_icmp .ne 10, 3) := by decide +kernel
theorem dX2_tell_83 : decode cX2_tell 83 = .ok (.aload_n 0, 1) := by decide +kernel
theorem dX2_tell_84 : decode cX2_tell 84 = .ok (.getfield 22, 3) := by decide +kernel
theorem dX2_tell_87 : decode cX2_tell 87 = .ok (.goto 5, 3) := by decide +kernel
theorem dX2_tell_90 : decode cX2_tell 90 = .ok (.bipush (-6), 2) := by decide +kernel
theorem dX2_tell_92 : decode cX2_tell 92 = .ok (.ireturn, 1) := by decide +kernel
theorem dX2_tell_93 : decode cX2_tell 93 = .ok (.aload_n 0, 1) := by decide +kernel
theorem dX2_tell_94 : decode cX2_tell 94 = .ok (.getfield 25, 3) := by decide +kernel
theorem dX2_tell_97 : decode cX2_tell 97 = .ok (.ireturn, 1) := by decide +kernel
theorem dX2_tell_98 : decode cX2_tell 98 = .ok (.aload_n 0, 1) := by decide +kernel
theorem dX2_tell_99 : decode cX2_tell 99 = .ok (.getfield 28, 3) := by decide +kernel
theorem dX2_tell_102 : decode cX2_tell 102 = .ok (.ireturn, 1) := by decide +kernel
theorem dX2_tell_103 : decode cX2_tell 103 = .ok (.aload_n 0, 1) := by decide +kernel
theorem dX2_tell_104 : decode cX2_tell 104 = .ok (.getfield 31, 3) := by decide +kernel
theorem dX2_tell_107 : decode cX2_tell 107 = .ok (.ireturn, 1) := by decide +kernel
theorem dX2_tell_108 : decode cX2_tell 108 = .ok (.aload_n 0, 1) := by decide +kernel
theorem dX2_tell_109 : decode cX2_tell 109 = .ok (.invokevirtual 43, 3) := by decide +kernel
theorem dX2_tell_112 : decode cX2_tell 112 = .ok (.ifCond .eq 8, 3) := by decide +kernel
theorem dX2_tell_115 : decode cX2_tell 115 = .ok (.bipush (-6), 2) := by decide +kernel
theorem dX2_tell_117 : decode cX2_tell 117 = .ok (.goto 7, 3) := by decide +kernel
theorem dX2_tell_120 : decode cX2_tell 120 = .ok (.aload_n 0, 1) := by decide +kernel
theorem dX2_tell_121 : decode cX2_tell 121 = .ok (.getfield 34, 3) := by decide +kernel
theorem dX2_tell_124 : decode cX2_tell 124 = .ok (.ireturn, 1) := by decide +kernel
theorem dX2_tell_125 : decode cX2_tell 125 = .ok (.aload_n 0, 1) := by decide +kernel
theorem dX2_tell_126 : decode cX2_tell 126 = .ok (.getfield 37, 3) := by decide +kernel
theorem dX2_tell_129 : decode cX2_tell 129 = .ok (.ireturn, 1) := by decide +kernel
theorem dX2_tell_130 : decode cX2_tell 130 = .ok (.bipush (-2), 2) := by decide +kernel
theorem dX2_tell_132 : decode cX2_tell 132 = .ok (.ireturn, 1) := by decide +kernel
theorem dX3_admit_0 : decode cX3_admit 0 = .ok (.aload_n 0, 1) := by decide +kernel
theorem dX3_admit_1 : decode cX3_admit 1 = .ok (.getfield 38, 3) := by decide +kernel
theorem dX3_admit_4 : decode cX3_admit 4 = .ok (.bipush 24, 2) := by decide +kernel
theorem dX3_admit_6 : decode cX3_admit 6 = .ok (.if_icmp .ge 27, 3) := by decide +kernel
theorem dX3_admit_9 : decode cX3_admit 9 = .ok (.aload_n 0, 1) := by decide +kernel
theorem dX3_admit_10 : decode cX3_admit 10 = .ok (.getfield 20, 3) := by decide +kernel
theorem dX3_admit_13 : decode cX3_admit 13 = .ok (.aload_n 0, 1) := by decide +kernel
theorem dX3_admit_14 : decode cX3_admit 14 = .ok (.getfield 38, 3) := by decide +kernel
theorem dX3_admit_17 : decode cX3_admit 17 = .ok (.aaload, 1) := by decide +kernel
theorem dX3_admit_18 : decode cX3_admit 18 = .ok (.iload_n 1, 1) := by decide +kernel
theorem dX3_admit_19 : decode cX3_admit 19 = .ok (.iload_n 2, 1) := by decide +kernel
theorem dX3_admit_20 : decode cX3_admit 20 = .ok (.invokevirtual 48, 3) := by decide +kernel
theorem dX3_admit_23 : decode cX3_admit 23 = .ok (.aload_n 0, 1) := by decide +kernel
theorem dX3_admit_24 : decode cX3_admit 24 = .ok (.dup, 1) := by decide +kernel
theorem dX3_admit_25 : decode cX3_admit 25 = .ok (.getfield 38, 3) := by decide +kernel
theorem dX3_admit_28 : decode cX3_admit 28 = .ok (.iconst 1, 1) := by decide +kernel
theorem dX3_admit_29 : decode cX3_admit 29 = .ok (.iadd, 1) := by decide +kernel
theorem dX3_admit_30 : decode cX3_admit 30 = .ok (.putfield 38, 3) := by decide +kernel
theorem dX3_admit_33 : decode cX3_admit 33 = .ok (.return_, 1) := by decide +kernel
theorem dX3_isLanding_0 : decode cX3_isLanding 0 = .ok (.aload_n 0, 1) := by decide +kernel
theorem dX3_isLanding_1 : decode cX3_isLanding 1 = .ok (.getfield 27, 3) := by decide +kernel
theorem dX3_isLanding_4 : decode cX3_isLanding 4 = .ok (.iload_n 1, 1) := by decide +kernel
theorem dX3_isLanding_5 : decode cX3_isLanding 5 = .ok (.ishr, 1) := by decide +kernel
theorem dX3_isLanding_6 : decode cX3_isLanding 6 = .ok (.iconst 1, 1) := by decide +kernel
theorem dX3_isLanding_7 : decode cX3_isLanding 7 = .ok (.iand, 1) := by decide +kernel
theorem dX3_isLanding_8 : decode cX3_isLanding 8 = .ok (.iconst 1, 1) := by decide +kernel
theorem dX3_isLanding_9 : decode cX3_isLanding 9 = .ok (.if_icmp .ne 7, 3) := by decide +kernel
theorem dX3_isLanding_12 : decode cX3_isLanding 12 = .ok (.iconst 1, 1) := by decide +kernel
theorem dX3_isLanding_13 : decode cX3_isLanding 13 = .ok (.goto 4, 3) := by decide +kernel
theorem dX3_isLanding_16 : decode cX3_isLanding 16 = .ok (.iconst 0, 1) := by decide +kernel
theorem dX3_isLanding_17 : decode cX3_isLanding 17 = .ok (.ireturn, 1) := by decide +kernel
theorem dX4_isStep_0 : decode cX4_isStep 0 = .ok (.iload_n 0, 1) := by decide +kernel
theorem dX4_isStep_1 : decode cX4_isStep 1 = .ok (.ifCond .lt 13, 3) := by decide +kernel
theorem dX4_isStep_4 : decode cX4_isStep 4 = .ok (.iload_n 0, 1) := by decide +kernel
theorem dX4_isStep_5 : decode cX4_isStep 5 = .ok (.bipush 12, 2) := by decide +kernel
theorem dX4_isStep_7 : decode cX4_isStep 7 = .ok (.if_icmp .ge 7, 3) := by decide +kernel
theorem dX4_isStep_10 : decode cX4_isStep 10 = .ok (.iconst 1, 1) := by decide +kernel
theorem dX4_isStep_11 : decode cX4_isStep 11 = .ok (.goto 4, 3) := by decide +kernel
theorem dX4_isStep_14 : decode cX4_isStep 14 = .ok (.iconst 0, 1) := by decide +kernel
theorem dX4_isStep_15 : decode cX4_isStep 15 = .ok (.ireturn, 1) := by decide +kernel
theorem dX3_crowdOn_0 : decode cX3_crowdOn 0 = .ok (.iload_n 1, 1) := by decide +kernel
theorem dX3_crowdOn_1 : decode cX3_crowdOn 1 = .ok (.invokestatic 52, 3) := by decide +kernel
theorem dX3_crowdOn_4 : decode cX3_crowdOn 4 = .ok (.ifCond .eq 12, 3) := by decide +kernel
theorem dX3_crowdOn_7 : decode cX3_crowdOn 7 = .ok (.aload_n 0, 1) := by decide +kernel
theorem dX3_crowdOn_8 : decode cX3_crowdOn 8 = .ok (.getfield 24, 3) := by decide +kernel
theorem dX3_crowdOn_11 : decode cX3_crowdOn 11 = .ok (.iload_n 1, 1) := by decide +kernel
theorem dX3_crowdOn_12 : decode cX3_crowdOn 12 = .ok (.iaload, 1) := by decide +kernel
theorem dX3_crowdOn_13 : decode cX3_crowdOn 13 = .ok (.goto 4, 3) := by decide +kernel
theorem dX3_crowdOn_16 : decode cX3_crowdOn 16 = .ok (.iconst 0, 1) := by decide +kernel
theorem dX3_crowdOn_17 : decode cX3_crowdOn 17 = .ok (.ireturn, 1) := by decide +kernel
theorem dX3_roomOn_0 : decode cX3_roomOn 0 = .ok (.aload_n 0, 1) := by decide +kernel
theorem dX3_roomOn_1 : decode cX3_roomOn 1 = .ok (.iload_n 1, 1) := by decide +kernel
theorem dX3_roomOn_2 : decode cX3_roomOn 2 = .ok (.invokevirtual 56, 3) := by decide +kernel
theorem dX3_roomOn_5 : decode cX3_roomOn 5 = .ok (.ifCond .eq 12, 3) := by decide +kernel
theorem dX3_roomOn_8 : decode cX3_roomOn 8 = .ok (.aload_n 0, 1) := by decide +kernel
theorem dX3_roomOn_9 : decode cX3_roomOn 9 = .ok (.getfield 13, 3) := by decide +kernel
theorem dX3_roomOn_12 : decode cX3_roomOn 12 = .ok (.iconst 0, 1) := by decide +kernel
theorem dX3_roomOn_13 : decode cX3_roomOn 13 = .ok (.iaload, 1) := by decide +kernel
theorem dX3_roomOn_14 : decode cX3_roomOn 14 = .ok (.goto 4, 3) := by decide +kernel
theorem dX3_roomOn_17 : decode cX3_roomOn 17 = .ok (.iconst 1, 1) := by decide +kernel
theorem dX3_roomOn_18 : decode cX3_roomOn 18 = .ok (.aload_n 0, 1) := by decide +kernel
theorem dX3_roomOn_19 : decode cX3_roomOn 19 = .ok (.iload_n 1, 1) := by decide +kernel
theorem dX3_roomOn_20 : decode cX3_roomOn 20 = .ok (.invokevirtual 59, 3) := by decide +kernel
theorem dX3_roomOn_23 : decode cX3_roomOn 23 = .ok (.isub, 1) := by decide +kernel
theorem dX3_roomOn_24 : decode cX3_roomOn 24 = .ok (.ireturn, 1) := by decide +kernel
theorem dX3_greatestCrowd_0 : decode cX3_greatestCrowd 0 = .ok (.iconst 0, 1) := by decide +kernel
theorem dX3_greatestCrowd_1 : decode cX3_greatestCrowd 1 = .ok (.istore_n 1, 1) := by decide +kernel
theorem dX3_greatestCrowd_2 : decode cX3_greatestCrowd 2 = .ok (.iconst 0, 1) := by decide +kernel
theorem dX3_greatestCrowd_3 : decode cX3_greatestCrowd 3 = .ok (.istore_n 2, 1) := by decide +kernel
theorem dX3_greatestCrowd_4 : decode cX3_greatestCrowd 4 = .ok (.iload_n 2, 1) := by decide +kernel
theorem dX3_greatestCrowd_5 : decode cX3_greatestCrowd 5 = .ok (.bipush 12, 2) := by decide +kernel
theorem dX3_greatestCrowd_7 : decode cX3_greatestCrowd 7 = .ok (.if_icmp .ge 20, 3) := by decide +kernel
theorem dX3_greatestCrowd_10 : decode cX3_greatestCrowd 10 = .ok (.iload_n 1, 1) := by decide +kernel
theorem dX3_greatestCrowd_11 : decode cX3_greatestCrowd 11 = .ok (.aload_n 0, 1) := by decide +kernel
theorem dX3_greatestCrowd_12 : decode cX3_greatestCrowd 12 = .ok (.getfield 24, 3) := by decide +kernel
theorem dX3_greatestCrowd_15 : decode cX3_greatestCrowd 15 = .ok (.iload_n 2, 1) := by decide +kernel
theorem dX3_greatestCrowd_16 : decode cX3_greatestCrowd 16 = .ok (.iaload, 1) := by decide +kernel
theorem dX3_greatestCrowd_17 : decode cX3_greatestCrowd 17 = .ok (.invokestatic 63, 3) := by decide +kernel
theorem dX3_greatestCrowd_20 : decode cX3_greatestCrowd 20 = .ok (.istore_n 1, 1) := by decide +kernel
theorem dX3_greatestCrowd_21 : decode cX3_greatestCrowd 21 = .ok (.iinc 2 1, 3) := by decide +kernel
theorem dX3_greatestCrowd_24 : decode cX3_greatestCrowd 24 = .ok (.goto (-20), 3) := by decide +kernel
theorem dX3_greatestCrowd_27 : decode cX3_greatestCrowd 27 = .ok (.iload_n 1, 1) := by decide +kernel
theorem dX3_greatestCrowd_28 : decode cX3_greatestCrowd 28 = .ok (.ireturn, 1) := by decide +kernel
theorem dX3_highestOn_0 : decode cX3_highestOn 0 = .ok (.bipush (-6), 2) := by decide +kernel
theorem dX3_highestOn_2 : decode cX3_highestOn 2 = .ok (.istore_n 2, 1) := by decide +kernel
theorem dX3_highestOn_3 : decode cX3_highestOn 3 = .ok (.iconst 0, 1) := by decide +kernel
theorem dX3_highestOn_4 : decode cX3_highestOn 4 = .ok (.istore_n 3, 1) := by decide +kernel
theorem dX3_highestOn_5 : decode cX3_highestOn 5 = .ok (.iconst 0, 1) := by decide +kernel
theorem dX3_highestOn_6 : decode cX3_highestOn 6 = .ok (.istore 4, 2) := by decide +kernel
theorem dX3_highestOn_8 : decode cX3_highestOn 8 = .ok (.iload 4, 2) := by decide +kernel
theorem dX3_highestOn_10 : decode cX3_highestOn 10 = .ok (.aload_n 0, 1) := by decide +kernel
theorem dX3_highestOn_11 : decode cX3_highestOn 11 = .ok (.getfield 38, 3) := by decide +kernel
theorem dX3_highestOn_14 : decode cX3_highestOn 14 = .ok (.if_icmp .ge 51, 3) := by decide +kernel
theorem dX3_highestOn_17 : decode cX3_highestOn 17 = .ok (.aload_n 0, 1) := by decide +kernel
theorem dX3_highestOn_18 : decode cX3_highestOn 18 = .ok (.getfield 20, 3) := by decide +kernel
theorem dX3_highestOn_21 : decode cX3_highestOn 21 = .ok (.iload 4, 2) := by decide +kernel
theorem dX3_highestOn_23 : decode cX3_highestOn 23 = .ok (.aaload, 1) := by decide +kernel
theorem dX3_highestOn_24 : decode cX3_highestOn 24 = .ok (.iload_n 1, 1) := by decide +kernel
theorem dX3_highestOn_25 : decode cX3_highestOn 25 = .ok (.invokevirtual 69, 3) := by decide +kernel
theorem dX3_highestOn_28 : decode cX3_highestOn 28 = .ok (.ifCond .eq 31, 3) := by decide +kernel
theorem dX3_highestOn_31 : decode cX3_highestOn 31 = .ok (.aload_n 0, 1) := by decide +kernel
theorem dX3_highestOn_32 : decode cX3_highestOn 32 = .ok (.getfield 20, 3) := by decide +kernel
theorem dX3_highestOn_35 : decode cX3_highestOn 35 = .ok (.iload 4, 2) := by decide +kernel
theorem dX3_highestOn_37 : decode cX3_highestOn 37 = .ok (.aaload, 1) := by decide +kernel
theorem dX3_highestOn_38 : decode cX3_highestOn 38 = .ok (.getfield 72, 3) := by decide +kernel
theorem dX3_highestOn_41 : decode cX3_highestOn 41 = .ok (.iload_n 3, 1) := by decide +kernel
theorem dX3_highestOn_42 : decode cX3_highestOn 42 = .ok (.if_icmp .le 17, 3) := by decide +kernel
theorem dX3_highestOn_45 : decode cX3_highestOn 45 = .ok (.iload 4, 2) := by decide +kernel
theorem dX3_highestOn_47 : decode cX3_highestOn 47 = .ok (.istore_n 2, 1) := by decide +kernel
theorem dX3_highestOn_48 : decode cX3_highestOn 48 = .ok (.aload_n 0, 1) := by decide +kernel
theorem dX3_highestOn_49 : decode cX3_highestOn 49 = .ok (.getfield 20, 3) := by decide +kernel
theorem dX3_highestOn_52 : decode cX3_highestOn 52 = .ok (.iload 4, 2) := by decide +kernel
theorem dX3_highestOn_54 : decode cX3_highestOn 54 = .ok (.aaload, 1) := by decide +kernel
theorem dX3_highestOn_55 : decode cX3_highestOn 55 = .ok (.getfield 72, 3) := by decide +kernel
theorem dX3_highestOn_58 : decode cX3_highestOn 58 = .ok (.istore_n 3, 1) := by decide +kernel
theorem dX3_highestOn_59 : decode cX3_highestOn 59 = .ok (.iinc 4 1, 3) := by decide +kernel
theorem dX3_highestOn_62 : decode cX3_highestOn 62 = .ok (.goto (-54), 3) := by decide +kernel
theorem dX3_highestOn_65 : decode cX3_highestOn 65 = .ok (.iload_n 2, 1) := by decide +kernel
theorem dX3_highestOn_66 : decode cX3_highestOn 66 = .ok (.ireturn, 1) := by decide +kernel
theorem dX3_peopleWho_0 : decode cX3_peopleWho 0 = .ok (.iconst 0, 1) := by decide +kernel
theorem dX3_peopleWho_1 : decode cX3_peopleWho 1 = .ok (.istore_n 2, 1) := by decide +kernel
theorem dX3_peopleWho_2 : decode cX3_peopleWho 2 = .ok (.iconst 0, 1) := by decide +kernel
theorem dX3_peopleWho_3 : decode cX3_peopleWho 3 = .ok (.istore_n 3, 1) := by decide +kernel
theorem dX3_peopleWho_4 : decode cX3_peopleWho 4 = .ok (.iload_n 3, 1) := by decide +kernel
theorem dX3_peopleWho_5 : decode cX3_peopleWho 5 = .ok (.aload_n 0, 1) := by decide +kernel
theorem dX3_peopleWho_6 : decode cX3_peopleWho 6 = .ok (.getfield 38, 3) := by decide +kernel
theorem dX3_peopleWho_9 : decode cX3_peopleWho 9 = .ok (.if_icmp .ge 25, 3) := by decide +kernel
theorem dX3_peopleWho_12 : decode cX3_peopleWho 12 = .ok (.aload_n 0, 1) := by decide +kernel
theorem dX3_peopleWho_13 : decode cX3_peopleWho 13 = .ok (.getfield 20, 3) := by decide +kernel
theorem dX3_peopleWho_16 : decode cX3_peopleWho 16 = .ok (.iload_n 3, 1) := by decide +kernel
theorem dX3_peopleWho_17 : decode cX3_peopleWho 17 = .ok (.aaload, 1) := by decide +kernel
theorem dX3_peopleWho_18 : decode cX3_peopleWho 18 = .ok (.getfield 75, 3) := by decide +kernel
theorem dX3_peopleWho_21 : decode cX3_peopleWho 21 = .ok (.iload_n 1, 1) := by decide +kernel
theorem dX3_peopleWho_22 : decode cX3_peopleWho 22 = .ok (.if_icmp .ne 6, 3) := by decide +kernel
theorem dX3_peopleWho_25 : decode cX3_peopleWho 25 = .ok (.iinc 2 1, 3) := by decide +kernel
theorem dX3_peopleWho_28 : decode cX3_peopleWho 28 = .ok (.iinc 3 1, 3) := by decide +kernel
theorem dX3_peopleWho_31 : decode cX3_peopleWho 31 = .ok (.goto (-27), 3) := by decide +kernel
theorem dX3_peopleWho_34 : decode cX3_peopleWho 34 = .ok (.iload_n 2, 1) := by decide +kernel
theorem dX3_peopleWho_35 : decode cX3_peopleWho 35 = .ok (.ireturn, 1) := by decide +kernel
theorem dX3_sumOf_0 : decode cX3_sumOf 0 = .ok (.iconst 0, 1) := by decide +kernel
theorem dX3_sumOf_1 : decode cX3_sumOf 1 = .ok (.istore_n 2, 1) := by decide +kernel
theorem dX3_sumOf_2 : decode cX3_sumOf 2 = .ok (.iconst 0, 1) := by decide +kernel
theorem dX3_sumOf_3 : decode cX3_sumOf 3 = .ok (.istore_n 3, 1) := by decide +kernel
theorem dX3_sumOf_4 : decode cX3_sumOf 4 = .ok (.iload_n 3, 1) := by decide +kernel
theorem dX3_sumOf_5 : decode cX3_sumOf 5 = .ok (.aload_n 0, 1) := by decide +kernel
theorem dX3_sumOf_6 : decode cX3_sumOf 6 = .ok (.getfield 38, 3) := by decide +kernel
theorem dX3_sumOf_9 : decode cX3_sumOf 9 = .ok (.if_icmp .ge 22, 3) := by decide +kernel
theorem dX3_sumOf_12 : decode cX3_sumOf 12 = .ok (.iload_n 2, 1) := by decide +kernel
theorem dX3_sumOf_13 : decode cX3_sumOf 13 = .ok (.aload_n 0, 1) := by decide +kernel
theorem dX3_sumOf_14 : decode cX3_sumOf 14 = .ok (.getfield 20, 3) := by decide +kernel
theorem dX3_sumOf_17 : decode cX3_sumOf 17 = .ok (.iload_n 3, 1) := by decide +kernel
theorem dX3_sumOf_18 : decode cX3_sumOf 18 = .ok (.aaload, 1) := by decide +kernel
theorem dX3_sumOf_19 : decode cX3_sumOf 19 = .ok (.iload_n 1, 1) := by decide +kernel
theorem dX3_sumOf_20 : decode cX3_sumOf 20 = .ok (.invokevirtual 78, 3) := by decide +kernel
theorem dX3_sumOf_23 : decode cX3_sumOf 23 = .ok (.iadd, 1) := by decide +kernel
theorem dX3_sumOf_24 : decode cX3_sumOf 24 = .ok (.istore_n 2, 1) := by decide +kernel
theorem dX3_sumOf_25 : decode cX3_sumOf 25 = .ok (.iinc 3 1, 3) := by decide +kernel
theorem dX3_sumOf_28 : decode cX3_sumOf 28 = .ok (.goto (-24), 3) := by decide +kernel
theorem dX3_sumOf_31 : decode cX3_sumOf 31 = .ok (.iload_n 2, 1) := by decide +kernel
theorem dX3_sumOf_32 : decode cX3_sumOf 32 = .ok (.ireturn, 1) := by decide +kernel
theorem dX3_isAnybodyOnWay_0 : decode cX3_isAnybodyOnWay 0 = .ok (.iconst 0, 1) := by decide +kernel
theorem dX3_isAnybodyOnWay_1 : decode cX3_isAnybodyOnWay 1 = .ok (.istore_n 1, 1) := by decide +kernel
theorem dX3_isAnybodyOnWay_2 : decode cX3_isAnybodyOnWay 2 = .ok (.iload_n 1, 1) := by decide +kernel
theorem dX3_isAnybodyOnWay_3 : decode cX3_isAnybodyOnWay 3 = .ok (.aload_n 0, 1) := by decide +kernel
theorem dX3_isAnybodyOnWay_4 : decode cX3_isAnybodyOnWay 4 = .ok (.getfield 38, 3) := by decide +kernel
theorem dX3_isAnybodyOnWay_7 : decode cX3_isAnybodyOnWay 7 = .ok (.if_icmp .ge 23, 3) := by decide +kernel
theorem dX3_isAnybodyOnWay_10 : decode cX3_isAnybodyOnWay 10 = .ok (.aload_n 0, 1) := by decide +kernel
theorem dX3_isAnybodyOnWay_11 : decode cX3_isAnybodyOnWay 11 = .ok (.getfield 20, 3) := by decide +kernel
theorem dX3_isAnybodyOnWay_14 : decode cX3_isAnybodyOnWay 14 = .ok (.iload_n 1, 1) := by decide +kernel
theorem dX3_isAnybodyOnWay_15 : decode cX3_isAnybodyOnWay 15 = .ok (.aaload, 1) := by decide +kernel
theorem dX3_isAnybodyOnWay_16 : decode cX3_isAnybodyOnWay 16 = .ok (.invokevirtual 81, 3) := by decide +kernel
theorem dX3_isAnybodyOnWay_19 : decode cX3_isAnybodyOnWay 19 = .ok (.ifCond .eq 5, 3) := by decide +kernel
theorem dX3_isAnybodyOnWay_22 : decode cX3_isAnybodyOnWay 22 = .ok (.iconst 1, 1) := by decide +kernel
theorem dX3_isAnybodyOnWay_23 : decode cX3_isAnybodyOnWay 23 = .ok (.ireturn, 1) := by decide +kernel
theorem dX3_isAnybodyOnWay_24 : decode cX3_isAnybodyOnWay 24 = .ok (.iinc 1 1, 3) := by decide +kernel
theorem dX3_isAnybodyOnWay_27 : decode cX3_isAnybodyOnWay 27 = .ok (.goto (-25), 3) := by decide +kernel
theorem dX3_isAnybodyOnWay_30 : decode cX3_isAnybodyOnWay 30 = .ok (.iconst 0, 1) := by decide +kernel
theorem dX3_isAnybodyOnWay_31 : decode cX3_isAnybodyOnWay 31 = .ok (.ireturn, 1) := by decide +kernel
theorem dX3_bring_0 : decode cX3_bring 0 = .ok (.aload_n 1, 1) := by decide +kernel
theorem dX3_bring_1 : decode cX3_bring 1 = .ok (.getfield 127, 3) := by decide +kernel
theorem dX3_bring_4 : decode cX3_bring 4 = .ok (.invokestatic 52, 3) := by decide +kernel
theorem dX3_bring_7 : decode cX3_bring 7 = .ok (.ifCond .eq 16, 3) := by decide +kernel
theorem dX3_bring_10 : decode cX3_bring 10 = .ok (.aload_n 0, 1) := by decide +kernel
theorem dX3_bring_11 : decode cX3_bring 11 = .ok (.getfield 24, 3) := by decide +kernel
theorem dX3_bring_14 : decode cX3_bring 14 = .ok (.aload_n 1, 1) := by decide +kernel
theorem dX3_bring_15 : decode cX3_bring 15 = .ok (.getfield 127, 3) := by decide +kernel
theorem dX3_bring_18 : decode cX3_bring 18 = .ok (.dup2, 1) := by decide +kernel
theorem dX3_bring_19 : decode cX3_bring 19 = .ok (.iaload, 1) := by decide +kernel
theorem dX3_bring_20 : decode cX3_bring 20 = .ok (.iconst 1, 1) := by decide +kernel
theorem dX3_bring_21 : decode cX3_bring 21 = .ok (.isub, 1) := by decide +kernel
theorem dX3_bring_22 : decode cX3_bring 22 = .ok (.iastore, 1) := by decide +kernel
theorem dX3_bring_23 : decode cX3_bring 23 = .ok (.iload_n 2, 1) := by decide +kernel
theorem dX3_bring_24 : decode cX3_bring 24 = .ok (.invokestatic 52, 3) := by decide +kernel
theorem dX3_bring_27 : decode cX3_bring 27 = .ok (.ifCond .eq 16, 3) := by decide +kernel
theorem dX3_bring_30 : decode cX3_bring 30 = .ok (.aload_n 0, 1) := by decide +kernel
theorem dX3_bring_31 : decode cX3_bring 31 = .ok (.getfield 24, 3) := by decide +kernel
theorem dX3_bring_34 : decode cX3_bring 34 = .ok (.iload_n 2, 1) := by decide +kernel
theorem dX3_bring_35 : decode cX3_bring 35 = .ok (.dup2, 1) := by decide +kernel
theorem dX3_bring_36 : decode cX3_bring 36 = .ok (.iaload, 1) := by decide +kernel
theorem dX3_bring_37 : decode cX3_bring 37 = .ok (.iconst 1, 1) := by decide +kernel
theorem dX3_bring_38 : decode cX3_bring 38 = .ok (.iadd, 1) := by decide +kernel
theorem dX3_bring_39 : decode cX3_bring 39 = .ok (.iastore, 1) := by decide +kernel
theorem dX3_bring_40 : decode cX3_bring 40 = .ok (.goto 13, 3) := by decide +kernel
theorem dX3_bring_43 : decode cX3_bring 43 = .ok (.aload_n 1, 1) := by decide +kernel
theorem dX3_bring_44 : decode cX3_bring 44 = .ok (.aload_n 0, 1) := by decide +kernel
theorem dX3_bring_45 : decode cX3_bring 45 = .ok (.getfield 41, 3) := by decide +kernel
theorem dX3_bring_48 : decode cX3_bring 48 = .ok (.iconst 1, 1) := by decide +kernel
theorem dX3_bring_49 : decode cX3_bring 49 = .ok (.iadd, 1) := by decide +kernel
theorem dX3_bring_50 : decode cX3_bring 50 = .ok (.putfield 130, 3) := by decide +kernel
theorem dX3_bring_53 : decode cX3_bring 53 = .ok (.aload_n 1, 1) := by decide +kernel
theorem dX3_bring_54 : decode cX3_bring 54 = .ok (.iload_n 2, 1) := by decide +kernel
theorem dX3_bring_55 : decode cX3_bring 55 = .ok (.putfield 127, 3) := by decide +kernel
theorem dX3_bring_58 : decode cX3_bring 58 = .ok (.aload_n 1, 1) := by decide +kernel
theorem dX3_bring_59 : decode cX3_bring 59 = .ok (.iload_n 3, 1) := by decide +kernel
theorem dX3_bring_60 : decode cX3_bring 60 = .ok (.putfield 75, 3) := by decide +kernel
theorem dX3_bring_63 : decode cX3_bring 63 = .ok (.aload_n 1, 1) := by decide +kernel
theorem dX3_bring_64 : decode cX3_bring 64 = .ok (.iload 4, 2) := by decide +kernel
theorem dX3_bring_66 : decode cX3_bring 66 = .ok (.putfield 85, 3) := by decide +kernel
theorem dX3_bring_69 : decode cX3_bring 69 = .ok (.aload_n 1, 1) := by decide +kernel
theorem dX3_bring_70 : decode cX3_bring 70 = .ok (.iconst 0, 1) := by decide +kernel
theorem dX3_bring_71 : decode cX3_bring 71 = .ok (.putfield 109, 3) := by decide +kernel
theorem dX3_bring_74 : decode cX3_bring 74 = .ok (.return_, 1) := by decide +kernel
theorem dX3_yielderOn_0 : decode cX3_yielderOn 0 = .ok (.aconst_null, 1) := by decide +kernel
theorem dX3_yielderOn_1 : decode cX3_yielderOn 1 = .ok (.astore_n 3, 1) := by decide +kernel
theorem dX3_yielderOn_2 : decode cX3_yielderOn 2 = .ok (.iconst 0, 1) := by decide +kernel
theorem dX3_yielderOn_3 : decode cX3_yielderOn 3 = .ok (.istore 4, 2) := by decide +kernel
theorem dX3_yielderOn_5 : decode cX3_yielderOn 5 = .ok (.iload 4, 2) := by decide +kernel
theorem dX3_yielderOn_7 : decode cX3_yielderOn 7 = .ok (.aload_n 0, 1) := by decide +kernel
theorem dX3_yielderOn_8 : decode cX3_yielderOn 8 = .ok (.getfield 38, 3) := by decide +kernel
theorem dX3_yielderOn_11 : decode cX3_yielderOn 11 = .ok (.if_icmp .ge 55, 3) := by decide +kernel
theorem dX3_yielderOn_14 : decode cX3_yielderOn 14 = .ok (.aload_n 0, 1) := by decide +kernel
theorem dX3_yielderOn_15 : decode cX3_yielderOn 15 = .ok (.getfield 20, 3) := by decide +kernel
theorem dX3_yielderOn_18 : decode cX3_yielderOn 18 = .ok (.iload 4, 2) := by decide +kernel
theorem dX3_yielderOn_20 : decode cX3_yielderOn 20 = .ok (.aaload, 1) := by decide +kernel
theorem dX3_yielderOn_21 : decode cX3_yielderOn 21 = .ok (.astore 5, 2) := by decide +kernel
theorem dX3_yielderOn_23 : decode cX3_yielderOn 23 = .ok (.aload 5, 2) := by decide +kernel
theorem dX3_yielderOn_25 : decode cX3_yielderOn 25 = .ok (.iload_n 1, 1) := by decide +kernel
theorem dX3_yielderOn_26 : decode cX3_yielderOn 26 = .ok (.invokevirtual 69, 3) := by decide +kernel
theorem dX3_yielderOn_29 : decode cX3_yielderOn 29 = .ok (.ifCond .eq 31, 3) := by decide +kernel
theorem dX3_yielderOn_32 : decode cX3_yielderOn 32 = .ok (.aload 5, 2) := by decide +kernel
theorem dX3_yielderOn_34 : decode cX3_yielderOn 34 = .ok (.aload_n 2, 1) := by decide +kernel
theorem dX3_yielderOn_35 : decode cX3_yielderOn 35 = .ok (.invokevirtual 123, 3) := by decide +kernel
theorem dX3_yielderOn_38 : decode cX3_yielderOn 38 = .ok (.ifCond .eq 22, 3) := by decide +kernel
theorem dX3_yielderOn_41 : decode cX3_yielderOn 41 = .ok (.aload_n 3, 1) := by decide +kernel
theorem dX3_yielderOn_42 : decode cX3_yielderOn 42 = .ok (.ifnull 15, 3) := by decide +kernel
theorem dX3_yielderOn_45 : decode cX3_yielderOn 45 = .ok (.aload 5, 2) := by decide +kernel
theorem dX3_yielderOn_47 : decode cX3_yielderOn 47 = .ok (.getfield 72, 3) := by decide +kernel
theorem dX3_yielderOn_50 : decode cX3_yielderOn 50 = .ok (.aload_n 3, 1) := by decide +kernel
theorem dX3_yielderOn_51 : decode cX3_yielderOn 51 = .ok (.getfield 72, 3) := by decide +kernel
theorem dX3_yielderOn_54 : decode cX3_yielderOn 54 = .ok (.if_icmp .ge 6, 3) := by decide +kernel
theorem dX3_yielderOn_57 : decode cX3_yielderOn 57 = .ok (.aload 5, 2) := by decide +kernel
theorem dX3_yielderOn_59 : decode cX3_yielderOn 59 = .ok (.astore_n 3, 1) := by decide +kernel
theorem dX3_yielderOn_60 : decode cX3_yielderOn 60 = .ok (.iinc 4 1, 3) := by decide +kernel
theorem dX3_yielderOn_63 : decode cX3_yielderOn 63 = .ok (.goto (-58), 3) := by decide +kernel
theorem dX3_yielderOn_66 : decode cX3_yielderOn 66 = .ok (.aload_n 3, 1) := by decide +kernel
theorem dX3_yielderOn_67 : decode cX3_yielderOn 67 = .ok (.areturn, 1) := by decide +kernel
theorem dX3_isCleared_0 : decode cX3_isCleared 0 = .ok (.aload_n 2, 1) := by decide +kernel
theorem dX3_isCleared_1 : decode cX3_isCleared 1 = .ok (.getfield 109, 3) := by decide +kernel
theorem dX3_isCleared_4 : decode cX3_isCleared 4 = .ok (.aload_n 0, 1) := by decide +kernel
theorem dX3_isCleared_5 : decode cX3_isCleared 5 = .ok (.getfield 13, 3) := by decide +kernel
theorem dX3_isCleared_8 : decode cX3_isCleared 8 = .ok (.iconst 2, 1) := by decide +kernel
theorem dX3_isCleared_9 : decode cX3_isCleared 9 = .ok (.iaload, 1) := by decide +kernel
theorem dX3_isCleared_10 : decode cX3_isCleared 10 = .ok (.if_icmp .ge 5, 3) := by decide +kernel
theorem dX3_isCleared_13 : decode cX3_isCleared 13 = .ok (.iconst 0, 1) := by decide +kernel
theorem dX3_isCleared_14 : decode cX3_isCleared 14 = .ok (.ireturn, 1) := by decide +kernel
theorem dX3_isCleared_15 : decode cX3_isCleared 15 = .ok (.aload_n 0, 1) := by decide +kernel
theorem dX3_isCleared_16 : decode cX3_isCleared 16 = .ok (.iload_n 1, 1) := by decide +kernel
theorem dX3_isCleared_17 : decode cX3_isCleared 17 = .ok (.aload_n 2, 1) := by decide +kernel
theorem dX3_isCleared_18 : decode cX3_isCleared 18 = .ok (.invokevirtual 112, 3) := by decide +kernel
theorem dX3_isCleared_21 : decode cX3_isCleared 21 = .ok (.astore_n 3, 1) := by decide +kernel
theorem dX3_isCleared_22 : decode cX3_isCleared 22 = .ok (.aload_n 3, 1) := by decide +kernel
theorem dX3_isCleared_23 : decode cX3_isCleared 23 = .ok (.ifnonnull 5, 3) := by decide +kernel
theorem dX3_isCleared_26 : decode cX3_isCleared 26 = .ok (.iconst 0, 1) := by decide +kernel
theorem dX3_isCleared_27 : decode cX3_isCleared 27 = .ok (.ireturn, 1) := by decide +kernel
theorem dX3_isCleared_28 : decode cX3_isCleared 28 = .ok (.aload_n 3, 1) := by decide +kernel
theorem dX3_isCleared_29 : decode cX3_isCleared 29 = .ok (.invokevirtual 116, 3) := by decide +kernel
theorem dX3_isCleared_32 : decode cX3_isCleared 32 = .ok (.istore 4, 2) := by decide +kernel
theorem dX3_isCleared_34 : decode cX3_isCleared 34 = .ok (.iload 4, 2) := by decide +kernel
theorem dX3_isCleared_36 : decode cX3_isCleared 36 = .ok (.invokestatic 52, 3) := by decide +kernel
theorem dX3_isCleared_39 : decode cX3_isCleared 39 = .ok (.ifCond .eq 14, 3) := by decide +kernel
theorem dX3_isCleared_42 : decode cX3_isCleared 42 = .ok (.aload_n 0, 1) := by decide +kernel
theorem dX3_isCleared_43 : decode cX3_isCleared 43 = .ok (.iload 4, 2) := by decide +kernel
theorem dX3_isCleared_45 : decode cX3_isCleared 45 = .ok (.invokevirtual 99, 3) := by decide +kernel
theorem dX3_isCleared_48 : decode cX3_isCleared 48 = .ok (.ifCond .gt 5, 3) := by decide +kernel
theorem dX3_isCleared_51 : decode cX3_isCleared 51 = .ok (.iconst 0, 1) := by decide +kernel
theorem dX3_isCleared_52 : decode cX3_isCleared 52 = .ok (.ireturn, 1) := by decide +kernel
theorem dX3_isCleared_53 : decode cX3_isCleared 53 = .ok (.iload 4, 2) := by decide +kernel
theorem dX3_isCleared_55 : decode cX3_isCleared 55 = .ok (.invokestatic 52, 3) := by decide +kernel
theorem dX3_isCleared_58 : decode cX3_isCleared 58 = .ok (.ifCond .eq 15, 3) := by decide +kernel
theorem dX3_isCleared_61 : decode cX3_isCleared 61 = .ok (.aload_n 0, 1) := by decide +kernel
theorem dX3_isCleared_62 : decode cX3_isCleared 62 = .ok (.aload_n 3, 1) := by decide +kernel
theorem dX3_isCleared_63 : decode cX3_isCleared 63 = .ok (.iload 4, 2) := by decide +kernel
theorem dX3_isCleared_65 : decode cX3_isCleared 65 = .ok (.iconst 1, 1) := by decide +kernel
theorem dX3_isCleared_66 : decode cX3_isCleared 66 = .ok (.iconst 4, 1) := by decide +kernel
theorem dX3_isCleared_67 : decode cX3_isCleared 67 = .ok (.invokevirtual 95, 3) := by decide +kernel
theorem dX3_isCleared_70 : decode cX3_isCleared 70 = .ok (.goto 12, 3) := by decide +kernel
theorem dX3_isCleared_73 : decode cX3_isCleared 73 = .ok (.aload_n 0, 1) := by decide +kernel
theorem dX3_isCleared_74 : decode cX3_isCleared 74 = .ok (.aload_n 3, 1) := by decide +kernel
theorem dX3_isCleared_75 : decode cX3_isCleared 75 = .ok (.iload 4, 2) := by decide +kernel
theorem dX3_isCleared_77 : decode cX3_isCleared 77 = .ok (.iconst 3, 1) := by decide +kernel
theorem dX3_isCleared_78 : decode cX3_isCleared 78 = .ok (.iconst 5, 1) := by decide +kernel
theorem dX3_isCleared_79 : decode cX3_isCleared 79 = .ok (.invokevirtual 95, 3) := by decide +kernel
theorem dX3_isCleared_82 : decode cX3_isCleared 82 = .ok (.aload_n 3, 1) := by decide +kernel
theorem dX3_isCleared_83 : decode cX3_isCleared 83 = .ok (.aload_n 0, 1) := by decide +kernel
theorem dX3_isCleared_84 : decode cX3_isCleared 84 = .ok (.getfield 13, 3) := by decide +kernel
theorem dX3_isCleared_87 : decode cX3_isCleared 87 = .ok (.iconst 1, 1) := by decide +kernel
theorem dX3_isCleared_88 : decode cX3_isCleared 88 = .ok (.iaload, 1) := by decide +kernel
theorem dX3_isCleared_89 : decode cX3_isCleared 89 = .ok (.aload_n 2, 1) := by decide +kernel
theorem dX3_isCleared_90 : decode cX3_isCleared 90 = .ok (.getfield 72, 3) := by decide +kernel
theorem dX3_isCleared_93 : decode cX3_isCleared 93 = .ok (.aload_n 3, 1) := by decide +kernel
theorem dX3_isCleared_94 : decode cX3_isCleared 94 = .ok (.getfield 72, 3) := by decide +kernel
theorem dX3_isCleared_97 : decode cX3_isCleared 97 = .ok (.isub, 1) := by decide +kernel
theorem dX3_isCleared_98 : decode cX3_isCleared 98 = .ok (.iconst 1, 1) := by decide +kernel
theorem dX3_isCleared_99 : decode cX3_isCleared 99 = .ok (.iadd, 1) := by decide +kernel
theorem dX3_isCleared_100 : decode cX3_isCleared 100 = .ok (.imul, 1) := by decide +kernel
theorem dX3_isCleared_101 : decode cX3_isCleared 101 = .ok (.invokevirtual 119, 3) := by decide +kernel
theorem dX3_isCleared_104 : decode cX3_isCleared 104 = .ok (.iconst 1, 1) := by decide +kernel
theorem dX3_isCleared_105 : decode cX3_isCleared 105 = .ok (.ireturn, 1) := by decide +kernel
theorem dX3_move_0 : decode cX3_move 0 = .ok (.aload_n 1, 1) := by decide +kernel
theorem dX3_move_1 : decode cX3_move 1 = .ok (.invokevirtual 91, 3) := by decide +kernel
theorem dX3_move_4 : decode cX3_move 4 = .ok (.istore_n 2, 1) := by decide +kernel
theorem dX3_move_5 : decode cX3_move 5 = .ok (.iload_n 2, 1) := by decide +kernel
theorem dX3_move_6 : decode cX3_move 6 = .ok (.invokestatic 52, 3) := by decide +kernel
theorem dX3_move_9 : decode cX3_move 9 = .ok (.ifCond .ne 14, 3) := by decide +kernel
theorem dX3_move_12 : decode cX3_move 12 = .ok (.aload_n 0, 1) := by decide +kernel
theorem dX3_move_13 : decode cX3_move 13 = .ok (.aload_n 1, 1) := by decide +kernel
theorem dX3_move_14 : decode cX3_move 14 = .ok (.iload_n 2, 1) := by decide +kernel
theorem dX3_move_15 : decode cX3_move 15 = .ok (.iconst 2, 1) := by decide +kernel
theorem dX3_move_16 : decode cX3_move 16 = .ok (.iconst 2, 1) := by decide +kernel
theorem dX3_move_17 : decode cX3_move 17 = .ok (.invokevirtual 95, 3) := by decide +kernel
theorem dX3_move_20 : decode cX3_move 20 = .ok (.goto 35, 3) := by decide +kernel
theorem dX3_move_23 : decode cX3_move 23 = .ok (.aload_n 0, 1) := by decide +kernel
theorem dX3_move_24 : decode cX3_move 24 = .ok (.iload_n 2, 1) := by decide +kernel
theorem dX3_move_25 : decode cX3_move 25 = .ok (.invokevirtual 99, 3) := by decide +kernel
theorem dX3_move_28 : decode cX3_move 28 = .ok (.ifCond .gt 12, 3) := by decide +kernel
theorem dX3_move_31 : decode cX3_move 31 = .ok (.aload_n 0, 1) := by decide +kernel
theorem dX3_move_32 : decode cX3_move 32 = .ok (.iload_n 2, 1) := by decide +kernel
theorem dX3_move_33 : decode cX3_move 33 = .ok (.aload_n 1, 1) := by decide +kernel
theorem dX3_move_34 : decode cX3_move 34 = .ok (.invokevirtual 102, 3) := by decide +kernel
theorem dX3_move_37 : decode cX3_move 37 = .ok (.ifCond .eq 14, 3) := by decide +kernel
theorem dX3_move_40 : decode cX3_move 40 = .ok (.aload_n 0, 1) := by decide +kernel
theorem dX3_move_41 : decode cX3_move 41 = .ok (.aload_n 1, 1) := by decide +kernel
theorem dX3_move_42 : decode cX3_move 42 = .ok (.iload_n 2, 1) := by decide +kernel
theorem dX3_move_43 : decode cX3_move 43 = .ok (.iconst 1, 1) := by decide +kernel
theorem dX3_move_44 : decode cX3_move 44 = .ok (.iconst 1, 1) := by decide +kernel
theorem dX3_move_45 : decode cX3_move 45 = .ok (.invokevirtual 95, 3) := by decide +kernel
theorem dX3_move_48 : decode cX3_move 48 = .ok (.goto 7, 3) := by decide +kernel
theorem dX3_move_51 : decode cX3_move 51 = .ok (.aload_n 1, 1) := by decide +kernel
theorem dX3_move_52 : decode cX3_move 52 = .ok (.invokevirtual 106, 3) := by decide +kernel
theorem dX3_move_55 : decode cX3_move 55 = .ok (.return_, 1) := by decide +kernel
theorem dX3_tick_0 : decode cX3_tick 0 = .ok (.iconst 0, 1) := by decide +kernel
theorem dX3_tick_1 : decode cX3_tick 1 = .ok (.istore_n 1, 1) := by decide +kernel
theorem dX3_tick_2 : decode cX3_tick 2 = .ok (.iload_n 1, 1) := by decide +kernel
theorem dX3_tick_3 : decode cX3_tick 3 = .ok (.aload_n 0, 1) := by decide +kernel
theorem dX3_tick_4 : decode cX3_tick 4 = .ok (.getfield 38, 3) := by decide +kernel
theorem dX3_tick_7 : decode cX3_tick 7 = .ok (.if_icmp .ge 19, 3) := by decide +kernel
theorem dX3_tick_10 : decode cX3_tick 10 = .ok (.aload_n 0, 1) := by decide +kernel
theorem dX3_tick_11 : decode cX3_tick 11 = .ok (.getfield 20, 3) := by decide +kernel
theorem dX3_tick_14 : decode cX3_tick 14 = .ok (.iload_n 1, 1) := by decide +kernel
theorem dX3_tick_15 : decode cX3_tick 15 = .ok (.aaload, 1) := by decide +kernel
theorem dX3_tick_16 : decode cX3_tick 16 = .ok (.iconst 0, 1) := by decide +kernel
theorem dX3_tick_17 : decode cX3_tick 17 = .ok (.putfield 85, 3) := by decide +kernel
theorem dX3_tick_20 : decode cX3_tick 20 = .ok (.iinc 1 1, 3) := by decide +kernel
theorem dX3_tick_23 : decode cX3_tick 23 = .ok (.goto (-21), 3) := by decide +kernel
theorem dX3_tick_26 : decode cX3_tick 26 = .ok (.bipush 9, 2) := by decide +kernel
theorem dX3_tick_28 : decode cX3_tick 28 = .ok (.istore_n 1, 1) := by decide +kernel
theorem dX3_tick_29 : decode cX3_tick 29 = .ok (.iload_n 1, 1) := by decide +kernel
theorem dX3_tick_30 : decode cX3_tick 30 = .ok (.iconst 1, 1) := by decide +kernel
theorem dX3_tick_31 : decode cX3_tick 31 = .ok (.if_icmp .lt 60, 3) := by decide +kernel
theorem dX3_tick_34 : decode cX3_tick 34 = .ok (.iconst 0, 1) := by decide +kernel
theorem dX3_tick_35 : decode cX3_tick 35 = .ok (.istore_n 2, 1) := by decide +kernel
theorem dX3_tick_36 : decode cX3_tick 36 = .ok (.iload_n 2, 1) := by decide +kernel
theorem dX3_tick_37 : decode cX3_tick 37 = .ok (.aload_n 0, 1) := by decide +kernel
theorem dX3_tick_38 : decode cX3_tick 38 = .ok (.getfield 38, 3) := by decide +kernel
theorem dX3_tick_41 : decode cX3_tick 41 = .ok (.if_icmp .ge 44, 3) := by decide +kernel
theorem dX3_tick_44 : decode cX3_tick 44 = .ok (.aload_n 0, 1) := by decide +kernel
theorem dX3_tick_45 : decode cX3_tick 45 = .ok (.getfield 20, 3) := by decide +kernel
theorem dX3_tick_48 : decode cX3_tick 48 = .ok (.iload_n 2, 1) := by decide +kernel
theorem dX3_tick_49 : decode cX3_tick 49 = .ok (.aaload, 1) := by decide +kernel
theorem dX3_tick_50 : decode cX3_tick 50 = .ok (.astore_n 3, 1) := by decide +kernel
theorem dX3_tick_51 : decode cX3_tick 51 = .ok (.aload_n 3, 1) := by decide +kernel
theorem dX3_tick_52 : decode cX3_tick 52 = .ok (.getfield 72, 3) := by decide +kernel
theorem dX3_tick_55 : decode cX3_tick 55 = .ok (.iload_n 1, 1) := by decide +kernel
theorem dX3_tick_56 : decode cX3_tick 56 = .ok (.if_icmp .ne 23, 3) := by decide +kernel
theorem dX3_tick_59 : decode cX3_tick 59 = .ok (.aload_n 3, 1) := by decide +kernel
theorem dX3_tick_60 : decode cX3_tick 60 = .ok (.invokevirtual 81, 3) := by decide +kernel
theorem dX3_tick_63 : decode cX3_tick 63 = .ok (.ifCond .eq 16, 3) := by decide +kernel
theorem dX3_tick_66 : decode cX3_tick 66 = .ok (.aload_n 3, 1) := by decide +kernel
theorem dX3_tick_67 : decode cX3_tick 67 = .ok (.getfield 85, 3) := by decide +kernel
theorem dX3_tick_70 : decode cX3_tick 70 = .ok (.iconst 4, 1) := by decide +kernel
theorem dX3_tick_71 : decode cX3_tick 71 = .ok (.if_icmp .eq 8, 3) := by decide +kernel
theorem dX3_tick_74 : decode cX3_tick 74 = .ok (.aload_n 0, 1) := by decide +kernel
theorem dX3_tick_75 : decode cX3_tick 75 = .ok (.aload_n 3, 1) := by decide +kernel
theorem dX3_tick_76 : decode cX3_tick 76 = .ok (.invokevirtual 88, 3) := by decide +kernel
theorem dX3_tick_79 : decode cX3_tick 79 = .ok (.iinc 2 1, 3) := by decide +kernel
theorem dX3_tick_82 : decode cX3_tick 82 = .ok (.goto (-46), 3) := by decide +kernel
theorem dX3_tick_85 : decode cX3_tick 85 = .ok (.iinc 1 (-1), 3) := by decide +kernel
theorem dX3_tick_88 : decode cX3_tick 88 = .ok (.goto (-59), 3) := by decide +kernel
theorem dX3_tick_91 : decode cX3_tick 91 = .ok (.aload_n 0, 1) := by decide +kernel
theorem dX3_tick_92 : decode cX3_tick 92 = .ok (.dup, 1) := by decide +kernel
theorem dX3_tick_93 : decode cX3_tick 93 = .ok (.getfield 41, 3) := by decide +kernel
theorem dX3_tick_96 : decode cX3_tick 96 = .ok (.iconst 1, 1) := by decide +kernel
theorem dX3_tick_97 : decode cX3_tick 97 = .ok (.iadd, 1) := by decide +kernel
theorem dX3_tick_98 : decode cX3_tick 98 = .ok (.putfield 41, 3) := by decide +kernel
theorem dX3_tick_101 : decode cX3_tick 101 = .ok (.return_, 1) := by decide +kernel
theorem dX4_isSetting_0 : decode cX4_isSetting 0 = .ok (.iload_n 0, 1) := by decide +kernel
theorem dX4_isSetting_1 : decode cX4_isSetting 1 = .ok (.ifCond .lt 12, 3) := by decide +kernel
theorem dX4_isSetting_4 : decode cX4_isSetting 4 = .ok (.iload_n 0, 1) := by decide +kernel
theorem dX4_isSetting_5 : decode cX4_isSetting 5 = .ok (.iconst 2, 1) := by decide +kernel
theorem dX4_isSetting_6 : decode cX4_isSetting 6 = .ok (.if_icmp .gt 7, 3) := by decide +kernel
theorem dX4_isSetting_9 : decode cX4_isSetting 9 = .ok (.iconst 1, 1) := by decide +kernel
theorem dX4_isSetting_10 : decode cX4_isSetting 10 = .ok (.goto 4, 3) := by decide +kernel
theorem dX4_isSetting_13 : decode cX4_isSetting 13 = .ok (.iconst 0, 1) := by decide +kernel
theorem dX4_isSetting_14 : decode cX4_isSetting 14 = .ok (.ireturn, 1) := by decide +kernel
theorem dX4_set_0 : decode cX4_set 0 = .ok (.iload_n 1, 1) := by decide +kernel
theorem dX4_set_1 : decode cX4_set 1 = .ok (.invokestatic 41, 3) := by decide +kernel
theorem dX4_set_4 : decode cX4_set 4 = .ok (.ifCond .eq 21, 3) := by decide +kernel
theorem dX4_set_7 : decode cX4_set 7 = .ok (.iload_n 2, 1) := by decide +kernel
theorem dX4_set_8 : decode cX4_set 8 = .ok (.getstatic 45, 3) := by decide +kernel
theorem dX4_set_11 : decode cX4_set 11 = .ok (.iload_n 1, 1) := by decide +kernel
theorem dX4_set_12 : decode cX4_set 12 = .ok (.iaload, 1) := by decide +kernel
theorem dX4_set_13 : decode cX4_set 13 = .ok (.if_icmp .lt 12, 3) := by decide +kernel
theorem dX4_set_16 : decode cX4_set 16 = .ok (.iload_n 2, 1) := by decide +kernel
theorem dX4_set_17 : decode cX4_set 17 = .ok (.getstatic 49, 3) := by decide +kernel
theorem dX4_set_20 : decode cX4_set 20 = .ok (.iload_n 1, 1) := by decide +kernel
theorem dX4_set_21 : decode cX4_set 21 = .ok (.iaload, 1) := by decide +kernel
theorem dX4_set_22 : decode cX4_set 22 = .ok (.if_icmp .le 6, 3) := by decide +kernel
theorem dX4_set_25 : decode cX4_set 25 = .ok (.bipush (-2), 2) := by decide +kernel
theorem dX4_set_27 : decode cX4_set 27 = .ok (.ireturn, 1) := by decide +kernel
theorem dX4_set_28 : decode cX4_set 28 = .ok (.iload_n 1, 1) := by decide +kernel
theorem dX4_set_29 : decode cX4_set 29 = .ok (.ifCond .ne 17, 3) := by decide +kernel
theorem dX4_set_32 : decode cX4_set 32 = .ok (.aload_n 0, 1) := by decide +kernel
theorem dX4_set_33 : decode cX4_set 33 = .ok (.getfield 10, 3) := by decide +kernel
theorem dX4_set_36 : decode cX4_set 36 = .ok (.invokevirtual 52, 3) := by decide +kernel
theorem dX4_set_39 : decode cX4_set 39 = .ok (.iload_n 2, 1) := by decide +kernel
theorem dX4_set_40 : decode cX4_set 40 = .ok (.if_icmp .le 6, 3) := by decide +kernel
theorem dX4_set_43 : decode cX4_set 43 = .ok (.bipush (-5), 2) := by decide +kernel
theorem dX4_set_45 : decode cX4_set 45 = .ok (.ireturn, 1) := by decide +kernel
theorem dX4_set_46 : decode cX4_set 46 = .ok (.aload_n 0, 1) := by decide +kernel
theorem dX4_set_47 : decode cX4_set 47 = .ok (.getfield 22, 3) := by decide +kernel
theorem dX4_set_50 : decode cX4_set 50 = .ok (.aload_n 0, 1) := by decide +kernel
theorem dX4_set_51 : decode cX4_set 51 = .ok (.getfield 10, 3) := by decide +kernel
theorem dX4_set_54 : decode cX4_set 54 = .ok (.invokevirtual 56, 3) := by decide +kernel
theorem dX4_set_57 : decode cX4_set 57 = .ok (.aload_n 0, 1) := by decide +kernel
theorem dX4_set_58 : decode cX4_set 58 = .ok (.getfield 10, 3) := by decide +kernel
theorem dX4_set_61 : decode cX4_set 61 = .ok (.getfield 60, 3) := by decide +kernel
theorem dX4_set_64 : decode cX4_set 64 = .ok (.iload_n 1, 1) := by decide +kernel
theorem dX4_set_65 : decode cX4_set 65 = .ok (.iaload, 1) := by decide +kernel
theorem dX4_set_66 : decode cX4_set 66 = .ok (.istore_n 3, 1) := by decide +kernel
theorem dX4_set_67 : decode cX4_set 67 = .ok (.aload_n 0, 1) := by decide +kernel
theorem dX4_set_68 : decode cX4_set 68 = .ok (.getfield 10, 3) := by decide +kernel
theorem dX4_set_71 : decode cX4_set 71 = .ok (.getfield 60, 3) := by decide +kernel
theorem dX4_set_74 : decode cX4_set 74 = .ok (.iload_n 1, 1) := by decide +kernel
theorem dX4_set_75 : decode cX4_set 75 = .ok (.iload_n 2, 1) := by decide +kernel
theorem dX4_set_76 : decode cX4_set 76 = .ok (.iastore, 1) := by decide +kernel
theorem dX4_set_77 : decode cX4_set 77 = .ok (.iload_n 3, 1) := by decide +kernel
theorem dX4_set_78 : decode cX4_set 78 = .ok (.ireturn, 1) := by decide +kernel
theorem dJ6_bitCount_0f7a4_0 : decode cJ6_bitCount_0f7a4 0 = .ok (.iload_n 0, 1) := by decide +kernel
theorem dJ6_bitCount_0f7a4_1 : decode cJ6_bitCount_0f7a4 1 = .ok (.iload_n 0, 1) := by decide +kernel
theorem dJ6_bitCount_0f7a4_2 : decode cJ6_bitCount_0f7a4 2 = .ok (.iconst 1, 1) := by decide +kernel
theorem dJ6_bitCount_0f7a4_3 : decode cJ6_bitCount_0f7a4 3 = .ok (.iushr, 1) := by decide +kernel
theorem dJ6_bitCount_0f7a4_4 : decode cJ6_bitCount_0f7a4 4 = .ok (.ldc_w 265, 3) := by decide +kernel
theorem dJ6_bitCount_0f7a4_7 : decode cJ6_bitCount_0f7a4 7 = .ok (.iand, 1) := by decide +kernel
theorem dJ6_bitCount_0f7a4_8 : decode cJ6_bitCount_0f7a4 8 = .ok (.isub, 1) := by decide +kernel
theorem dJ6_bitCount_0f7a4_9 : decode cJ6_bitCount_0f7a4 9 = .ok (.istore_n 0, 1) := by decide +kernel
theorem dJ6_bitCount_0f7a4_10 : decode cJ6_bitCount_0f7a4 10 = .ok (.iload_n 0, 1) := by decide +kernel
theorem dJ6_bitCount_0f7a4_11 : decode cJ6_bitCount_0f7a4 11 = .ok (.ldc_w 266, 3) := by decide +kernel
theorem dJ6_bitCount_0f7a4_14 : decode cJ6_bitCount_0f7a4 14 = .ok (.iand, 1) := by decide +kernel
theorem dJ6_bitCount_0f7a4_15 : decode cJ6_bitCount_0f7a4 15 = .ok (.iload_n 0, 1) := by decide +kernel
theorem dJ6_bitCount_0f7a4_16 : decode cJ6_bitCount_0f7a4 16 = .ok (.iconst 2, 1) := by decide +kernel
theorem dJ6_bitCount_0f7a4_17 : decode cJ6_bitCount_0f7a4 17 = .ok (.iushr, 1) := by decide +kernel
theorem dJ6_bitCount_0f7a4_18 : decode cJ6_bitCount_0f7a4 18 = .ok (.ldc_w 266, 3) := by decide +kernel
theorem dJ6_bitCount_0f7a4_21 : decode cJ6_bitCount_0f7a4 21 = .ok (.iand, 1) := by decide +kernel
theorem dJ6_bitCount_0f7a4_22 : decode cJ6_bitCount_0f7a4 22 = .ok (.iadd, 1) := by decide +kernel
theorem dJ6_bitCount_0f7a4_23 : decode cJ6_bitCount_0f7a4 23 = .ok (.istore_n 0, 1) := by decide +kernel
theorem dJ6_bitCount_0f7a4_24 : decode cJ6_bitCount_0f7a4 24 = .ok (.iload_n 0, 1) := by decide +kernel
theorem dJ6_bitCount_0f7a4_25 : decode cJ6_bitCount_0f7a4 25 = .ok (.iload_n 0, 1) := by decide +kernel
theorem dJ6_bitCount_0f7a4_26 : decode cJ6_bitCount_0f7a4 26 = .ok (.iconst 4, 1) := by decide +kernel
theorem dJ6_bitCount_0f7a4_27 : decode cJ6_bitCount_0f7a4 27 = .ok (.iushr, 1) := by decide +kernel
theorem dJ6_bitCount_0f7a4_28 : decode cJ6_bitCount_0f7a4 28 = .ok (.iadd, 1) := by decide +kernel
theorem dJ6_bitCount_0f7a4_29 : decode cJ6_bitCount_0f7a4 29 = .ok (.ldc_w 267, 3) := by decide +kernel
theorem dJ6_bitCount_0f7a4_32 : decode cJ6_bitCount_0f7a4 32 = .ok (.iand, 1) := by decide +kernel
theorem dJ6_bitCount_0f7a4_33 : decode cJ6_bitCount_0f7a4 33 = .ok (.istore_n 0, 1) := by decide +kernel
theorem dJ6_bitCount_0f7a4_34 : decode cJ6_bitCount_0f7a4 34 = .ok (.iload_n 0, 1) := by decide +kernel
theorem dJ6_bitCount_0f7a4_35 : decode cJ6_bitCount_0f7a4 35 = .ok (.iload_n 0, 1) := by decide +kernel
theorem dJ6_bitCount_0f7a4_36 : decode cJ6_bitCount_0f7a4 36 = .ok (.bipush 8, 2) := by decide +kernel
theorem dJ6_bitCount_0f7a4_38 : decode cJ6_bitCount_0f7a4 38 = .ok (.iushr, 1) := by decide +kernel
theorem dJ6_bitCount_0f7a4_39 : decode cJ6_bitCount_0f7a4 39 = .ok (.iadd, 1) := by decide +kernel
theorem dJ6_bitCount_0f7a4_40 : decode cJ6_bitCount_0f7a4 40 = .ok (.istore_n 0, 1) := by decide +kernel
theorem dJ6_bitCount_0f7a4_41 : decode cJ6_bitCount_0f7a4 41 = .ok (.iload_n 0, 1) := by decide +kernel
theorem dJ6_bitCount_0f7a4_42 : decode cJ6_bitCount_0f7a4 42 = .ok (.iload_n 0, 1) := by decide +kernel
theorem dJ6_bitCount_0f7a4_43 : decode cJ6_bitCount_0f7a4 43 = .ok (.bipush 16, 2) := by decide +kernel
theorem dJ6_bitCount_0f7a4_45 : decode cJ6_bitCount_0f7a4 45 = .ok (.iushr, 1) := by decide +kernel
theorem dJ6_bitCount_0f7a4_46 : decode cJ6_bitCount_0f7a4 46 = .ok (.iadd, 1) := by decide +kernel
theorem dJ6_bitCount_0f7a4_47 : decode cJ6_bitCount_0f7a4 47 = .ok (.istore_n 0, 1) := by decide +kernel
theorem dJ6_bitCount_0f7a4_48 : decode cJ6_bitCount_0f7a4 48 = .ok (.iload_n 0, 1) := by decide +kernel
theorem dJ6_bitCount_0f7a4_49 : decode cJ6_bitCount_0f7a4 49 = .ok (.bipush 63, 2) := by decide +kernel
theorem dJ6_bitCount_0f7a4_51 : decode cJ6_bitCount_0f7a4 51 = .ok (.iand, 1) := by decide +kernel
theorem dJ6_bitCount_0f7a4_52 : decode cJ6_bitCount_0f7a4 52 = .ok (.ireturn, 1) := by decide +kernel
theorem dX4_landing_0 : decode cX4_landing 0 = .ok (.iload_n 1, 1) := by decide +kernel
theorem dX4_landing_1 : decode cX4_landing 1 = .ok (.invokestatic 63, 3) := by decide +kernel
theorem dX4_landing_4 : decode cX4_landing 4 = .ok (.ifCond .ne 5, 3) := by decide +kernel
theorem dX4_landing_7 : decode cX4_landing 7 = .ok (.iconst (-1), 1) := by decide +kernel
theorem dX4_landing_8 : decode cX4_landing 8 = .ok (.ireturn, 1) := by decide +kernel
theorem dX4_landing_9 : decode cX4_landing 9 = .ok (.aload_n 0, 1) := by decide +kernel
theorem dX4_landing_10 : decode cX4_landing 10 = .ok (.getfield 10, 3) := by decide +kernel
theorem dX4_landing_13 : decode cX4_landing 13 = .ok (.iload_n 1, 1) := by decide +kernel
theorem dX4_landing_14 : decode cX4_landing 14 = .ok (.invokevirtual 66, 3) := by decide +kernel
theorem dX4_landing_17 : decode cX4_landing 17 = .ok (.iload_n 2, 1) := by decide +kernel
theorem dX4_landing_18 : decode cX4_landing 18 = .ok (.if_icmp .eq 15, 3) := by decide +kernel
theorem dX4_landing_21 : decode cX4_landing 21 = .ok (.aload_n 0, 1) := by decide +kernel
theorem dX4_landing_22 : decode cX4_landing 22 = .ok (.getfield 10, 3) := by decide +kernel
theorem dX4_landing_25 : decode cX4_landing 25 = .ok (.iload_n 1, 1) := by decide +kernel
theorem dX4_landing_26 : decode cX4_landing 26 = .ok (.invokevirtual 69, 3) := by decide +kernel
theorem dX4_landing_29 : decode cX4_landing 29 = .ok (.iconst 1, 1) := by decide +kernel
theorem dX4_landing_30 : decode cX4_landing 30 = .ok (.if_icmp .le 6, 3) := by decide +kernel
theorem dX4_landing_33 : decode cX4_landing 33 = .ok (.bipush (-5), 2) := by decide +kernel
theorem dX4_landing_35 : decode cX4_landing 35 = .ok (.ireturn, 1) := by decide +kernel
theorem dX4_landing_36 : decode cX4_landing 36 = .ok (.aload_n 0, 1) := by decide +kernel
theorem dX4_landing_37 : decode cX4_landing 37 = .ok (.getfield 22, 3) := by decide +kernel
theorem dX4_landing_40 : decode cX4_landing 40 = .ok (.aload_n 0, 1) := by decide +kernel
theorem dX4_landing_41 : decode cX4_landing 41 = .ok (.getfield 10, 3) := by decide +kernel
theorem dX4_landing_44 : decode cX4_landing 44 = .ok (.invokevirtual 56, 3) := by decide +kernel
theorem dX4_landing_47 : decode cX4_landing 47 = .ok (.aload_n 0, 1) := by decide +kernel
theorem dX4_landing_48 : decode cX4_landing 48 = .ok (.getfield 10, 3) := by decide +kernel
theorem dX4_landing_51 : decode cX4_landing 51 = .ok (.dup, 1) := by decide +kernel
theorem dX4_landing_52 : decode cX4_landing 52 = .ok (.getfield 73, 3) := by decide +kernel
theorem dX4_landing_55 : decode cX4_landing 55 = .ok (.iconst 1, 1) := by decide +kernel
theorem dX4_landing_56 : decode cX4_landing 56 = .ok (.iload_n 1, 1) := by decide +kernel
theorem dX4_landing_57 : decode cX4_landing 57 = .ok (.ishl, 1) := by decide +kernel
theorem dX4_landing_58 : decode cX4_landing 58 = .ok (.ixor, 1) := by decide +kernel
theorem dX4_landing_59 : decode cX4_landing 59 = .ok (.putfield 73, 3) := by decide +kernel
theorem dX4_landing_62 : decode cX4_landing 62 = .ok (.aload_n 0, 1) := by decide +kernel
theorem dX4_landing_63 : decode cX4_landing 63 = .ok (.getfield 10, 3) := by decide +kernel
theorem dX4_landing_66 : decode cX4_landing 66 = .ok (.getfield 73, 3) := by decide +kernel
theorem dX4_landing_69 : decode cX4_landing 69 = .ok (.invokestatic 77, 3) := by decide +kernel
theorem dX4_landing_72 : decode cX4_landing 72 = .ok (.ireturn, 1) := by decide +kernel
theorem dX4_come_0 : decode cX4_come 0 = .ok (.iload_n 1, 1) := by decide +kernel
theorem dX4_come_1 : decode cX4_come 1 = .ok (.iconst 1, 1) := by decide +kernel
theorem dX4_come_2 : decode cX4_come 2 = .ok (.if_icmp .lt 9, 3) := by decide +kernel
theorem dX4_come_5 : decode cX4_come 5 = .ok (.iload_n 1, 1) := by decide +kernel
theorem dX4_come_6 : decode cX4_come 6 = .ok (.bipush 9, 2) := by decide +kernel
theorem dX4_come_8 : decode cX4_come 8 = .ok (.if_icmp .le 6, 3) := by decide +kernel
theorem dX4_come_11 : decode cX4_come 11 = .ok (.bipush (-2), 2) := by decide +kernel
theorem dX4_come_13 : decode cX4_come 13 = .ok (.ireturn, 1) := by decide +kernel
theorem dX4_come_14 : decode cX4_come 14 = .ok (.aload_n 0, 1) := by decide +kernel
theorem dX4_come_15 : decode cX4_come 15 = .ok (.getfield 10, 3) := by decide +kernel
theorem dX4_come_18 : decode cX4_come 18 = .ok (.getfield 82, 3) := by decide +kernel
theorem dX4_come_21 : decode cX4_come 21 = .ok (.bipush 24, 2) := by decide +kernel
theorem dX4_come_23 : decode cX4_come 23 = .ok (.if_icmp .lt 6, 3) := by decide +kernel
theorem dX4_come_26 : decode cX4_come 26 = .ok (.bipush (-4), 2) := by decide +kernel
theorem dX4_come_28 : decode cX4_come 28 = .ok (.ireturn, 1) := by decide +kernel
theorem dX4_come_29 : decode cX4_come 29 = .ok (.aload_n 0, 1) := by decide +kernel
theorem dX4_come_30 : decode cX4_come 30 = .ok (.getfield 22, 3) := by decide +kernel
theorem dX4_come_33 : decode cX4_come 33 = .ok (.aload_n 0, 1) := by decide +kernel
theorem dX4_come_34 : decode cX4_come 34 = .ok (.getfield 10, 3) := by decide +kernel
theorem dX4_come_37 : decode cX4_come 37 = .ok (.invokevirtual 56, 3) := by decide +kernel
theorem dX4_come_40 : decode cX4_come 40 = .ok (.aload_n 0, 1) := by decide +kernel
theorem dX4_come_41 : decode cX4_come 41 = .ok (.getfield 10, 3) := by decide +kernel
theorem dX4_come_44 : decode cX4_come 44 = .ok (.iload_n 1, 1) := by decide +kernel
theorem dX4_come_45 : decode cX4_come 45 = .ok (.iload_n 2, 1) := by decide +kernel
theorem dX4_come_46 : decode cX4_come 46 = .ok (.invokevirtual 85, 3) := by decide +kernel
theorem dX4_come_49 : decode cX4_come 49 = .ok (.aload_n 0, 1) := by decide +kernel
theorem dX4_come_50 : decode cX4_come 50 = .ok (.getfield 10, 3) := by decide +kernel
theorem dX4_come_53 : decode cX4_come 53 = .ok (.getfield 82, 3) := by decide +kernel
theorem dX4_come_56 : decode cX4_come 56 = .ok (.iconst 1, 1) := by decide +kernel
theorem dX4_come_57 : decode cX4_come 57 = .ok (.isub, 1) := by decide +kernel
theorem dX4_come_58 : decode cX4_come 58 = .ok (.ireturn, 1) := by decide +kernel
theorem dX4_read_0 : decode cX4_read 0 = .ok (.aload_n 0, 1) := by decide +kernel
theorem dX4_read_1 : decode cX4_read 1 = .ok (.getfield 37, 3) := by decide +kernel
theorem dX4_read_4 : decode cX4_read 4 = .ok (.invokevirtual 89, 3) := by decide +kernel
theorem dX4_read_7 : decode cX4_read 7 = .ok (.bipush (-6), 2) := by decide +kernel
theorem dX4_read_9 : decode cX4_read 9 = .ok (.if_icmp .eq 6, 3) := by decide +kernel
theorem dX4_read_12 : decode cX4_read 12 = .ok (.bipush (-3), 2) := by decide +kernel
theorem dX4_read_14 : decode cX4_read 14 = .ok (.ireturn, 1) := by decide +kernel
theorem dX4_read_15 : decode cX4_read 15 = .ok (.aload_n 0, 1) := by decide +kernel
theorem dX4_read_16 : decode cX4_read 16 = .ok (.getfield 37, 3) := by decide +kernel
theorem dX4_read_19 : decode cX4_read 19 = .ok (.getfield 92, 3) := by decide +kernel
theorem dX4_read_22 : decode cX4_read 22 = .ok (.iconst 2, 1) := by decide +kernel
theorem dX4_read_23 : decode cX4_read 23 = .ok (.idiv, 1) := by decide +kernel
theorem dX4_read_24 : decode cX4_read 24 = .ok (.istore_n 1, 1) := by decide +kernel
theorem dX4_read_25 : decode cX4_read 25 = .ok (.aload_n 0, 1) := by decide +kernel
theorem dX4_read_26 : decode cX4_read 26 = .ok (.getfield 10, 3) := by decide +kernel
theorem dX4_read_29 : decode cX4_read 29 = .ok (.getfield 82, 3) := by decide +kernel
theorem dX4_read_32 : decode cX4_read 32 = .ok (.iload_n 1, 1) := by decide +kernel
theorem dX4_read_33 : decode cX4_read 33 = .ok (.iadd, 1) := by decide +kernel
theorem dX4_read_34 : decode cX4_read 34 = .ok (.bipush 24, 2) := by decide +kernel
theorem dX4_read_36 : decode cX4_read 36 = .ok (.if_icmp .le 6, 3) := by decide +kernel
theorem dX4_read_39 : decode cX4_read 39 = .ok (.bipush (-4), 2) := by decide +kernel
theorem dX4_read_41 : decode cX4_read 41 = .ok (.ireturn, 1) := by decide +kernel
theorem dX4_read_42 : decode cX4_read 42 = .ok (.aload_n 0, 1) := by decide +kernel
theorem dX4_read_43 : decode cX4_read 43 = .ok (.getfield 22, 3) := by decide +kernel
theorem dX4_read_46 : decode cX4_read 46 = .ok (.aload_n 0, 1) := by decide +kernel
theorem dX4_read_47 : decode cX4_read 47 = .ok (.getfield 10, 3) := by decide +kernel
theorem dX4_read_50 : decode cX4_read 50 = .ok (.invokevirtual 56, 3) := by decide +kernel
theorem dX4_read_53 : decode cX4_read 53 = .ok (.iconst 0, 1) := by decide +kernel
theorem dX4_read_54 : decode cX4_read 54 = .ok (.istore_n 2, 1) := by decide +kernel
theorem dX4_read_55 : decode cX4_read 55 = .ok (.iload_n 2, 1) := by decide +kernel
theorem dX4_read_56 : decode cX4_read 56 = .ok (.iload_n 1, 1) := by decide +kernel
theorem dX4_read_57 : decode cX4_read 57 = .ok (.if_icmp .ge 32, 3) := by decide +kernel
theorem dX4_read_60 : decode cX4_read 60 = .ok (.aload_n 0, 1) := by decide +kernel
theorem dX4_read_61 : decode cX4_read 61 = .ok (.getfield 10, 3) := by decide +kernel
theorem dX4_read_64 : decode cX4_read 64 = .ok (.aload_n 0, 1) := by decide +kernel
theorem dX4_read_65 : decode cX4_read 65 = .ok (.getfield 37, 3) := by decide +kernel
theorem dX4_read_68 : decode cX4_read 68 = .ok (.iload_n 2, 1) := by decide +kernel
theorem dX4_read_69 : decode cX4_read 69 = .ok (.invokevirtual 95, 3) := by decide +kernel
theorem dX4_read_72 : decode cX4_read 72 = .ok (.aload_n 0, 1) := by decide +kernel
theorem dX4_read_73 : decode cX4_read 73 = .ok (.getfield 37, 3) := by decide +kernel
theorem dX4_read_76 : decode cX4_read 76 = .ok (.iload_n 2, 1) := by decide +kernel
theorem dX4_read_77 : decode cX4_read 77 = .ok (.invokevirtual 98, 3) := by decide +kernel
theorem dX4_read_80 : decode cX4_read 80 = .ok (.invokevirtual 85, 3) := by decide +kernel
theorem dX4_read_83 : decode cX4_read 83 = .ok (.iinc 2 1, 3) := by decide +kernel
theorem dX4_read_86 : decode cX4_read 86 = .ok (.goto (-31), 3) := by decide +kernel
theorem dX4_read_89 : decode cX4_read 89 = .ok (.aload_n 0, 1) := by decide +kernel
theorem dX4_read_90 : decode cX4_read 90 = .ok (.getfield 37, 3) := by decide +kernel
theorem dX4_read_93 : decode cX4_read 93 = .ok (.iconst 0, 1) := by decide +kernel
theorem dX4_read_94 : decode cX4_read 94 = .ok (.putfield 92, 3) := by decide +kernel
theorem dX4_read_97 : decode cX4_read 97 = .ok (.aload_n 0, 1) := by decide +kernel
theorem dX4_read_98 : decode cX4_read 98 = .ok (.getfield 10, 3) := by decide +kernel
theorem dX4_read_101 : decode cX4_read 101 = .ok (.getfield 82, 3) := by decide +kernel
theorem dX4_read_104 : decode cX4_read 104 = .ok (.ireturn, 1) := by decide +kernel
theorem dX4_isPerson_0 : decode cX4_isPerson 0 = .ok (.iload_n 1, 1) := by decide +kernel
theorem dX4_isPerson_1 : decode cX4_isPerson 1 = .ok (.ifCond .lt 18, 3) := by decide +kernel
theorem dX4_isPerson_4 : decode cX4_isPerson 4 = .ok (.iload_n 1, 1) := by decide +kernel
theorem dX4_isPerson_5 : decode cX4_isPerson 5 = .ok (.aload_n 0, 1) := by decide +kernel
theorem dX4_isPerson_6 : decode cX4_isPerson 6 = .ok (.getfield 10, 3) := by decide +kernel
theorem dX4_isPerson_9 : decode cX4_isPerson 9 = .ok (.getfield 82, 3) := by decide +kernel
theorem dX4_isPerson_12 : decode cX4_isPerson 12 = .ok (.if_icmp .ge 7, 3) := by decide +kernel
theorem dX4_isPerson_15 : decode cX4_isPerson 15 = .ok (.iconst 1, 1) := by decide +kernel
theorem dX4_isPerson_16 : decode cX4_isPerson 16 = .ok (.goto 4, 3) := by decide +kernel
theorem dX4_isPerson_19 : decode cX4_isPerson 19 = .ok (.iconst 0, 1) := by decide +kernel
theorem dX4_isPerson_20 : decode cX4_isPerson 20 = .ok (.ireturn, 1) := by decide +kernel
theorem dX4_turn_0 : decode cX4_turn 0 = .ok (.aload_n 0, 1) := by decide +kernel
theorem dX4_turn_1 : decode cX4_turn 1 = .ok (.iload_n 1, 1) := by decide +kernel
theorem dX4_turn_2 : decode cX4_turn 2 = .ok (.invokevirtual 101, 3) := by decide +kernel
theorem dX4_turn_5 : decode cX4_turn 5 = .ok (.ifCond .ne 5, 3) := by decide +kernel
theorem dX4_turn_8 : decode cX4_turn 8 = .ok (.iconst (-1), 1) := by decide +kernel
theorem dX4_turn_9 : decode cX4_turn 9 = .ok (.ireturn, 1) := by decide +kernel
theorem dX4_turn_10 : decode cX4_turn 10 = .ok (.aload_n 0, 1) := by decide +kernel
theorem dX4_turn_11 : decode cX4_turn 11 = .ok (.getfield 10, 3) := by decide +kernel
theorem dX4_turn_14 : decode cX4_turn 14 = .ok (.getfield 104, 3) := by decide +kernel
theorem dX4_turn_17 : decode cX4_turn 17 = .ok (.iload_n 1, 1) := by decide +kernel
theorem dX4_turn_18 : decode cX4_turn 18 = .ok (.aaload, 1) := by decide +kernel
theorem dX4_turn_19 : decode cX4_turn 19 = .ok (.astore_n 2, 1) := by decide +kernel
theorem dX4_turn_20 : decode cX4_turn 20 = .ok (.aload_n 2, 1) := by decide +kernel
theorem dX4_turn_21 : decode cX4_turn 21 = .ok (.getfield 108, 3) := by decide +kernel
theorem dX4_turn_24 : decode cX4_turn 24 = .ok (.iconst 1, 1) := by decide +kernel
theorem dX4_turn_25 : decode cX4_turn 25 = .ok (.if_icmp .eq 6, 3) := by decide +kernel
theorem dX4_turn_28 : decode cX4_turn 28 = .ok (.bipush (-5), 2) := by decide +kernel
theorem dX4_turn_30 : decode cX4_turn 30 = .ok (.ireturn, 1) := by decide +kernel
theorem dX4_turn_31 : decode cX4_turn 31 = .ok (.aload_n 0, 1) := by decide +kernel
theorem dX4_turn_32 : decode cX4_turn 32 = .ok (.getfield 22, 3) := by decide +kernel
theorem dX4_turn_35 : decode cX4_turn 35 = .ok (.aload_n 0, 1) := by decide +kernel
theorem dX4_turn_36 : decode cX4_turn 36 = .ok (.getfield 10, 3) := by decide +kernel
theorem dX4_turn_39 : decode cX4_turn 39 = .ok (.invokevirtual 56, 3) := by decide +kernel
theorem dX4_turn_42 : decode cX4_turn 42 = .ok (.aload_n 2, 1) := by decide +kernel
theorem dX4_turn_43 : decode cX4_turn 43 = .ok (.aload_n 2, 1) := by decide +kernel
theorem dX4_turn_44 : decode cX4_turn 44 = .ok (.getfield 113, 3) := by decide +kernel
theorem dX4_turn_47 : decode cX4_turn 47 = .ok (.ifCond .ne 7, 3) := by decide +kernel
theorem dX4_turn_50 : decode cX4_turn 50 = .ok (.iconst 1, 1) := by decide +kernel
theorem dX4_turn_51 : decode cX4_turn 51 = .ok (.goto 4, 3) := by decide +kernel
theorem dX4_turn_54 : decode cX4_turn 54 = .ok (.iconst 0, 1) := by decide +kernel
theorem dX4_turn_55 : decode cX4_turn 55 = .ok (.putfield 113, 3) := by decide +kernel
theorem dX4_turn_58 : decode cX4_turn 58 = .ok (.aload_n 2, 1) := by decide +kernel
theorem dX4_turn_59 : decode cX4_turn 59 = .ok (.getfield 113, 3) := by decide +kernel
theorem dX4_turn_62 : decode cX4_turn 62 = .ok (.ifCond .eq 7, 3) := by decide +kernel
theorem dX4_turn_65 : decode cX4_turn 65 = .ok (.iconst 1, 1) := by decide +kernel
theorem dX4_turn_66 : decode cX4_turn 66 = .ok (.goto 4, 3) := by decide +kernel
theorem dX4_turn_69 : decode cX4_turn 69 = .ok (.iconst 0, 1) := by decide +kernel
theorem dX4_turn_70 : decode cX4_turn 70 = .ok (.ireturn, 1) := by decide +kernel
theorem dX4_pass_0 : decode cX4_pass 0 = .ok (.iload_n 1, 1) := by decide +kernel
theorem dX4_pass_1 : decode cX4_pass 1 = .ok (.iconst 1, 1) := by decide +kernel
theorem dX4_pass_2 : decode cX4_pass 2 = .ok (.if_icmp .lt 9, 3) := by decide +kernel
theorem dX4_pass_5 : decode cX4_pass 5 = .ok (.iload_n 1, 1) := by decide +kernel
theorem dX4_pass_6 : decode cX4_pass 6 = .ok (.bipush 99, 2) := by decide +kernel
theorem dX4_pass_8 : decode cX4_pass 8 = .ok (.if_icmp .le 6, 3) := by decide +kernel
theorem dX4_pass_11 : decode cX4_pass 11 = .ok (.bipush (-2), 2) := by decide +kernel
theorem dX4_pass_13 : decode cX4_pass 13 = .ok (.ireturn, 1) := by decide +kernel
theorem dX4_pass_14 : decode cX4_pass 14 = .ok (.aload_n 0, 1) := by decide +kernel
theorem dX4_pass_15 : decode cX4_pass 15 = .ok (.getfield 10, 3) := by decide +kernel
theorem dX4_pass_18 : decode cX4_pass 18 = .ok (.getfield 117, 3) := by decide +kernel
theorem dX4_pass_21 : decode cX4_pass 21 = .ok (.iload_n 1, 1) := by decide +kernel
theorem dX4_pass_22 : decode cX4_pass 22 = .ok (.iadd, 1) := by decide +kernel
theorem dX4_pass_23 : decode cX4_pass 23 = .ok (.sipush 9999, 3) := by decide +kernel
theorem dX4_pass_26 : decode cX4_pass 26 = .ok (.if_icmp .le 6, 3) := by decide +kernel
theorem dX4_pass_29 : decode cX4_pass 29 = .ok (.bipush (-4), 2) := by decide +kernel
theorem dX4_pass_31 : decode cX4_pass 31 = .ok (.ireturn, 1) := by decide +kernel
theorem dX4_pass_32 : decode cX4_pass 32 = .ok (.aload_n 0, 1) := by decide +kernel
theorem dX4_pass_33 : decode cX4_pass 33 = .ok (.getfield 22, 3) := by decide +kernel
theorem dX4_pass_36 : decode cX4_pass 36 = .ok (.aload_n 0, 1) := by decide +kernel
theorem dX4_pass_37 : decode cX4_pass 37 = .ok (.getfield 10, 3) := by decide +kernel
theorem dX4_pass_40 : decode cX4_pass 40 = .ok (.invokevirtual 56, 3) := by decide +kernel
theorem dX4_pass_43 : decode cX4_pass 43 = .ok (.aload_n 0, 1) := by decide +kernel
theorem dX4_pass_44 : decode cX4_pass 44 = .ok (.getfield 10, 3) := by decide +kernel
theorem dX4_pass_47 : decode cX4_pass 47 = .ok (.iconst 2, 1) := by decide +kernel
theorem dX4_pass_48 : decode cX4_pass 48 = .ok (.invokevirtual 120, 3) := by decide +kernel
theorem dX4_pass_51 : decode cX4_pass 51 = .ok (.istore_n 2, 1) := by decide +kernel
theorem dX4_pass_52 : decode cX4_pass 52 = .ok (.iconst 0, 1) := by decide +kernel
theorem dX4_pass_53 : decode cX4_pass 53 = .ok (.istore_n 3, 1) := by decide +kernel
theorem dX4_pass_54 : decode cX4_pass 54 = .ok (.iload_n 3, 1) := by decide +kernel
theorem dX4_pass_55 : decode cX4_pass 55 = .ok (.iload_n 1, 1) := by decide +kernel
theorem dX4_pass_56 : decode cX4_pass 56 = .ok (.if_icmp .ge 16, 3) := by decide +kernel
theorem dX4_pass_59 : decode cX4_pass 59 = .ok (.aload_n 0, 1) := by decide +kernel
theorem dX4_pass_60 : decode cX4_pass 60 = .ok (.getfield 10, 3) := by decide +kernel
theorem dX4_pass_63 : decode cX4_pass 63 = .ok (.invokevirtual 123, 3) := by decide +kernel
theorem dX4_pass_66 : decode cX4_pass 66 = .ok (.iinc 3 1, 3) := by decide +kernel
theorem dX4_pass_69 : decode cX4_pass 69 = .ok (.goto (-15), 3) := by decide +kernel
theorem dX4_pass_72 : decode cX4_pass 72 = .ok (.aload_n 0, 1) := by decide +kernel
theorem dX4_pass_73 : decode cX4_pass 73 = .ok (.getfield 10, 3) := by decide +kernel
theorem dX4_pass_76 : decode cX4_pass 76 = .ok (.iconst 2, 1) := by decide +kernel
theorem dX4_pass_77 : decode cX4_pass 77 = .ok (.invokevirtual 120, 3) := by decide +kernel
theorem dX4_pass_80 : decode cX4_pass 80 = .ok (.iload_n 2, 1) := by decide +kernel
theorem dX4_pass_81 : decode cX4_pass 81 = .ok (.isub, 1) := by decide +kernel
theorem dX4_pass_82 : decode cX4_pass 82 = .ok (.ireturn, 1) := by decide +kernel
theorem dX4_person_0 : decode cX4_person 0 = .ok (.aload_n 0, 1) := by decide +kernel
theorem dX4_person_1 : decode cX4_person 1 = .ok (.iload_n 1, 1) := by decide +kernel
theorem dX4_person_2 : decode cX4_person 2 = .ok (.invokevirtual 101, 3) := by decide +kernel
theorem dX4_person_5 : decode cX4_person 5 = .ok (.ifCond .ne 5, 3) := by decide +kernel
theorem dX4_person_8 : decode cX4_person 8 = .ok (.iconst (-1), 1) := by decide +kernel
theorem dX4_person_9 : decode cX4_person 9 = .ok (.ireturn, 1) := by decide +kernel
theorem dX4_person_10 : decode cX4_person 10 = .ok (.aload_n 0, 1) := by decide +kernel
theorem dX4_person_11 : decode cX4_person 11 = .ok (.getfield 10, 3) := by decide +kernel
theorem dX4_person_14 : decode cX4_person 14 = .ok (.getfield 104, 3) := by decide +kernel
theorem dX4_person_17 : decode cX4_person 17 = .ok (.iload_n 1, 1) := by decide +kernel
theorem dX4_person_18 : decode cX4_person 18 = .ok (.aaload, 1) := by decide +kernel
theorem dX4_person_19 : decode cX4_person 19 = .ok (.iload_n 2, 1) := by decide +kernel
theorem dX4_person_20 : decode cX4_person 20 = .ok (.invokevirtual 126, 3) := by decide +kernel
theorem dX4_person_23 : decode cX4_person 23 = .ok (.ireturn, 1) := by decide +kernel
theorem dX4_step_0 : decode cX4_step 0 = .ok (.iload_n 1, 1) := by decide +kernel
theorem dX4_step_1 : decode cX4_step 1 = .ok (.invokestatic 63, 3) := by decide +kernel
theorem dX4_step_4 : decode cX4_step 4 = .ok (.ifCond .ne 5, 3) := by decide +kernel
theorem dX4_step_7 : decode cX4_step 7 = .ok (.iconst (-1), 1) := by decide +kernel
theorem dX4_step_8 : decode cX4_step 8 = .ok (.ireturn, 1) := by decide +kernel
theorem dX4_step_9 : decode cX4_step 9 = .ok (.iload_n 2, 1) := by decide +kernel
theorem dX4_step_10 : decode cX4_step 10 = .ok (.tableswitch 74 0 3 #[30, 47, 56, 65], 30) := by decide +kernel
theorem dX4_step_40 : decode cX4_step 40 = .ok (.aload_n 0, 1) := by decide +kernel
theorem dX4_step_41 : decode cX4_step 41 = .ok (.getfield 10, 3) := by decide +kernel
theorem dX4_step_44 : decode cX4_step 44 = .ok (.iload_n 1, 1) := by decide +kernel
theorem dX4_step_45 : decode cX4_step 45 = .ok (.invokevirtual 66, 3) := by decide +kernel
theorem dX4_step_48 : decode cX4_step 48 = .ok (.ifCond .eq 7, 3) := by decide +kernel
theorem dX4_step_51 : decode cX4_step 51 = .ok (.iconst 1, 1) := by decide +kernel
theorem dX4_step_52 : decode cX4_step 52 = .ok (.goto 4, 3) := by decide +kernel
theorem dX4_step_55 : decode cX4_step 55 = .ok (.iconst 0, 1) := by decide +kernel
theorem dX4_step_56 : decode cX4_step 56 = .ok (.ireturn, 1) := by decide +kernel
theorem dX4_step_57 : decode cX4_step 57 = .ok (.aload_n 0, 1) := by decide +kernel
theorem dX4_step_58 : decode cX4_step 58 = .ok (.getfield 10, 3) := by decide +kernel
theorem dX4_step_61 : decode cX4_step 61 = .ok (.iload_n 1, 1) := by decide +kernel
theorem dX4_step_62 : decode cX4_step 62 = .ok (.invokevirtual 69, 3) := by decide +kernel
theorem dX4_step_65 : decode cX4_step 65 = .ok (.ireturn, 1) := by decide +kernel
theorem dX4_step_66 : decode cX4_step 66 = .ok (.aload_n 0, 1) := by decide +kernel
theorem dX4_step_67 : decode cX4_step 67 = .ok (.getfield 10, 3) := by decide +kernel
theorem dX4_step_70 : decode cX4_step 70 = .ok (.iload_n 1, 1) := by decide +kernel
theorem dX4_step_71 : decode cX4_step 71 = .ok (.invokevirtual 129, 3) := by decide +kernel
theorem dX4_step_74 : decode cX4_step 74 = .ok (.ireturn, 1) := by decide +kernel
theorem dX4_step_75 : decode cX4_step 75 = .ok (.aload_n 0, 1) := by decide +kernel
theorem dX4_step_76 : decode cX4_step 76 = .ok (.getfield 10, 3) := by decide +kernel
theorem dX4_step_79 : decode cX4_step 79 = .ok (.iload_n 1, 1) := by decide +kernel
theorem dX4_step_80 : decode cX4_step 80 = .ok (.invokevirtual 132, 3) := by decide +kernel
theorem dX4_step_83 : decode cX4_step 83 = .ok (.ireturn, 1) := by decide +kernel
theorem dX4_step_84 : decode cX4_step 84 = .ok (.bipush (-2), 2) := by decide +kernel
theorem dX4_step_86 : decode cX4_step 86 = .ok (.ireturn, 1) := by decide +kernel
theorem dX4_does_0 : decode cX4_does 0 = .ok (.aload_n 0, 1) := by decide +kernel
theorem dX4_does_1 : decode cX4_does 1 = .ok (.iload_n 1, 1) := by decide +kernel
theorem dX4_does_2 : decode cX4_does 2 = .ok (.invokevirtual 101, 3) := by decide +kernel
theorem dX4_does_5 : decode cX4_does 5 = .ok (.ifCond .ne 5, 3) := by decide +kernel
theorem dX4_does_8 : decode cX4_does 8 = .ok (.iconst (-1), 1) := by decide +kernel
theorem dX4_does_9 : decode cX4_does 9 = .ok (.ireturn, 1) := by decide +kernel
theorem dX4_does_10 : decode cX4_does 10 = .ok (.aload_n 0, 1) := by decide +kernel
theorem dX4_does_11 : decode cX4_does 11 = .ok (.getfield 16, 3) := by decide +kernel
theorem dX4_does_14 : decode cX4_does 14 = .ok (.aload_n 0, 1) := by decide +kernel
theorem dX4_does_15 : decode cX4_does 15 = .ok (.getfield 10, 3) := by decide +kernel
theorem dX4_does_18 : decode cX4_does 18 = .ok (.invokevirtual 135, 3) := by decide +kernel
theorem dX4_does_21 : decode cX4_does 21 = .ok (.aload_n 0, 1) := by decide +kernel
theorem dX4_does_22 : decode cX4_does 22 = .ok (.getfield 16, 3) := by decide +kernel
theorem dX4_does_25 : decode cX4_does 25 = .ok (.invokevirtual 123, 3) := by decide +kernel
theorem dX4_does_28 : decode cX4_does 28 = .ok (.aload_n 0, 1) := by decide +kernel
theorem dX4_does_29 : decode cX4_does 29 = .ok (.getfield 16, 3) := by decide +kernel
theorem dX4_does_32 : decode cX4_does 32 = .ok (.getfield 104, 3) := by decide +kernel
theorem dX4_does_35 : decode cX4_does 35 = .ok (.iload_n 1, 1) := by decide +kernel
theorem dX4_does_36 : decode cX4_does 36 = .ok (.aaload, 1) := by decide +kernel
theorem dX4_does_37 : decode cX4_does 37 = .ok (.getfield 138, 3) := by decide +kernel
theorem dX4_does_40 : decode cX4_does 40 = .ok (.ireturn, 1) := by decide +kernel
theorem dX4_count_0 : decode cX4_count 0 = .ok (.iload_n 1, 1) := by decide +kernel
theorem dX4_count_1 : decode cX4_count 1 = .ok (.invokestatic 41, 3) := by decide +kernel
theorem dX4_count_4 : decode cX4_count 4 = .ok (.ifCond .eq 13, 3) := by decide +kernel
theorem dX4_count_7 : decode cX4_count 7 = .ok (.aload_n 0, 1) := by decide +kernel
theorem dX4_count_8 : decode cX4_count 8 = .ok (.getfield 10, 3) := by decide +kernel
theorem dX4_count_11 : decode cX4_count 11 = .ok (.getfield 60, 3) := by decide +kernel
theorem dX4_count_14 : decode cX4_count 14 = .ok (.iload_n 1, 1) := by decide +kernel
theorem dX4_count_15 : decode cX4_count 15 = .ok (.iaload, 1) := by decide +kernel
theorem dX4_count_16 : decode cX4_count 16 = .ok (.ireturn, 1) := by decide +kernel
theorem dX4_count_17 : decode cX4_count 17 = .ok (.iload_n 1, 1) := by decide +kernel
theorem dX4_count_18 : decode cX4_count 18 = .ok (.tableswitch 166 3 14 #[62, 70, 78, 87, 96, 105, 114, 122, 132, 141, 150, 158], 62) := by decide +kernel
theorem dX4_count_80 : decode cX4_count 80 = .ok (.aload_n 0, 1) := by decide +kernel
theorem dX4_count_81 : decode cX4_count 81 = .ok (.getfield 10, 3) := by decide +kernel
theorem dX4_count_84 : decode cX4_count 84 = .ok (.getfield 117, 3) := by decide +kernel
theorem dX4_count_87 : decode cX4_count 87 = .ok (.ireturn, 1) := by decide +kernel
theorem dX4_count_88 : decode cX4_count 88 = .ok (.aload_n 0, 1) := by decide +kernel
theorem dX4_count_89 : decode cX4_count 89 = .ok (.getfield 10, 3) := by decide +kernel
theorem dX4_count_92 : decode cX4_count 92 = .ok (.getfield 82, 3) := by decide +kernel
theorem dX4_count_95 : decode cX4_count 95 = .ok (.ireturn, 1) := by decide +kernel
theorem dX4_count_96 : decode cX4_count 96 = .ok (.aload_n 0, 1) := by decide +kernel
theorem dX4_count_97 : decode cX4_count 97 = .ok (.getfield 10, 3) := by decide +kernel
theorem dX4_count_100 : decode cX4_count 100 = .ok (.iconst 0, 1) := by decide +kernel
theorem dX4_count_101 : decode cX4_count 101 = .ok (.invokevirtual 120, 3) := by decide +kernel
theorem dX4_count_104 : decode cX4_count 104 = .ok (.ireturn, 1) := by decide +kernel
theorem dX4_count_105 : decode cX4_count 105 = .ok (.aload_n 0, 1) := by decide +kernel
theorem dX4_count_106 : decode cX4_count 106 = .ok (.getfield 10, 3) := by decide +kernel
theorem dX4_count_109 : decode cX4_count 109 = .ok (.iconst 1, 1) := by decide +kernel
theorem dX4_count_110 : decode cX4_count 110 = .ok (.invokevirtual 120, 3) := by decide +kernel
theorem dX4_count_113 : decode cX4_count 113 = .ok (.ireturn, 1) := by decide +kernel
theorem dX4_count_114 : decode cX4_count 114 = .ok (.aload_n 0, 1) := by decide +kernel
theorem dX4_count_115 : decode cX4_count 115 = .ok (.getfield 10, 3) := by decide +kernel
theorem dX4_count_118 : decode cX4_count 118 = .ok (.iconst 2, 1) := by decide +kernel
theorem dX4_count_119 : decode cX4_count 119 = .ok (.invokevirtual 120, 3) := by decide +kernel
theorem dX4_count_122 : decode cX4_count 122 = .ok (.ireturn, 1) := by decide +kernel
theorem dX4_count_123 : decode cX4_count 123 = .ok (.aload_n 0, 1) := by decide +kernel
theorem dX4_count_124 : decode cX4_count 124 = .ok (.getfield 10, 3) := by decide +kernel
theorem dX4_count_127 : decode cX4_count 127 = .ok (.iconst 3, 1) := by decide +kernel
theorem dX4_count_128 : decode cX4_count 128 = .ok (.invokevirtual 120, 3) := by decide +kernel
theorem dX4_count_131 : decode cX4_count 131 = .ok (.ireturn, 1) := by decide +kernel
theorem dX4_count_132 : decode cX4_count 132 = .ok (.aload_n 0, 1) := by decide +kernel
theorem dX4_count_133 : decode cX4_count 133 = .ok (.getfield 10, 3) := by decide +kernel
theorem dX4_count_136 : decode cX4_count 136 = .ok (.getfield 73, 3) := by decide +kernel
theorem dX4_count_139 : decode cX4_count 139 = .ok (.ireturn, 1) := by decide +kernel
theorem dX4_count_140 : decode cX4_count 140 = .ok (.aload_n 0, 1) := by decide +kernel
theorem dX4_count_141 : decode cX4_count 141 = .ok (.getfield 10, 3) := by decide +kernel
theorem dX4_count_144 : decode cX4_count 144 = .ok (.bipush 6, 2) := by decide +kernel
theorem dX4_count_146 : decode cX4_count 146 = .ok (.invokevirtual 141, 3) := by decide +kernel
theorem dX4_count_149 : decode cX4_count 149 = .ok (.ireturn, 1) := by decide +kernel
theorem dX4_count_150 : decode cX4_count 150 = .ok (.aload_n 0, 1) := by decide +kernel
theorem dX4_count_151 : decode cX4_count 151 = .ok (.getfield 10, 3) := by decide +kernel
theorem dX4_count_154 : decode cX4_count 154 = .ok (.iconst 5, 1) := by decide +kernel
theorem dX4_count_155 : decode cX4_count 155 = .ok (.invokevirtual 141, 3) := by decide +kernel
theorem dX4_count_158 : decode cX4_count 158 = .ok (.ireturn, 1) := by decide +kernel
theorem dX4_count_159 : decode cX4_count 159 = .ok (.aload_n 0, 1) := by decide +kernel
theorem dX4_count_160 : decode cX4_count 160 = .ok (.getfield 10, 3) := by decide +kernel
theorem dX4_count_163 : decode cX4_count 163 = .ok (.iconst 4, 1) := by decide +kernel
theorem dX4_count_164 : decode cX4_count 164 = .ok (.invokevirtual 141, 3) := by decide +kernel
theorem dX4_count_167 : decode cX4_count 167 = .ok (.ireturn, 1) := by decide +kernel
theorem dX4_count_168 : decode cX4_count 168 = .ok (.aload_n 0, 1) := by decide +kernel
theorem dX4_count_169 : decode cX4_count 169 = .ok (.getfield 37, 3) := by decide +kernel
theorem dX4_count_172 : decode cX4_count 172 = .ok (.getfield 92, 3) := by decide +kernel
theorem dX4_count_175 : decode cX4_count 175 = .ok (.ireturn, 1) := by decide +kernel
theorem dX4_count_176 : decode cX4_count 176 = .ok (.aload_n 0, 1) := by decide +kernel
theorem dX4_count_177 : decode cX4_count 177 = .ok (.getfield 22, 3) := by decide +kernel
theorem dX4_count_180 : decode cX4_count 180 = .ok (.getfield 144, 3) := by decide +kernel
theorem dX4_count_183 : decode cX4_count 183 = .ok (.ireturn, 1) := by decide +kernel
theorem dX4_count_184 : decode cX4_count 184 = .ok (.bipush (-2), 2) := by decide +kernel
theorem dX4_count_186 : decode cX4_count 186 = .ok (.ireturn, 1) := by decide +kernel
theorem dX4_untilArrived_0 : decode cX4_untilArrived 0 = .ok (.aload_n 0, 1) := by decide +kernel
theorem dX4_untilArrived_1 : decode cX4_untilArrived 1 = .ok (.iload_n 1, 1) := by decide +kernel
theorem dX4_untilArrived_2 : decode cX4_untilArrived 2 = .ok (.invokevirtual 101, 3) := by decide +kernel
theorem dX4_untilArrived_5 : decode cX4_untilArrived 5 = .ok (.ifCond .ne 5, 3) := by decide +kernel
theorem dX4_untilArrived_8 : decode cX4_untilArrived 8 = .ok (.iconst (-1), 1) := by decide +kernel
theorem dX4_untilArrived_9 : decode cX4_untilArrived 9 = .ok (.ireturn, 1) := by decide +kernel
theorem dX4_untilArrived_10 : decode cX4_untilArrived 10 = .ok (.aload_n 0, 1) := by decide +kernel
theorem dX4_untilArrived_11 : decode cX4_untilArrived 11 = .ok (.getfield 16, 3) := by decide +kernel
theorem dX4_untilArrived_14 : decode cX4_untilArrived 14 = .ok (.aload_n 0, 1) := by decide +kernel
theorem dX4_untilArrived_15 : decode cX4_untilArrived 15 = .ok (.getfield 10, 3) := by decide +kernel
theorem dX4_untilArrived_18 : decode cX4_untilArrived 18 = .ok (.invokevirtual 135, 3) := by decide +kernel
theorem dX4_untilArrived_21 : decode cX4_untilArrived 21 = .ok (.aload_n 0, 1) := by decide +kernel
theorem dX4_untilArrived_22 : decode cX4_untilArrived 22 = .ok (.getfield 16, 3) := by decide +kernel
theorem dX4_untilArrived_25 : decode cX4_untilArrived 25 = .ok (.getfield 104, 3) := by decide +kernel
theorem dX4_untilArrived_28 : decode cX4_untilArrived 28 = .ok (.iload_n 1, 1) := by decide +kernel
theorem dX4_untilArrived_29 : decode cX4_untilArrived 29 = .ok (.aaload, 1) := by decide +kernel
theorem dX4_untilArrived_30 : decode cX4_untilArrived 30 = .ok (.astore_n 2, 1) := by decide +kernel
theorem dX4_untilArrived_31 : decode cX4_untilArrived 31 = .ok (.iconst 0, 1) := by decide +kernel
theorem dX4_untilArrived_32 : decode cX4_untilArrived 32 = .ok (.istore_n 3, 1) := by decide +kernel
theorem dX4_untilArrived_33 : decode cX4_untilArrived 33 = .ok (.iload_n 3, 1) := by decide +kernel
theorem dX4_untilArrived_34 : decode cX4_untilArrived 34 = .ok (.sipush 200, 3) := by decide +kernel
theorem dX4_untilArrived_37 : decode cX4_untilArrived 37 = .ok (.if_icmp .ge 23, 3) := by decide +kernel
theorem dX4_untilArrived_40 : decode cX4_untilArrived 40 = .ok (.aload_n 2, 1) := by decide +kernel
theorem dX4_untilArrived_41 : decode cX4_untilArrived 41 = .ok (.invokevirtual 145, 3) := by decide +kernel
theorem dX4_untilArrived_44 : decode cX4_untilArrived 44 = .ok (.ifCond .eq 16, 3) := by decide +kernel
theorem dX4_untilArrived_47 : decode cX4_untilArrived 47 = .ok (.aload_n 0, 1) := by decide +kernel
theorem dX4_untilArrived_48 : decode cX4_untilArrived 48 = .ok (.getfield 16, 3) := by decide +kernel
theorem dX4_untilArrived_51 : decode cX4_untilArrived 51 = .ok (.invokevirtual 123, 3) := by decide +kernel
theorem dX4_untilArrived_54 : decode cX4_untilArrived 54 = .ok (.iinc 3 1, 3) := by decide +kernel
theorem dX4_untilArrived_57 : decode cX4_untilArrived 57 = .ok (.goto (-24), 3) := by decide +kernel
theorem dX4_untilArrived_60 : decode cX4_untilArrived 60 = .ok (.aload_n 2, 1) := by decide +kernel
theorem dX4_untilArrived_61 : decode cX4_untilArrived 61 = .ok (.getfield 108, 3) := by decide +kernel
theorem dX4_untilArrived_64 : decode cX4_untilArrived 64 = .ok (.iconst 2, 1) := by decide +kernel
theorem dX4_untilArrived_65 : decode cX4_untilArrived 65 = .ok (.if_icmp .ne 7, 3) := by decide +kernel
theorem dX4_untilArrived_68 : decode cX4_untilArrived 68 = .ok (.iload_n 3, 1) := by decide +kernel
theorem dX4_untilArrived_69 : decode cX4_untilArrived 69 = .ok (.goto 5, 3) := by decide +kernel
theorem dX4_untilArrived_72 : decode cX4_untilArrived 72 = .ok (.bipush (-6), 2) := by decide +kernel
theorem dX4_untilArrived_74 : decode cX4_untilArrived 74 = .ok (.ireturn, 1) := by decide +kernel
theorem dX4_tryOut_0 : decode cX4_tryOut 0 = .ok (.iconst 0, 1) := by decide +kernel
theorem dX4_tryOut_1 : decode cX4_tryOut 1 = .ok (.istore_n 2, 1) := by decide +kernel
theorem dX4_tryOut_2 : decode cX4_tryOut 2 = .ok (.iload_n 2, 1) := by decide +kernel
theorem dX4_tryOut_3 : decode cX4_tryOut 3 = .ok (.iload_n 1, 1) := by decide +kernel
theorem dX4_tryOut_4 : decode cX4_tryOut 4 = .ok (.if_icmp .ge 26, 3) := by decide +kernel
theorem dX4_tryOut_7 : decode cX4_tryOut 7 = .ok (.aload_n 0, 1) := by decide +kernel
theorem dX4_tryOut_8 : decode cX4_tryOut 8 = .ok (.getfield 16, 3) := by decide +kernel
theorem dX4_tryOut_11 : decode cX4_tryOut 11 = .ok (.invokevirtual 152, 3) := by decide +kernel
theorem dX4_tryOut_14 : decode cX4_tryOut 14 = .ok (.ifCond .eq 16, 3) := by decide +kernel
theorem dX4_tryOut_17 : decode cX4_tryOut 17 = .ok (.aload_n 0, 1) := by decide +kernel
theorem dX4_tryOut_18 : decode cX4_tryOut 18 = .ok (.getfield 16, 3) := by decide +kernel
theorem dX4_tryOut_21 : decode cX4_tryOut 21 = .ok (.invokevirtual 123, 3) := by decide +kernel
theorem dX4_tryOut_24 : decode cX4_tryOut 24 = .ok (.iinc 2 1, 3) := by decide +kernel
theorem dX4_tryOut_27 : decode cX4_tryOut 27 = .ok (.goto (-25), 3) := by decide +kernel
theorem dX4_tryOut_30 : decode cX4_tryOut 30 = .ok (.iload_n 2, 1) := by decide +kernel
theorem dX4_tryOut_31 : decode cX4_tryOut 31 = .ok (.ireturn, 1) := by decide +kernel
theorem dX4_untilEmpty_0 : decode cX4_untilEmpty 0 = .ok (.aload_n 0, 1) := by decide +kernel
theorem dX4_untilEmpty_1 : decode cX4_untilEmpty 1 = .ok (.getfield 16, 3) := by decide +kernel
theorem dX4_untilEmpty_4 : decode cX4_untilEmpty 4 = .ok (.aload_n 0, 1) := by decide +kernel
theorem dX4_untilEmpty_5 : decode cX4_untilEmpty 5 = .ok (.getfield 10, 3) := by decide +kernel
theorem dX4_untilEmpty_8 : decode cX4_untilEmpty 8 = .ok (.invokevirtual 135, 3) := by decide +kernel
theorem dX4_untilEmpty_11 : decode cX4_untilEmpty 11 = .ok (.aload_n 0, 1) := by decide +kernel
theorem dX4_untilEmpty_12 : decode cX4_untilEmpty 12 = .ok (.sipush 200, 3) := by decide +kernel
theorem dX4_untilEmpty_15 : decode cX4_untilEmpty 15 = .ok (.invokevirtual 149, 3) := by decide +kernel
theorem dX4_untilEmpty_18 : decode cX4_untilEmpty 18 = .ok (.istore_n 1, 1) := by decide +kernel
theorem dX4_untilEmpty_19 : decode cX4_untilEmpty 19 = .ok (.aload_n 0, 1) := by decide +kernel
theorem dX4_untilEmpty_20 : decode cX4_untilEmpty 20 = .ok (.getfield 16, 3) := by decide +kernel
theorem dX4_untilEmpty_23 : decode cX4_untilEmpty 23 = .ok (.invokevirtual 152, 3) := by decide +kernel
theorem dX4_untilEmpty_26 : decode cX4_untilEmpty 26 = .ok (.ifCond .eq 8, 3) := by decide +kernel
theorem dX4_untilEmpty_29 : decode cX4_untilEmpty 29 = .ok (.bipush (-6), 2) := by decide +kernel
theorem dX4_untilEmpty_31 : decode cX4_untilEmpty 31 = .ok (.goto 4, 3) := by decide +kernel
theorem dX4_untilEmpty_34 : decode cX4_untilEmpty 34 = .ok (.iload_n 1, 1) := by decide +kernel
theorem dX4_untilEmpty_35 : decode cX4_untilEmpty 35 = .ok (.ireturn, 1) := by decide +kernel
theorem dX4_ifPassed_0 : decode cX4_ifPassed 0 = .ok (.iload_n 1, 1) := by decide +kernel
theorem dX4_ifPassed_1 : decode cX4_ifPassed 1 = .ok (.iconst 1, 1) := by decide +kernel
theorem dX4_ifPassed_2 : decode cX4_ifPassed 2 = .ok (.if_icmp .lt 19, 3) := by decide +kernel
theorem dX4_ifPassed_5 : decode cX4_ifPassed 5 = .ok (.iload_n 1, 1) := by decide +kernel
theorem dX4_ifPassed_6 : decode cX4_ifPassed 6 = .ok (.sipush 200, 3) := by decide +kernel
theorem dX4_ifPassed_9 : decode cX4_ifPassed 9 = .ok (.if_icmp .gt 12, 3) := by decide +kernel
theorem dX4_ifPassed_12 : decode cX4_ifPassed 12 = .ok (.iload_n 2, 1) := by decide +kernel
theorem dX4_ifPassed_13 : decode cX4_ifPassed 13 = .ok (.ifCond .lt 8, 3) := by decide +kernel
theorem dX4_ifPassed_16 : decode cX4_ifPassed 16 = .ok (.iload_n 2, 1) := by decide +kernel
theorem dX4_ifPassed_17 : decode cX4_ifPassed 17 = .ok (.iconst 3, 1) := by decide +kernel
theorem dX4_ifPassed_18 : decode cX4_ifPassed 18 = .ok (.if_icmp .le 6, 3) := by decide +kernel
theorem dX4_ifPassed_21 : decode cX4_ifPassed 21 = .ok (.bipush (-2), 2) := by decide +kernel
theorem dX4_ifPassed_23 : decode cX4_ifPassed 23 = .ok (.ireturn, 1) := by decide +kernel
theorem dX4_ifPassed_24 : decode cX4_ifPassed 24 = .ok (.aload_n 0, 1) := by decide +kernel
theorem dX4_ifPassed_25 : decode cX4_ifPassed 25 = .ok (.getfield 16, 3) := by decide +kernel
theorem dX4_ifPassed_28 : decode cX4_ifPassed 28 = .ok (.aload_n 0, 1) := by decide +kernel
theorem dX4_ifPassed_29 : decode cX4_ifPassed 29 = .ok (.getfield 10, 3) := by decide +kernel
theorem dX4_ifPassed_32 : decode cX4_ifPassed 32 = .ok (.invokevirtual 135, 3) := by decide +kernel
theorem dX4_ifPassed_35 : decode cX4_ifPassed 35 = .ok (.aload_n 0, 1) := by decide +kernel
theorem dX4_ifPassed_36 : decode cX4_ifPassed 36 = .ok (.iload_n 1, 1) := by decide +kernel
theorem dX4_ifPassed_37 : decode cX4_ifPassed 37 = .ok (.invokevirtual 149, 3) := by decide +kernel
theorem dX4_ifPassed_40 : decode cX4_ifPassed 40 = .ok (.pop, 1) := by decide +kernel
theorem dX4_ifPassed_41 : decode cX4_ifPassed 41 = .ok (.iload_n 2, 1) := by decide +kernel
theorem dX4_ifPassed_42 : decode cX4_ifPassed 42 = .ok (.tableswitch 82 0 2 #[26, 44, 62], 26) := by decide +kernel
theorem dX4_ifPassed_68 : decode cX4_ifPassed 68 = .ok (.aload_n 0, 1) := by decide +kernel
theorem dX4_ifPassed_69 : decode cX4_ifPassed 69 = .ok (.getfield 16, 3) := by decide +kernel
theorem dX4_ifPassed_72 : decode cX4_ifPassed 72 = .ok (.iconst 2, 1) := by decide +kernel
theorem dX4_ifPassed_73 : decode cX4_ifPassed 73 = .ok (.invokevirtual 120, 3) := by decide +kernel
theorem dX4_ifPassed_76 : decode cX4_ifPassed 76 = .ok (.aload_n 0, 1) := by decide +kernel
theorem dX4_ifPassed_77 : decode cX4_ifPassed 77 = .ok (.getfield 10, 3) := by decide +kernel
theorem dX4_ifPassed_80 : decode cX4_ifPassed 80 = .ok (.iconst 2, 1) := by decide +kernel
theorem dX4_ifPassed_81 : decode cX4_ifPassed 81 = .ok (.invokevirtual 120, 3) := by decide +kernel
theorem dX4_ifPassed_84 : decode cX4_ifPassed 84 = .ok (.isub, 1) := by decide +kernel
theorem dX4_ifPassed_85 : decode cX4_ifPassed 85 = .ok (.ireturn, 1) := by decide +kernel
theorem dX4_ifPassed_86 : decode cX4_ifPassed 86 = .ok (.aload_n 0, 1) := by decide +kernel
theorem dX4_ifPassed_87 : decode cX4_ifPassed 87 = .ok (.getfield 16, 3) := by decide +kernel
theorem dX4_ifPassed_90 : decode cX4_ifPassed 90 = .ok (.iconst 3, 1) := by decide +kernel
theorem dX4_ifPassed_91 : decode cX4_ifPassed 91 = .ok (.invokevirtual 120, 3) := by decide +kernel
theorem dX4_ifPassed_94 : decode cX4_ifPassed 94 = .ok (.aload_n 0, 1) := by decide +kernel
theorem dX4_ifPassed_95 : decode cX4_ifPassed 95 = .ok (.getfield 10, 3) := by decide +kernel
theorem dX4_ifPassed_98 : decode cX4_ifPassed 98 = .ok (.iconst 3, 1) := by decide +kernel
theorem dX4_ifPassed_99 : decode cX4_ifPassed 99 = .ok (.invokevirtual 120, 3) := by decide +kernel
theorem dX4_ifPassed_102 : decode cX4_ifPassed 102 = .ok (.isub, 1) := by decide +kernel
theorem dX4_ifPassed_103 : decode cX4_ifPassed 103 = .ok (.ireturn, 1) := by decide +kernel
theorem dX4_ifPassed_104 : decode cX4_ifPassed 104 = .ok (.aload_n 0, 1) := by decide +kernel
theorem dX4_ifPassed_105 : decode cX4_ifPassed 105 = .ok (.getfield 16, 3) := by decide +kernel
theorem dX4_ifPassed_108 : decode cX4_ifPassed 108 = .ok (.bipush 6, 2) := by decide +kernel
theorem dX4_ifPassed_110 : decode cX4_ifPassed 110 = .ok (.invokevirtual 141, 3) := by decide +kernel
theorem dX4_ifPassed_113 : decode cX4_ifPassed 113 = .ok (.aload_n 0, 1) := by decide +kernel
theorem dX4_ifPassed_114 : decode cX4_ifPassed 114 = .ok (.getfield 10, 3) := by decide +kernel
theorem dX4_ifPassed_117 : decode cX4_ifPassed 117 = .ok (.bipush 6, 2) := by decide +kernel
theorem dX4_ifPassed_119 : decode cX4_ifPassed 119 = .ok (.invokevirtual 141, 3) := by decide +kernel
theorem dX4_ifPassed_122 : decode cX4_ifPassed 122 = .ok (.isub, 1) := by decide +kernel
theorem dX4_ifPassed_123 : decode cX4_ifPassed 123 = .ok (.ireturn, 1) := by decide +kernel
theorem dX4_ifPassed_124 : decode cX4_ifPassed 124 = .ok (.aload_n 0, 1) := by decide +kernel
theorem dX4_ifPassed_125 : decode cX4_ifPassed 125 = .ok (.getfield 16, 3) := by decide +kernel
theorem dX4_ifPassed_128 : decode cX4_ifPassed 128 = .ok (.iconst 4, 1) := by decide +kernel
theorem dX4_ifPassed_129 : decode cX4_ifPassed 129 = .ok (.invokevirtual 141, 3) := by decide +kernel
theorem dX4_ifPassed_132 : decode cX4_ifPassed 132 = .ok (.aload_n 0, 1) := by decide +kernel
theorem dX4_ifPassed_133 : decode cX4_ifPassed 133 = .ok (.getfield 10, 3) := by decide +kernel
theorem dX4_ifPassed_136 : decode cX4_ifPassed 136 = .ok (.iconst 4, 1) := by decide +kernel
theorem dX4_ifPassed_137 : decode cX4_ifPassed 137 = .ok (.invokevirtual 141, 3) := by decide +kernel
theorem dX4_ifPassed_140 : decode cX4_ifPassed 140 = .ok (.isub, 1) := by decide +kernel
theorem dX4_ifPassed_141 : decode cX4_ifPassed 141 = .ok (.ireturn, 1) := by decide +kernel
theorem dX4_bestLanding_0 : decode cX4_bestLanding 0 = .ok (.bipush (-6), 2) := by decide +kernel
theorem dX4_bestLanding_2 : decode cX4_bestLanding 2 = .ok (.istore_n 1, 1) := by decide +kernel
theorem dX4_bestLanding_3 : decode cX4_bestLanding 3 = .ok (.iconst 0, 1) := by decide +kernel
theorem dX4_bestLanding_4 : decode cX4_bestLanding 4 = .ok (.istore_n 2, 1) := by decide +kernel
theorem dX4_bestLanding_5 : decode cX4_bestLanding 5 = .ok (.iconst 0, 1) := by decide +kernel
theorem dX4_bestLanding_6 : decode cX4_bestLanding 6 = .ok (.istore_n 3, 1) := by decide +kernel
theorem dX4_bestLanding_7 : decode cX4_bestLanding 7 = .ok (.iload_n 3, 1) := by decide +kernel
theorem dX4_bestLanding_8 : decode cX4_bestLanding 8 = .ok (.bipush 12, 2) := by decide +kernel
theorem dX4_bestLanding_10 : decode cX4_bestLanding 10 = .ok (.if_icmp .ge 84, 3) := by decide +kernel
theorem dX4_bestLanding_13 : decode cX4_bestLanding 13 = .ok (.aload_n 0, 1) := by decide +kernel
theorem dX4_bestLanding_14 : decode cX4_bestLanding 14 = .ok (.getfield 10, 3) := by decide +kernel
theorem dX4_bestLanding_17 : decode cX4_bestLanding 17 = .ok (.iload_n 3, 1) := by decide +kernel
theorem dX4_bestLanding_18 : decode cX4_bestLanding 18 = .ok (.invokevirtual 66, 3) := by decide +kernel
theorem dX4_bestLanding_21 : decode cX4_bestLanding 21 = .ok (.ifCond .eq 6, 3) := by decide +kernel
theorem dX4_bestLanding_24 : decode cX4_bestLanding 24 = .ok (.goto 64, 3) := by decide +kernel
theorem dX4_bestLanding_27 : decode cX4_bestLanding 27 = .ok (.aload_n 0, 1) := by decide +kernel
theorem dX4_bestLanding_28 : decode cX4_bestLanding 28 = .ok (.getfield 16, 3) := by decide +kernel
theorem dX4_bestLanding_31 : decode cX4_bestLanding 31 = .ok (.aload_n 0, 1) := by decide +kernel
theorem dX4_bestLanding_32 : decode cX4_bestLanding 32 = .ok (.getfield 10, 3) := by decide +kernel
theorem dX4_bestLanding_35 : decode cX4_bestLanding 35 = .ok (.invokevirtual 135, 3) := by decide +kernel
theorem dX4_bestLanding_38 : decode cX4_bestLanding 38 = .ok (.aload_n 0, 1) := by decide +kernel
theorem dX4_bestLanding_39 : decode cX4_bestLanding 39 = .ok (.getfield 16, 3) := by decide +kernel
theorem dX4_bestLanding_42 : decode cX4_bestLanding 42 = .ok (.dup, 1) := by decide +kernel
theorem dX4_bestLanding_43 : decode cX4_bestLanding 43 = .ok (.getfield 73, 3) := by decide +kernel
theorem dX4_bestLanding_46 : decode cX4_bestLanding 46 = .ok (.iconst 1, 1) := by decide +kernel
theorem dX4_bestLanding_47 : decode cX4_bestLanding 47 = .ok (.iload_n 3, 1) := by decide +kernel
theorem dX4_bestLanding_48 : decode cX4_bestLanding 48 = .ok (.ishl, 1) := by decide +kernel
theorem dX4_bestLanding_49 : decode cX4_bestLanding 49 = .ok (.ior, 1) := by decide +kernel
theorem dX4_bestLanding_50 : decode cX4_bestLanding 50 = .ok (.putfield 73, 3) := by decide +kernel
theorem dX4_bestLanding_53 : decode cX4_bestLanding 53 = .ok (.aload_n 0, 1) := by decide +kernel
theorem dX4_bestLanding_54 : decode cX4_bestLanding 54 = .ok (.bipush 50, 2) := by decide +kernel
theorem dX4_bestLanding_56 : decode cX4_bestLanding 56 = .ok (.invokevirtual 149, 3) := by decide +kernel
theorem dX4_bestLanding_59 : decode cX4_bestLanding 59 = .ok (.pop, 1) := by decide +kernel
theorem dX4_bestLanding_60 : decode cX4_bestLanding 60 = .ok (.aload_n 0, 1) := by decide +kernel
theorem dX4_bestLanding_61 : decode cX4_bestLanding 61 = .ok (.getfield 16, 3) := by decide +kernel
theorem dX4_bestLanding_64 : decode cX4_bestLanding 64 = .ok (.bipush 6, 2) := by decide +kernel
theorem dX4_bestLanding_66 : decode cX4_bestLanding 66 = .ok (.invokevirtual 141, 3) := by decide +kernel
theorem dX4_bestLanding_69 : decode cX4_bestLanding 69 = .ok (.istore 4, 2) := by decide +kernel
theorem dX4_bestLanding_71 : decode cX4_bestLanding 71 = .ok (.iload_n 1, 1) := by decide +kernel
theorem dX4_bestLanding_72 : decode cX4_bestLanding 72 = .ok (.bipush (-6), 2) := by decide +kernel
theorem dX4_bestLanding_74 : decode cX4_bestLanding 74 = .ok (.if_icmp .eq 9, 3) := by decide +kernel
theorem dX4_bestLanding_77 : decode cX4_bestLanding 77 = .ok (.iload 4, 2) := by decide +kernel
theorem dX4_bestLanding_79 : decode cX4_bestLanding 79 = .ok (.iload_n 2, 1) := by decide +kernel
theorem dX4_bestLanding_80 : decode cX4_bestLanding 80 = .ok (.if_icmp .ge 8, 3) := by decide +kernel
theorem dX4_bestLanding_83 : decode cX4_bestLanding 83 = .ok (.iload_n 3, 1) := by decide +kernel
theorem dX4_bestLanding_84 : decode cX4_bestLanding 84 = .ok (.istore_n 1, 1) := by decide +kernel
theorem dX4_bestLanding_85 : decode cX4_bestLanding 85 = .ok (.iload 4, 2) := by decide +kernel
theorem dX4_bestLanding_87 : decode cX4_bestLanding 87 = .ok (.istore_n 2, 1) := by decide +kernel
theorem dX4_bestLanding_88 : decode cX4_bestLanding 88 = .ok (.iinc 3 1, 3) := by decide +kernel
theorem dX4_bestLanding_91 : decode cX4_bestLanding 91 = .ok (.goto (-84), 3) := by decide +kernel
theorem dX4_bestLanding_94 : decode cX4_bestLanding 94 = .ok (.iload_n 1, 1) := by decide +kernel
theorem dX4_bestLanding_95 : decode cX4_bestLanding 95 = .ok (.ireturn, 1) := by decide +kernel
theorem dX4_put_0 : decode cX4_put 0 = .ok (.aload_n 0, 1) := by decide +kernel
theorem dX4_put_1 : decode cX4_put 1 = .ok (.getfield 37, 3) := by decide +kernel
theorem dX4_put_4 : decode cX4_put 4 = .ok (.lload_n 1, 1) := by decide +kernel
theorem dX4_put_5 : decode cX4_put 5 = .ok (.invokevirtual 155, 3) := by decide +kernel
theorem dX4_put_8 : decode cX4_put 8 = .ok (.ireturn, 1) := by decide +kernel
theorem dX4_wipe_0 : decode cX4_wipe 0 = .ok (.aload_n 0, 1) := by decide +kernel
theorem dX4_wipe_1 : decode cX4_wipe 1 = .ok (.getfield 37, 3) := by decide +kernel
theorem dX4_wipe_4 : decode cX4_wipe 4 = .ok (.getfield 92, 3) := by decide +kernel
theorem dX4_wipe_7 : decode cX4_wipe 7 = .ok (.istore_n 1, 1) := by decide +kernel
theorem dX4_wipe_8 : decode cX4_wipe 8 = .ok (.aload_n 0, 1) := by decide +kernel
theorem dX4_wipe_9 : decode cX4_wipe 9 = .ok (.getfield 37, 3) := by decide +kernel
theorem dX4_wipe_12 : decode cX4_wipe 12 = .ok (.iconst 0, 1) := by decide +kernel
theorem dX4_wipe_13 : decode cX4_wipe 13 = .ok (.putfield 92, 3) := by decide +kernel
theorem dX4_wipe_16 : decode cX4_wipe 16 = .ok (.iload_n 1, 1) := by decide +kernel
theorem dX4_wipe_17 : decode cX4_wipe 17 = .ok (.ireturn, 1) := by decide +kernel
theorem dX4_isSlot_0 : decode cX4_isSlot 0 = .ok (.iload_n 0, 1) := by decide +kernel
theorem dX4_isSlot_1 : decode cX4_isSlot 1 = .ok (.ifCond .lt 12, 3) := by decide +kernel
theorem dX4_isSlot_4 : decode cX4_isSlot 4 = .ok (.iload_n 0, 1) := by decide +kernel
theorem dX4_isSlot_5 : decode cX4_isSlot 5 = .ok (.iconst 2, 1) := by decide +kernel
theorem dX4_isSlot_6 : decode cX4_isSlot 6 = .ok (.if_icmp .ge 7, 3) := by decide +kernel
theorem dX4_isSlot_9 : decode cX4_isSlot 9 = .ok (.iconst 1, 1) := by decide +kernel
theorem dX4_isSlot_10 : decode cX4_isSlot 10 = .ok (.goto 4, 3) := by decide +kernel
theorem dX4_isSlot_13 : decode cX4_isSlot 13 = .ok (.iconst 0, 1) := by decide +kernel
theorem dX4_isSlot_14 : decode cX4_isSlot 14 = .ok (.ireturn, 1) := by decide +kernel
theorem dX4_save_0 : decode cX4_save 0 = .ok (.iload_n 1, 1) := by decide +kernel
theorem dX4_save_1 : decode cX4_save 1 = .ok (.invokestatic 162, 3) := by decide +kernel
theorem dX4_save_4 : decode cX4_save 4 = .ok (.ifCond .ne 6, 3) := by decide +kernel
theorem dX4_save_7 : decode cX4_save 7 = .ok (.bipush (-2), 2) := by decide +kernel
theorem dX4_save_9 : decode cX4_save 9 = .ok (.ireturn, 1) := by decide +kernel
theorem dX4_save_10 : decode cX4_save 10 = .ok (.aload_n 0, 1) := by decide +kernel
theorem dX4_save_11 : decode cX4_save 11 = .ok (.getfield 26, 3) := by decide +kernel
theorem dX4_save_14 : decode cX4_save 14 = .ok (.iload_n 1, 1) := by decide +kernel
theorem dX4_save_15 : decode cX4_save 15 = .ok (.aaload, 1) := by decide +kernel
theorem dX4_save_16 : decode cX4_save 16 = .ok (.aload_n 0, 1) := by decide +kernel
theorem dX4_save_17 : decode cX4_save 17 = .ok (.getfield 10, 3) := by decide +kernel
theorem dX4_save_20 : decode cX4_save 20 = .ok (.invokevirtual 135, 3) := by decide +kernel
theorem dX4_save_23 : decode cX4_save 23 = .ok (.aload_n 0, 1) := by decide +kernel
theorem dX4_save_24 : decode cX4_save 24 = .ok (.getfield 30, 3) := by decide +kernel
theorem dX4_save_27 : decode cX4_save 27 = .ok (.iload_n 1, 1) := by decide +kernel
theorem dX4_save_28 : decode cX4_save 28 = .ok (.iconst 1, 1) := by decide +kernel
theorem dX4_save_29 : decode cX4_save 29 = .ok (.bastore, 1) := by decide +kernel
theorem dX4_save_30 : decode cX4_save 30 = .ok (.aload_n 0, 1) := by decide +kernel
theorem dX4_save_31 : decode cX4_save 31 = .ok (.getfield 10, 3) := by decide +kernel
theorem dX4_save_34 : decode cX4_save 34 = .ok (.getfield 117, 3) := by decide +kernel
theorem dX4_save_37 : decode cX4_save 37 = .ok (.ireturn, 1) := by decide +kernel
theorem dX4_restore_0 : decode cX4_restore 0 = .ok (.iload_n 1, 1) := by decide +kernel
theorem dX4_restore_1 : decode cX4_restore 1 = .ok (.invokestatic 162, 3) := by decide +kernel
theorem dX4_restore_4 : decode cX4_restore 4 = .ok (.ifCond .ne 6, 3) := by decide +kernel
theorem dX4_restore_7 : decode cX4_restore 7 = .ok (.bipush (-2), 2) := by decide +kernel
theorem dX4_restore_9 : decode cX4_restore 9 = .ok (.ireturn, 1) := by decide +kernel
theorem dX4_restore_10 : decode cX4_restore 10 = .ok (.aload_n 0, 1) := by decide +kernel
theorem dX4_restore_11 : decode cX4_restore 11 = .ok (.getfield 30, 3) := by decide +kernel
theorem dX4_restore_14 : decode cX4_restore 14 = .ok (.iload_n 1, 1) := by decide +kernel
theorem dX4_restore_15 : decode cX4_restore 15 = .ok (.baload, 1) := by decide +kernel
theorem dX4_restore_16 : decode cX4_restore 16 = .ok (.ifCond .ne 6, 3) := by decide +kernel
theorem dX4_restore_19 : decode cX4_restore 19 = .ok (.bipush (-5), 2) := by decide +kernel
theorem dX4_restore_21 : decode cX4_restore 21 = .ok (.ireturn, 1) := by decide +kernel
theorem dX4_restore_22 : decode cX4_restore 22 = .ok (.aload_n 0, 1) := by decide +kernel
theorem dX4_restore_23 : decode cX4_restore 23 = .ok (.getfield 22, 3) := by decide +kernel
theorem dX4_restore_26 : decode cX4_restore 26 = .ok (.aload_n 0, 1) := by decide +kernel
theorem dX4_restore_27 : decode cX4_restore 27 = .ok (.getfield 10, 3) := by decide +kernel
theorem dX4_restore_30 : decode cX4_restore 30 = .ok (.invokevirtual 56, 3) := by decide +kernel
theorem dX4_restore_33 : decode cX4_restore 33 = .ok (.aload_n 0, 1) := by decide +kernel
theorem dX4_restore_34 : decode cX4_restore 34 = .ok (.getfield 10, 3) := by decide +kernel
theorem dX4_restore_37 : decode cX4_restore 37 = .ok (.aload_n 0, 1) := by decide +kernel
theorem dX4_restore_38 : decode cX4_restore 38 = .ok (.getfield 26, 3) := by decide +kernel
theorem dX4_restore_41 : decode cX4_restore 41 = .ok (.iload_n 1, 1) := by decide +kernel
theorem dX4_restore_42 : decode cX4_restore 42 = .ok (.aaload, 1) := by decide +kernel
theorem dX4_restore_43 : decode cX4_restore 43 = .ok (.invokevirtual 135, 3) := by decide +kernel
theorem dX4_restore_46 : decode cX4_restore 46 = .ok (.aload_n 0, 1) := by decide +kernel
theorem dX4_restore_47 : decode cX4_restore 47 = .ok (.getfield 10, 3) := by decide +kernel
theorem dX4_restore_50 : decode cX4_restore 50 = .ok (.getfield 117, 3) := by decide +kernel
theorem dX4_restore_53 : decode cX4_restore 53 = .ok (.ireturn, 1) := by decide +kernel
end
section
/-! METHODS, by program: conditions and contracts -/
abbrev rm_X4_isStep : Room := { frames := 0, cells := 0, slots := 0, locals := 0 }
noncomputable def wp_X4_isStep (a0 : Int32) (μ : Mem) (K : Int32 → Mem → Prop) : Prop :=
    ((a0 < 0 → K 0 μ) ∧ (¬ a0 < 0 → ((12 ≤ a0 → K 0 μ) ∧ (¬ 12 ≤ a0 → K 1 μ))))
set_option maxHeartbeats 4000000 in
set_option maxRecDepth 100000 in
theorem c_X4_isStep (l : Launch) (g : Gv) (ad : Nat → Nat) (μ : Mem) (sz : Nat) (a0 : Int32) {K : Int32 → Mem → Prop} (h : wp_X4_isStep a0 μ K) : Met l yX4_isStep (wX yX4_isStep cX4_isStep 1 (some .boolean)) rm_X4_isStep (Pre g ad μ sz [.int a0]) (PostI g ad sz K) 0 0 (Aw ad sz) := by
  refine Met.ofW (cc := cX4_isStep) (maxL := 1) (ret := (some .boolean)) (by decide) rfl ?_
  intro p e s m args below meth c s₁ B hml hv
  obtain ⟨rfl, rfl, C, w⟩ := x_start B hml hv
  obtain ⟨hx, hb, hml, -, hts, hown, -, -, hN⟩ := id C
  have hl := lv_entry ([.int a0]) (n := 1) (Nat.le_of_ble_eq_true rfl)
  rw [lg_entry_eq]
  generalize (lg_sl ([.int a0]) ++ List.replicate (1 - (lg_sl ([.int a0])).length) Slot.unset).toArray = ls at hl ⊢
  have hl : lv_has ls 1 [(0, .int a0)] := hl
  show W p l e rm_X4_isStep s m _ below meth c s.heap [] 0 0 _ _
  unfold wp_X4_isStep at h
  refine lv_iload_n hx hb dX4_isStep_0 rfl (lv_at hl 0 rfl) ?_
  refine lv_if_lt (tgt := 14) hx hb dX4_isStep_1 (by decide) (fun c_1 => ?_) (fun c_1 => ?_)
  · have h := h.1 c_1
    refine lv_iconst (v := 0) hx hb dX4_isStep_14 (by decide) ?_
    exact x_zret C w (show bz 0 from Or.inl rfl) h dX4_isStep_15
  · have h := h.2 c_1
    refine lv_iload_n hx hb dX4_isStep_4 rfl (lv_at hl 0 rfl) ?_
    refine lv_bipush (v := 12) hx hb dX4_isStep_5 (by decide) ?_
    refine lv_icmp_ge (tgt := 14) hx hb dX4_isStep_7 (by decide) (fun c_2 => ?_) (fun c_2 => ?_)
    · have h := h.1 c_2
      refine lv_iconst (v := 0) hx hb dX4_isStep_14 (by decide) ?_
      exact x_zret C w (show bz 0 from Or.inl rfl) h dX4_isStep_15
    · have h := h.2 c_2
      refine lv_iconst (v := 1) hx hb dX4_isStep_10 (by decide) ?_
      refine lv_goto (tgt := 15) hx hb dX4_isStep_11 (by decide) ?_
      exact x_zret C w (show bz 1 from Or.inr rfl) h dX4_isStep_15
abbrev rm_X2_takeFrom : Room := { frames := 0, cells := 0, slots := 0, locals := 0 }
noncomputable def wp_X2_takeFrom (b0 : Nat) (a1 : Nat) (μ : Mem) (K : Mem → Prop) : Prop :=
    (∀ m_1, m_1 = up2 μ b0 0 (μ a1 0) → (bz (m_1 a1 1) ∧ (∀ m_3, m_3 = up2 m_1 b0 1 (m_1 a1 1) → (∀ m_5, m_5 = up2 m_3 b0 2 (m_3 a1 2) → (∀ m_7, m_7 = up2 m_5 b0 3 (m_5 a1 3) → (∀ m_9, m_9 = up2 m_7 b0 4 (m_7 a1 4) → (∀ m_11, m_11 = up2 m_9 b0 5 (m_9 a1 5) → (∀ m_13, m_13 = up2 m_11 b0 6 (m_11 a1 6) → (∀ m_15, m_15 = up2 m_13 b0 7 (m_13 a1 7) → (∀ m_17, m_17 = up2 m_15 b0 8 (m_15 a1 8) → K m_17))))))))))
set_option maxHeartbeats 4000000 in
set_option maxRecDepth 100000 in
theorem c_X2_takeFrom (l : Launch) (g : Gv) (ad : Nat → Nat) (μ : Mem) (sz : Nat) (b0 : Nat) (k0 : kd b0 = 13) (a1 : Nat) (k1 : kd a1 = 13) {K : Mem → Prop} (h : wp_X2_takeFrom b0 a1 μ K) : Met l yX2_takeFrom (wX yX2_takeFrom cX2_takeFrom 2 none) rm_X2_takeFrom (Pre g ad μ sz [.ref (ad b0), .ref (ad a1)]) (PostV g ad sz K) 0 0 (Aw ad sz) := by
  refine Met.ofW (cc := cX2_takeFrom) (maxL := 2) (ret := none) (by decide) rfl ?_
  intro p e s m args below meth c s₁ B hml hv
  obtain ⟨rfl, rfl, C, w⟩ := x_start B hml hv
  obtain ⟨hx, hb, hml, -, hts, hown, -, -, hN⟩ := id C
  have hl := lv_entry ([.ref (ad b0), .ref (ad a1)]) (n := 2) (Nat.le_of_ble_eq_true rfl)
  rw [lg_entry_eq]
  generalize (lg_sl ([.ref (ad b0), .ref (ad a1)]) ++ List.replicate (2 - (lg_sl ([.ref (ad b0), .ref (ad a1)])).length) Slot.unset).toArray = ls at hl ⊢
  have hl : lv_has ls 2 [(0, .ref (ad b0)), (1, .ref (ad a1))] := hl
  show W p l e rm_X2_takeFrom s m _ below meth c s.heap [] 0 0 _ _
  unfold wp_X2_takeFrom at h
  refine lv_aload_n hx hb dX2_takeFrom_0 rfl (lv_at hl 0 rfl) ?_
  refine lv_aload_n hx hb dX2_takeFrom_1 rfl (lv_at hl 1 rfl) ?_
  refine x_getP C w (i := a1) (k := 0) k1 (by decide) mf_Person_9 dX2_takeFrom_2 ?_
  refine x_putP C w (i := b0) (k := 0) k0 (by decide) mf_Person_9 rfl rfl rfl rfl dX2_takeFrom_5 (fun m_1 e_2 H locs w => ?_)
  have h := h m_1 e_2
  refine lv_aload_n hx hb dX2_takeFrom_8 rfl (lv_at hl 0 rfl) ?_
  refine lv_aload_n hx hb dX2_takeFrom_9 rfl (lv_at hl 1 rfl) ?_
  refine x_getP C w (i := a1) (k := 1) k1 (by decide) mf_Person_15 dX2_takeFrom_10 ?_
  have hz := h.1
  have h := h.2
  refine x_putP C w (i := b0) (k := 1) k0 (by decide) mf_Person_15 rfl rfl (bz_narrow hz) (bz_fits hz) dX2_takeFrom_13 (fun m_3 e_4 H locs w => ?_)
  have h := h m_3 e_4
  refine lv_aload_n hx hb dX2_takeFrom_16 rfl (lv_at hl 0 rfl) ?_
  refine lv_aload_n hx hb dX2_takeFrom_17 rfl (lv_at hl 1 rfl) ?_
  refine x_getP C w (i := a1) (k := 2) k1 (by decide) mf_Person_19 dX2_takeFrom_18 ?_
  refine x_putP C w (i := b0) (k := 2) k0 (by decide) mf_Person_19 rfl rfl rfl rfl dX2_takeFrom_21 (fun m_5 e_6 H locs w => ?_)
  have h := h m_5 e_6
  refine lv_aload_n hx hb dX2_takeFrom_24 rfl (lv_at hl 0 rfl) ?_
  refine lv_aload_n hx hb dX2_takeFrom_25 rfl (lv_at hl 1 rfl) ?_
  refine x_getP C w (i := a1) (k := 3) k1 (by decide) mf_Person_22 dX2_takeFrom_26 ?_
  refine x_putP C w (i := b0) (k := 3) k0 (by decide) mf_Person_22 rfl rfl rfl rfl dX2_takeFrom_29 (fun m_7 e_8 H locs w => ?_)
  have h := h m_7 e_8
  refine lv_aload_n hx hb dX2_takeFrom_32 rfl (lv_at hl 0 rfl) ?_
  refine lv_aload_n hx hb dX2_takeFrom_33 rfl (lv_at hl 1 rfl) ?_
  refine x_getP C w (i := a1) (k := 4) k1 (by decide) mf_Person_25 dX2_takeFrom_34 ?_
  refine x_putP C w (i := b0) (k := 4) k0 (by decide) mf_Person_25 rfl rfl rfl rfl dX2_takeFrom_37 (fun m_9 e_10 H locs w => ?_)
  have h := h m_9 e_10
  refine lv_aload_n hx hb dX2_takeFrom_40 rfl (lv_at hl 0 rfl) ?_
  refine lv_aload_n hx hb dX2_takeFrom_41 rfl (lv_at hl 1 rfl) ?_
  refine x_getP C w (i := a1) (k := 5) k1 (by decide) mf_Person_28 dX2_takeFrom_42 ?_
  refine x_putP C w (i := b0) (k := 5) k0 (by decide) mf_Person_28 rfl rfl rfl rfl dX2_takeFrom_45 (fun m_11 e_12 H locs w => ?_)
  have h := h m_11 e_12
  refine lv_aload_n hx hb dX2_takeFrom_48 rfl (lv_at hl 0 rfl) ?_
  refine lv_aload_n hx hb dX2_takeFrom_49 rfl (lv_at hl 1 rfl) ?_
  refine x_getP C w (i := a1) (k := 6) k1 (by decide) mf_Person_31 dX2_takeFrom_50 ?_
  refine x_putP C w (i := b0) (k := 6) k0 (by decide) mf_Person_31 rfl rfl rfl rfl dX2_takeFrom_53 (fun m_13 e_14 H locs w => ?_)
  have h := h m_13 e_14
  refine lv_aload_n hx hb dX2_takeFrom_56 rfl (lv_at hl 0 rfl) ?_
  refine lv_aload_n hx hb dX2_takeFrom_57 rfl (lv_at hl 1 rfl) ?_
  refine x_getP C w (i := a1) (k := 7) k1 (by decide) mf_Person_34 dX2_takeFrom_58 ?_
  refine x_putP C w (i := b0) (k := 7) k0 (by decide) mf_Person_34 rfl rfl rfl rfl dX2_takeFrom_61 (fun m_15 e_16 H locs w => ?_)
  have h := h m_15 e_16
  refine lv_aload_n hx hb dX2_takeFrom_64 rfl (lv_at hl 0 rfl) ?_
  refine lv_aload_n hx hb dX2_takeFrom_65 rfl (lv_at hl 1 rfl) ?_
  refine x_getP C w (i := a1) (k := 8) k1 (by decide) mf_Person_37 dX2_takeFrom_66 ?_
  refine x_putP C w (i := b0) (k := 8) k0 (by decide) mf_Person_37 rfl rfl rfl rfl dX2_takeFrom_69 (fun m_17 e_18 H locs w => ?_)
  have h := h m_17 e_18
  exact x_vret C w h dX2_takeFrom_72
abbrev rm_X2_enterHall : Room := { frames := 0, cells := 0, slots := 0, locals := 0 }
noncomputable def wp_X2_enterHall_B26 (v0 : Nat) (s0 : Int32) (s1 : Nat) (K : Mem → Prop) (μ : Mem) : Prop :=
    (∀ m_8, m_8 = up2 μ s1 3 s0 → (∀ m_10, m_10 = up2 m_8 v0 4 0 → (∀ m_12, m_12 = up2 m_10 v0 5 0 → (∀ m_14, m_14 = up2 m_12 v0 6 0 → (∀ m_16, m_16 = up2 m_14 v0 7 0 → (∀ m_18, m_18 = up2 m_16 v0 8 0 → K m_18))))))
noncomputable def wp_X2_enterHall (b0 : Nat) (a1 : Int32) (a2 : Int32) (μ : Mem) (K : Mem → Prop) : Prop :=
    (∀ m_1, m_1 = up2 μ b0 0 a1 → (bz a2 ∧ (∀ m_3, m_3 = up2 m_1 b0 1 a2 → (∀ m_5, m_5 = up2 m_3 b0 2 0 → ((a2 = 0 → wp_X2_enterHall_B26 b0 12 b0 K m_5) ∧ (¬ a2 = 0 → wp_X2_enterHall_B26 b0 (-1) b0 K m_5))))))
set_option maxHeartbeats 4000000 in
set_option maxRecDepth 100000 in
theorem t_X2_enterHall_B26 {g : Gv} {ad : Nat → Nat} {l : Launch} {p : Program} {e : Env} {s : State} {m : MethodId} {args : Array Value} {below : List Frame} {meth : Method} {c : Code} (C : Cx g p s m args meth c "StairBows$Person" cX2_enterHall 3 none) {v0 : Nat} {s0 : Int32} {s1 : Nat}  {K : Mem → Prop}  (kv0 : kd v0 = 13) (ks1 : kd s1 = 13)  (μ : Mem) (H : Heap) (locs : List Loc) (ls : Array Slot) (h : wp_X2_enterHall_B26 v0 s0 s1 K μ) (w : Wd g ad μ (Aw ad s.heap.size) s H locs) (hl : lv_has ls 3 [(0, .ref (ad v0))]) : W p l e rm_X2_enterHall s m args below meth c H locs 0 0 (MQ below (PostV g ad s.heap.size K) args s 0 0 (Aw ad s.heap.size)) (F0 m 26 ls [.int s0, .ref (ad s1)]) := by
  obtain ⟨hx, hb, hml, -, hts, hown, -, -, hN⟩ := id C
  unfold wp_X2_enterHall_B26 at h
  refine x_putP C w (i := s1) (k := 3) ks1 (by decide) mf_Person_22 rfl rfl rfl rfl dX2_enterHall_26 (fun m_8 e_9 H locs w => ?_)
  have h := h m_8 e_9
  refine lv_aload_n hx hb dX2_enterHall_29 rfl (lv_at hl 0 rfl) ?_
  refine lv_iconst (v := 0) hx hb dX2_enterHall_30 (by decide) ?_
  refine x_putP C w (i := v0) (k := 4) kv0 (by decide) mf_Person_25 rfl rfl rfl rfl dX2_enterHall_31 (fun m_10 e_11 H locs w => ?_)
  have h := h m_10 e_11
  refine lv_aload_n hx hb dX2_enterHall_34 rfl (lv_at hl 0 rfl) ?_
  refine lv_iconst (v := 0) hx hb dX2_enterHall_35 (by decide) ?_
  refine x_putP C w (i := v0) (k := 5) kv0 (by decide) mf_Person_28 rfl rfl rfl rfl dX2_enterHall_36 (fun m_12 e_13 H locs w => ?_)
  have h := h m_12 e_13
  refine lv_aload_n hx hb dX2_enterHall_39 rfl (lv_at hl 0 rfl) ?_
  refine lv_iconst (v := 0) hx hb dX2_enterHall_40 (by decide) ?_
  refine x_putP C w (i := v0) (k := 6) kv0 (by decide) mf_Person_31 rfl rfl rfl rfl dX2_enterHall_41 (fun m_14 e_15 H locs w => ?_)
  have h := h m_14 e_15
  refine lv_aload_n hx hb dX2_enterHall_44 rfl (lv_at hl 0 rfl) ?_
  refine lv_iconst (v := 0) hx hb dX2_enterHall_45 (by decide) ?_
  refine x_putP C w (i := v0) (k := 7) kv0 (by decide) mf_Person_34 rfl rfl rfl rfl dX2_enterHall_46 (fun m_16 e_17 H locs w => ?_)
  have h := h m_16 e_17
  refine lv_aload_n hx hb dX2_enterHall_49 rfl (lv_at hl 0 rfl) ?_
  refine lv_iconst (v := 0) hx hb dX2_enterHall_50 (by decide) ?_
  refine x_putP C w (i := v0) (k := 8) kv0 (by decide) mf_Person_37 rfl rfl rfl rfl dX2_enterHall_51 (fun m_18 e_19 H locs w => ?_)
  have h := h m_18 e_19
  exact x_vret C w h dX2_enterHall_54
set_option maxHeartbeats 4000000 in
set_option maxRecDepth 100000 in
theorem c_X2_enterHall (l : Launch) (g : Gv) (ad : Nat → Nat) (μ : Mem) (sz : Nat) (b0 : Nat) (k0 : kd b0 = 13) (a1 : Int32) (a2 : Int32) {K : Mem → Prop} (h : wp_X2_enterHall b0 a1 a2 μ K) : Met l yX2_enterHall (wX yX2_enterHall cX2_enterHall 3 none) rm_X2_enterHall (Pre g ad μ sz [.ref (ad b0), .int a1, .int a2]) (PostV g ad sz K) 0 0 (Aw ad sz) := by
  refine Met.ofW (cc := cX2_enterHall) (maxL := 3) (ret := none) (by decide) rfl ?_
  intro p e s m args below meth c s₁ B hml hv
  obtain ⟨rfl, rfl, C, w⟩ := x_start B hml hv
  obtain ⟨hx, hb, hml, -, hts, hown, -, -, hN⟩ := id C
  have hl := lv_entry ([.ref (ad b0), .int a1, .int a2]) (n := 3) (Nat.le_of_ble_eq_true rfl)
  rw [lg_entry_eq]
  generalize (lg_sl ([.ref (ad b0), .int a1, .int a2]) ++ List.replicate (3 - (lg_sl ([.ref (ad b0), .int a1, .int a2])).length) Slot.unset).toArray = ls at hl ⊢
  have hl : lv_has ls 3 [(0, .ref (ad b0)), (1, .int a1), (2, .int a2)] := hl
  show W p l e rm_X2_enterHall s m _ below meth c s.heap [] 0 0 _ _
  unfold wp_X2_enterHall at h
  refine lv_aload_n hx hb dX2_enterHall_0 rfl (lv_at hl 0 rfl) ?_
  refine lv_iload_n hx hb dX2_enterHall_1 rfl (lv_at hl 1 rfl) ?_
  refine x_putP C w (i := b0) (k := 0) k0 (by decide) mf_Person_9 rfl rfl rfl rfl dX2_enterHall_2 (fun m_1 e_2 H locs w => ?_)
  have h := h m_1 e_2
  refine lv_aload_n hx hb dX2_enterHall_5 rfl (lv_at hl 0 rfl) ?_
  refine lv_iload_n hx hb dX2_enterHall_6 rfl (lv_at hl 2 rfl) ?_
  have hz := h.1
  have h := h.2
  refine x_putP C w (i := b0) (k := 1) k0 (by decide) mf_Person_15 rfl rfl (bz_narrow hz) (bz_fits hz) dX2_enterHall_7 (fun m_3 e_4 H locs w => ?_)
  have h := h m_3 e_4
  refine lv_aload_n hx hb dX2_enterHall_10 rfl (lv_at hl 0 rfl) ?_
  refine lv_iconst (v := 0) hx hb dX2_enterHall_11 (by decide) ?_
  refine x_putP C w (i := b0) (k := 2) k0 (by decide) mf_Person_19 rfl rfl rfl rfl dX2_enterHall_12 (fun m_5 e_6 H locs w => ?_)
  have h := h m_5 e_6
  refine lv_aload_n hx hb dX2_enterHall_15 rfl (lv_at hl 0 rfl) ?_
  refine lv_iload_n hx hb dX2_enterHall_16 rfl (lv_at hl 2 rfl) ?_
  refine lv_if_eq (tgt := 24) hx hb dX2_enterHall_17 (by decide) (fun c_7 => ?_) (fun c_7 => ?_)
  · have h := h.1 c_7
    refine lv_bipush (v := 12) hx hb dX2_enterHall_24 (by decide) ?_
    exact t_X2_enterHall_B26 C k0 k0 m_5 _ _ _ h w (lv_sub hl [0] rfl)
  · have h := h.2 c_7
    refine lv_iconst (v := -1) hx hb dX2_enterHall_20 (by decide) ?_
    refine lv_goto (tgt := 26) hx hb dX2_enterHall_21 (by decide) ?_
    exact t_X2_enterHall_B26 C k0 k0 m_5 _ _ _ h w (lv_sub hl [0] rfl)
abbrev rm_X2_isOnWay : Room := { frames := 0, cells := 0, slots := 0, locals := 0 }
noncomputable def wp_X2_isOnWay (b0 : Nat) (μ : Mem) (K : Int32 → Mem → Prop) : Prop :=
    (((μ b0 2) = 0 → K 1 μ) ∧ (¬ (μ b0 2) = 0 → ((¬ (μ b0 2) = 1 → K 0 μ) ∧ ((μ b0 2) = 1 → K 1 μ))))
set_option maxHeartbeats 4000000 in
set_option maxRecDepth 100000 in
theorem c_X2_isOnWay (l : Launch) (g : Gv) (ad : Nat → Nat) (μ : Mem) (sz : Nat) (b0 : Nat) (k0 : kd b0 = 13) {K : Int32 → Mem → Prop} (h : wp_X2_isOnWay b0 μ K) : Met l yX2_isOnWay (wX yX2_isOnWay cX2_isOnWay 1 (some .boolean)) rm_X2_isOnWay (Pre g ad μ sz [.ref (ad b0)]) (PostI g ad sz K) 0 0 (Aw ad sz) := by
  refine Met.ofW (cc := cX2_isOnWay) (maxL := 1) (ret := (some .boolean)) (by decide) rfl ?_
  intro p e s m args below meth c s₁ B hml hv
  obtain ⟨rfl, rfl, C, w⟩ := x_start B hml hv
  obtain ⟨hx, hb, hml, -, hts, hown, -, -, hN⟩ := id C
  have hl := lv_entry ([.ref (ad b0)]) (n := 1) (Nat.le_of_ble_eq_true rfl)
  rw [lg_entry_eq]
  generalize (lg_sl ([.ref (ad b0)]) ++ List.replicate (1 - (lg_sl ([.ref (ad b0)])).length) Slot.unset).toArray = ls at hl ⊢
  have hl : lv_has ls 1 [(0, .ref (ad b0))] := hl
  show W p l e rm_X2_isOnWay s m _ below meth c s.heap [] 0 0 _ _
  unfold wp_X2_isOnWay at h
  refine lv_aload_n hx hb dX2_isOnWay_0 rfl (lv_at hl 0 rfl) ?_
  refine x_getP C w (i := b0) (k := 2) k0 (by decide) mf_Person_19 dX2_isOnWay_1 ?_
  refine lv_if_eq (tgt := 15) hx hb dX2_isOnWay_4 (by decide) (fun c_1 => ?_) (fun c_1 => ?_)
  · have h := h.1 c_1
    refine lv_iconst (v := 1) hx hb dX2_isOnWay_15 (by decide) ?_
    refine lv_goto (tgt := 20) hx hb dX2_isOnWay_16 (by decide) ?_
    exact x_zret C w (show bz 1 from Or.inr rfl) h dX2_isOnWay_20
  · have h := h.2 c_1
    refine lv_aload_n hx hb dX2_isOnWay_7 rfl (lv_at hl 0 rfl) ?_
    refine x_getP C w (i := b0) (k := 2) k0 (by decide) mf_Person_19 dX2_isOnWay_8 ?_
    refine lv_iconst (v := 1) hx hb dX2_isOnWay_11 (by decide) ?_
    refine lv_icmp_ne (tgt := 19) hx hb dX2_isOnWay_12 (by decide) (fun c_2 => ?_) (fun c_2 => ?_)
    · have h := h.1 c_2
      refine lv_iconst (v := 0) hx hb dX2_isOnWay_19 (by decide) ?_
      exact x_zret C w (show bz 0 from Or.inl rfl) h dX2_isOnWay_20
    · have h := h.2 c_2
      refine lv_iconst (v := 1) hx hb dX2_isOnWay_15 (by decide) ?_
      refine lv_goto (tgt := 20) hx hb dX2_isOnWay_16 (by decide) ?_
      exact x_zret C w (show bz 1 from Or.inr rfl) h dX2_isOnWay_20
abbrev rm_X2_standsOn : Room := { frames := 0, cells := 0, slots := 0, locals := 0 }
noncomputable def wp_X2_standsOn (b0 : Nat) (a1 : Int32) (μ : Mem) (K : Int32 → Mem → Prop) : Prop :=
    ((¬ (μ b0 2) = 1 → K 0 μ) ∧ ((μ b0 2) = 1 → ((¬ (μ b0 3) = a1 → K 0 μ) ∧ ((μ b0 3) = a1 → K 1 μ))))
set_option maxHeartbeats 4000000 in
set_option maxRecDepth 100000 in
theorem c_X2_standsOn (l : Launch) (g : Gv) (ad : Nat → Nat) (μ : Mem) (sz : Nat) (b0 : Nat) (k0 : kd b0 = 13) (a1 : Int32) {K : Int32 → Mem → Prop} (h : wp_X2_standsOn b0 a1 μ K) : Met l yX2_standsOn (wX yX2_standsOn cX2_standsOn 2 (some .boolean)) rm_X2_standsOn (Pre g ad μ sz [.ref (ad b0), .int a1]) (PostI g ad sz K) 0 0 (Aw ad sz) := by
  refine Met.ofW (cc := cX2_standsOn) (maxL := 2) (ret := (some .boolean)) (by decide) rfl ?_
  intro p e s m args below meth c s₁ B hml hv
  obtain ⟨rfl, rfl, C, w⟩ := x_start B hml hv
  obtain ⟨hx, hb, hml, -, hts, hown, -, -, hN⟩ := id C
  have hl := lv_entry ([.ref (ad b0), .int a1]) (n := 2) (Nat.le_of_ble_eq_true rfl)
  rw [lg_entry_eq]
  generalize (lg_sl ([.ref (ad b0), .int a1]) ++ List.replicate (2 - (lg_sl ([.ref (ad b0), .int a1])).length) Slot.unset).toArray = ls at hl ⊢
  have hl : lv_has ls 2 [(0, .ref (ad b0)), (1, .int a1)] := hl
  show W p l e rm_X2_standsOn s m _ below meth c s.heap [] 0 0 _ _
  unfold wp_X2_standsOn at h
  refine lv_aload_n hx hb dX2_standsOn_0 rfl (lv_at hl 0 rfl) ?_
  refine x_getP C w (i := b0) (k := 2) k0 (by decide) mf_Person_19 dX2_standsOn_1 ?_
  refine lv_iconst (v := 1) hx hb dX2_standsOn_4 (by decide) ?_
  refine lv_icmp_ne (tgt := 20) hx hb dX2_standsOn_5 (by decide) (fun c_1 => ?_) (fun c_1 => ?_)
  · have h := h.1 c_1
    refine lv_iconst (v := 0) hx hb dX2_standsOn_20 (by decide) ?_
    exact x_zret C w (show bz 0 from Or.inl rfl) h dX2_standsOn_21
  · have h := h.2 c_1
    refine lv_aload_n hx hb dX2_standsOn_8 rfl (lv_at hl 0 rfl) ?_
    refine x_getP C w (i := b0) (k := 3) k0 (by decide) mf_Person_22 dX2_standsOn_9 ?_
    refine lv_iload_n hx hb dX2_standsOn_12 rfl (lv_at hl 1 rfl) ?_
    refine lv_icmp_ne (tgt := 20) hx hb dX2_standsOn_13 (by decide) (fun c_2 => ?_) (fun c_2 => ?_)
    · have h := h.1 c_2
      refine lv_iconst (v := 0) hx hb dX2_standsOn_20 (by decide) ?_
      exact x_zret C w (show bz 0 from Or.inl rfl) h dX2_standsOn_21
    · have h := h.2 c_2
      refine lv_iconst (v := 1) hx hb dX2_standsOn_16 (by decide) ?_
      refine lv_goto (tgt := 21) hx hb dX2_standsOn_17 (by decide) ?_
      exact x_zret C w (show bz 1 from Or.inr rfl) h dX2_standsOn_21
abbrev rm_X2_nextStep : Room := { frames := 0, cells := 0, slots := 0, locals := 0 }
noncomputable def wp_X2_nextStep (b0 : Nat) (μ : Mem) (K : Int32 → Mem → Prop) : Prop :=
    (((μ b0 1) = 0 → K ((μ b0 3) - 1) μ) ∧ (¬ (μ b0 1) = 0 → K ((μ b0 3) + 1) μ))
set_option maxHeartbeats 4000000 in
set_option maxRecDepth 100000 in
theorem c_X2_nextStep (l : Launch) (g : Gv) (ad : Nat → Nat) (μ : Mem) (sz : Nat) (b0 : Nat) (k0 : kd b0 = 13) {K : Int32 → Mem → Prop} (h : wp_X2_nextStep b0 μ K) : Met l yX2_nextStep (wX yX2_nextStep cX2_nextStep 1 (some .int)) rm_X2_nextStep (Pre g ad μ sz [.ref (ad b0)]) (PostI g ad sz K) 0 0 (Aw ad sz) := by
  refine Met.ofW (cc := cX2_nextStep) (maxL := 1) (ret := (some .int)) (by decide) rfl ?_
  intro p e s m args below meth c s₁ B hml hv
  obtain ⟨rfl, rfl, C, w⟩ := x_start B hml hv
  obtain ⟨hx, hb, hml, -, hts, hown, -, -, hN⟩ := id C
  have hl := lv_entry ([.ref (ad b0)]) (n := 1) (Nat.le_of_ble_eq_true rfl)
  rw [lg_entry_eq]
  generalize (lg_sl ([.ref (ad b0)]) ++ List.replicate (1 - (lg_sl ([.ref (ad b0)])).length) Slot.unset).toArray = ls at hl ⊢
  have hl : lv_has ls 1 [(0, .ref (ad b0))] := hl
  show W p l e rm_X2_nextStep s m _ below meth c s.heap [] 0 0 _ _
  unfold wp_X2_nextStep at h
  refine lv_aload_n hx hb dX2_nextStep_0 rfl (lv_at hl 0 rfl) ?_
  refine x_getP C w (i := b0) (k := 1) k0 (by decide) mf_Person_15 dX2_nextStep_1 ?_
  refine lv_if_eq (tgt := 16) hx hb dX2_nextStep_4 (by decide) (fun c_1 => ?_) (fun c_1 => ?_)
  · have h := h.1 c_1
    refine lv_aload_n hx hb dX2_nextStep_16 rfl (lv_at hl 0 rfl) ?_
    refine x_getP C w (i := b0) (k := 3) k0 (by decide) mf_Person_22 dX2_nextStep_17 ?_
    refine lv_iconst (v := 1) hx hb dX2_nextStep_20 (by decide) ?_
    refine lv_isub hx hb dX2_nextStep_21 ?_
    exact x_iret C w h dX2_nextStep_22
  · have h := h.2 c_1
    refine lv_aload_n hx hb dX2_nextStep_7 rfl (lv_at hl 0 rfl) ?_
    refine x_getP C w (i := b0) (k := 3) k0 (by decide) mf_Person_22 dX2_nextStep_8 ?_
    refine lv_iconst (v := 1) hx hb dX2_nextStep_11 (by decide) ?_
    refine lv_iadd hx hb dX2_nextStep_12 ?_
    refine lv_goto (tgt := 22) hx hb dX2_nextStep_13 (by decide) ?_
    exact x_iret C w h dX2_nextStep_22
abbrev rm_X2_stepBehind : Room := { frames := 0, cells := 0, slots := 0, locals := 0 }
noncomputable def wp_X2_stepBehind (b0 : Nat) (μ : Mem) (K : Int32 → Mem → Prop) : Prop :=
    (((μ b0 1) = 0 → K ((μ b0 3) + 1) μ) ∧ (¬ (μ b0 1) = 0 → K ((μ b0 3) - 1) μ))
set_option maxHeartbeats 4000000 in
set_option maxRecDepth 100000 in
theorem c_X2_stepBehind (l : Launch) (g : Gv) (ad : Nat → Nat) (μ : Mem) (sz : Nat) (b0 : Nat) (k0 : kd b0 = 13) {K : Int32 → Mem → Prop} (h : wp_X2_stepBehind b0 μ K) : Met l yX2_stepBehind (wX yX2_stepBehind cX2_stepBehind 1 (some .int)) rm_X2_stepBehind (Pre g ad μ sz [.ref (ad b0)]) (PostI g ad sz K) 0 0 (Aw ad sz) := by
  refine Met.ofW (cc := cX2_stepBehind) (maxL := 1) (ret := (some .int)) (by decide) rfl ?_
  intro p e s m args below meth c s₁ B hml hv
  obtain ⟨rfl, rfl, C, w⟩ := x_start B hml hv
  obtain ⟨hx, hb, hml, -, hts, hown, -, -, hN⟩ := id C
  have hl := lv_entry ([.ref (ad b0)]) (n := 1) (Nat.le_of_ble_eq_true rfl)
  rw [lg_entry_eq]
  generalize (lg_sl ([.ref (ad b0)]) ++ List.replicate (1 - (lg_sl ([.ref (ad b0)])).length) Slot.unset).toArray = ls at hl ⊢
  have hl : lv_has ls 1 [(0, .ref (ad b0))] := hl
  show W p l e rm_X2_stepBehind s m _ below meth c s.heap [] 0 0 _ _
  unfold wp_X2_stepBehind at h
  refine lv_aload_n hx hb dX2_stepBehind_0 rfl (lv_at hl 0 rfl) ?_
  refine x_getP C w (i := b0) (k := 1) k0 (by decide) mf_Person_15 dX2_stepBehind_1 ?_
  refine lv_if_eq (tgt := 16) hx hb dX2_stepBehind_4 (by decide) (fun c_1 => ?_) (fun c_1 => ?_)
  · have h := h.1 c_1
    refine lv_aload_n hx hb dX2_stepBehind_16 rfl (lv_at hl 0 rfl) ?_
    refine x_getP C w (i := b0) (k := 3) k0 (by decide) mf_Person_22 dX2_stepBehind_17 ?_
    refine lv_iconst (v := 1) hx hb dX2_stepBehind_20 (by decide) ?_
    refine lv_iadd hx hb dX2_stepBehind_21 ?_
    exact x_iret C w h dX2_stepBehind_22
  · have h := h.2 c_1
    refine lv_aload_n hx hb dX2_stepBehind_7 rfl (lv_at hl 0 rfl) ?_
    refine x_getP C w (i := b0) (k := 3) k0 (by decide) mf_Person_22 dX2_stepBehind_8 ?_
    refine lv_iconst (v := 1) hx hb dX2_stepBehind_11 (by decide) ?_
    refine lv_isub hx hb dX2_stepBehind_12 ?_
    refine lv_goto (tgt := 22) hx hb dX2_stepBehind_13 (by decide) ?_
    exact x_iret C w h dX2_stepBehind_22
abbrev rm_X2_yieldsTo : Room := { frames := 0, cells := 0, slots := 0, locals := 0 }
noncomputable def wp_X2_yieldsTo (b0 : Nat) (a1 : Nat) (μ : Mem) (K : Int32 → Mem → Prop) : Prop :=
    (((μ b0 1) = (μ a1 1) → K 0 μ) ∧ (¬ (μ b0 1) = (μ a1 1) → (((μ b0 0) < (μ a1 0) → K 1 μ) ∧ (¬ (μ b0 0) < (μ a1 0) → ((¬ (μ a1 0) = (μ b0 0) → K 0 μ) ∧ ((μ a1 0) = (μ b0 0) → ((¬ (μ a1 1) = 0 → K 0 μ) ∧ ((μ a1 1) = 0 → K 1 μ))))))))
set_option maxHeartbeats 4000000 in
set_option maxRecDepth 100000 in
theorem c_X2_yieldsTo (l : Launch) (g : Gv) (ad : Nat → Nat) (μ : Mem) (sz : Nat) (b0 : Nat) (k0 : kd b0 = 13) (a1 : Nat) (k1 : kd a1 = 13) {K : Int32 → Mem → Prop} (h : wp_X2_yieldsTo b0 a1 μ K) : Met l yX2_yieldsTo (wX yX2_yieldsTo cX2_yieldsTo 2 (some .boolean)) rm_X2_yieldsTo (Pre g ad μ sz [.ref (ad b0), .ref (ad a1)]) (PostI g ad sz K) 0 0 (Aw ad sz) := by
  refine Met.ofW (cc := cX2_yieldsTo) (maxL := 2) (ret := (some .boolean)) (by decide) rfl ?_
  intro p e s m args below meth c s₁ B hml hv
  obtain ⟨rfl, rfl, C, w⟩ := x_start B hml hv
  obtain ⟨hx, hb, hml, -, hts, hown, -, -, hN⟩ := id C
  have hl := lv_entry ([.ref (ad b0), .ref (ad a1)]) (n := 2) (Nat.le_of_ble_eq_true rfl)
  rw [lg_entry_eq]
  generalize (lg_sl ([.ref (ad b0), .ref (ad a1)]) ++ List.replicate (2 - (lg_sl ([.ref (ad b0), .ref (ad a1)])).length) Slot.unset).toArray = ls at hl ⊢
  have hl : lv_has ls 2 [(0, .ref (ad b0)), (1, .ref (ad a1))] := hl
  show W p l e rm_X2_yieldsTo s m _ below meth c s.heap [] 0 0 _ _
  unfold wp_X2_yieldsTo at h
  refine lv_aload_n hx hb dX2_yieldsTo_0 rfl (lv_at hl 0 rfl) ?_
  refine x_getP C w (i := b0) (k := 1) k0 (by decide) mf_Person_15 dX2_yieldsTo_1 ?_
  refine lv_aload_n hx hb dX2_yieldsTo_4 rfl (lv_at hl 1 rfl) ?_
  refine x_getP C w (i := a1) (k := 1) k1 (by decide) mf_Person_15 dX2_yieldsTo_5 ?_
  refine lv_icmp_eq (tgt := 44) hx hb dX2_yieldsTo_8 (by decide) (fun c_1 => ?_) (fun c_1 => ?_)
  · have h := h.1 c_1
    refine lv_iconst (v := 0) hx hb dX2_yieldsTo_44 (by decide) ?_
    exact x_zret C w (show bz 0 from Or.inl rfl) h dX2_yieldsTo_45
  · have h := h.2 c_1
    refine lv_aload_n hx hb dX2_yieldsTo_11 rfl (lv_at hl 1 rfl) ?_
    refine x_getP C w (i := a1) (k := 0) k1 (by decide) mf_Person_9 dX2_yieldsTo_12 ?_
    refine lv_aload_n hx hb dX2_yieldsTo_15 rfl (lv_at hl 0 rfl) ?_
    refine x_getP C w (i := b0) (k := 0) k0 (by decide) mf_Person_9 dX2_yieldsTo_16 ?_
    refine lv_icmp_gt (tgt := 40) hx hb dX2_yieldsTo_19 (by decide) (fun c_2 => ?_) (fun c_2 => ?_)
    · have h := h.1 c_2
      refine lv_iconst (v := 1) hx hb dX2_yieldsTo_40 (by decide) ?_
      refine lv_goto (tgt := 45) hx hb dX2_yieldsTo_41 (by decide) ?_
      exact x_zret C w (show bz 1 from Or.inr rfl) h dX2_yieldsTo_45
    · have h := h.2 c_2
      refine lv_aload_n hx hb dX2_yieldsTo_22 rfl (lv_at hl 1 rfl) ?_
      refine x_getP C w (i := a1) (k := 0) k1 (by decide) mf_Person_9 dX2_yieldsTo_23 ?_
      refine lv_aload_n hx hb dX2_yieldsTo_26 rfl (lv_at hl 0 rfl) ?_
      refine x_getP C w (i := b0) (k := 0) k0 (by decide) mf_Person_9 dX2_yieldsTo_27 ?_
      refine lv_icmp_ne (tgt := 44) hx hb dX2_yieldsTo_30 (by decide) (fun c_3 => ?_) (fun c_3 => ?_)
      · have h := h.1 c_3
        refine lv_iconst (v := 0) hx hb dX2_yieldsTo_44 (by decide) ?_
        exact x_zret C w (show bz 0 from Or.inl rfl) h dX2_yieldsTo_45
      · have h := h.2 c_3
        refine lv_aload_n hx hb dX2_yieldsTo_33 rfl (lv_at hl 1 rfl) ?_
        refine x_getP C w (i := a1) (k := 1) k1 (by decide) mf_Person_15 dX2_yieldsTo_34 ?_
        refine lv_if_ne (tgt := 44) hx hb dX2_yieldsTo_37 (by decide) (fun c_4 => ?_) (fun c_4 => ?_)
        · have h := h.1 c_4
          refine lv_iconst (v := 0) hx hb dX2_yieldsTo_44 (by decide) ?_
          exact x_zret C w (show bz 0 from Or.inl rfl) h dX2_yieldsTo_45
        · have h := h.2 c_4
          refine lv_iconst (v := 1) hx hb dX2_yieldsTo_40 (by decide) ?_
          refine lv_goto (tgt := 45) hx hb dX2_yieldsTo_41 (by decide) ?_
          exact x_zret C w (show bz 1 from Or.inr rfl) h dX2_yieldsTo_45
abbrev rm_X2_stay : Room := { frames := 0, cells := 0, slots := 0, locals := 0 }
noncomputable def wp_X2_stay (b0 : Nat) (μ : Mem) (K : Mem → Prop) : Prop :=
    (∀ m_1, m_1 = up2 μ b0 9 3 → (∀ m_3, m_3 = up2 m_1 b0 4 ((m_1 b0 4) + 1) → (∀ m_5, m_5 = up2 m_3 b0 8 ((m_3 b0 8) + 1) → K m_5)))
set_option maxHeartbeats 4000000 in
set_option maxRecDepth 100000 in
theorem c_X2_stay (l : Launch) (g : Gv) (ad : Nat → Nat) (μ : Mem) (sz : Nat) (b0 : Nat) (k0 : kd b0 = 13) {K : Mem → Prop} (h : wp_X2_stay b0 μ K) : Met l yX2_stay (wX yX2_stay cX2_stay 1 none) rm_X2_stay (Pre g ad μ sz [.ref (ad b0)]) (PostV g ad sz K) 0 0 (Aw ad sz) := by
  refine Met.ofW (cc := cX2_stay) (maxL := 1) (ret := none) (by decide) rfl ?_
  intro p e s m args below meth c s₁ B hml hv
  obtain ⟨rfl, rfl, C, w⟩ := x_start B hml hv
  obtain ⟨hx, hb, hml, -, hts, hown, -, -, hN⟩ := id C
  have hl := lv_entry ([.ref (ad b0)]) (n := 1) (Nat.le_of_ble_eq_true rfl)
  rw [lg_entry_eq]
  generalize (lg_sl ([.ref (ad b0)]) ++ List.replicate (1 - (lg_sl ([.ref (ad b0)])).length) Slot.unset).toArray = ls at hl ⊢
  have hl : lv_has ls 1 [(0, .ref (ad b0))] := hl
  show W p l e rm_X2_stay s m _ below meth c s.heap [] 0 0 _ _
  unfold wp_X2_stay at h
  refine lv_aload_n hx hb dX2_stay_0 rfl (lv_at hl 0 rfl) ?_
  refine lv_iconst (v := 3) hx hb dX2_stay_1 (by decide) ?_
  refine x_putP C w (i := b0) (k := 9) k0 (by decide) mf_Person_40 rfl rfl rfl rfl dX2_stay_2 (fun m_1 e_2 H locs w => ?_)
  have h := h m_1 e_2
  refine lv_aload_n hx hb dX2_stay_5 rfl (lv_at hl 0 rfl) ?_
  refine lv_dup hx hb dX2_stay_6 rfl ?_
  refine x_getP C w (i := b0) (k := 4) k0 (by decide) mf_Person_25 dX2_stay_7 ?_
  refine lv_iconst (v := 1) hx hb dX2_stay_10 (by decide) ?_
  refine lv_iadd hx hb dX2_stay_11 ?_
  refine x_putP C w (i := b0) (k := 4) k0 (by decide) mf_Person_25 rfl rfl rfl rfl dX2_stay_12 (fun m_3 e_4 H locs w => ?_)
  have h := h m_3 e_4
  refine lv_aload_n hx hb dX2_stay_15 rfl (lv_at hl 0 rfl) ?_
  refine lv_dup hx hb dX2_stay_16 rfl ?_
  refine x_getP C w (i := b0) (k := 8) k0 (by decide) mf_Person_37 dX2_stay_17 ?_
  refine lv_iconst (v := 1) hx hb dX2_stay_20 (by decide) ?_
  refine lv_iadd hx hb dX2_stay_21 ?_
  refine x_putP C w (i := b0) (k := 8) k0 (by decide) mf_Person_37 rfl rfl rfl rfl dX2_stay_22 (fun m_5 e_6 H locs w => ?_)
  have h := h m_5 e_6
  exact x_vret C w h dX2_stay_25
abbrev rm_X2_bow : Room := { frames := 0, cells := 0, slots := 0, locals := 0 }
noncomputable def wp_X2_bow (b0 : Nat) (a1 : Int32) (μ : Mem) (K : Mem → Prop) : Prop :=
    (∀ m_1, m_1 = up2 μ b0 5 ((μ b0 5) + 1) → (∀ m_3, m_3 = up2 m_1 b0 6 ((m_1 b0 6) + a1) → K m_3))
set_option maxHeartbeats 4000000 in
set_option maxRecDepth 100000 in
theorem c_X2_bow (l : Launch) (g : Gv) (ad : Nat → Nat) (μ : Mem) (sz : Nat) (b0 : Nat) (k0 : kd b0 = 13) (a1 : Int32) {K : Mem → Prop} (h : wp_X2_bow b0 a1 μ K) : Met l yX2_bow (wX yX2_bow cX2_bow 2 none) rm_X2_bow (Pre g ad μ sz [.ref (ad b0), .int a1]) (PostV g ad sz K) 0 0 (Aw ad sz) := by
  refine Met.ofW (cc := cX2_bow) (maxL := 2) (ret := none) (by decide) rfl ?_
  intro p e s m args below meth c s₁ B hml hv
  obtain ⟨rfl, rfl, C, w⟩ := x_start B hml hv
  obtain ⟨hx, hb, hml, -, hts, hown, -, -, hN⟩ := id C
  have hl := lv_entry ([.ref (ad b0), .int a1]) (n := 2) (Nat.le_of_ble_eq_true rfl)
  rw [lg_entry_eq]
  generalize (lg_sl ([.ref (ad b0), .int a1]) ++ List.replicate (2 - (lg_sl ([.ref (ad b0), .int a1])).length) Slot.unset).toArray = ls at hl ⊢
  have hl : lv_has ls 2 [(0, .ref (ad b0)), (1, .int a1)] := hl
  show W p l e rm_X2_bow s m _ below meth c s.heap [] 0 0 _ _
  unfold wp_X2_bow at h
  refine lv_aload_n hx hb dX2_bow_0 rfl (lv_at hl 0 rfl) ?_
  refine lv_dup hx hb dX2_bow_1 rfl ?_
  refine x_getP C w (i := b0) (k := 5) k0 (by decide) mf_Person_28 dX2_bow_2 ?_
  refine lv_iconst (v := 1) hx hb dX2_bow_5 (by decide) ?_
  refine lv_iadd hx hb dX2_bow_6 ?_
  refine x_putP C w (i := b0) (k := 5) k0 (by decide) mf_Person_28 rfl rfl rfl rfl dX2_bow_7 (fun m_1 e_2 H locs w => ?_)
  have h := h m_1 e_2
  refine lv_aload_n hx hb dX2_bow_10 rfl (lv_at hl 0 rfl) ?_
  refine lv_dup hx hb dX2_bow_11 rfl ?_
  refine x_getP C w (i := b0) (k := 6) k0 (by decide) mf_Person_31 dX2_bow_12 ?_
  refine lv_iload_n hx hb dX2_bow_15 rfl (lv_at hl 1 rfl) ?_
  refine lv_iadd hx hb dX2_bow_16 ?_
  refine x_putP C w (i := b0) (k := 6) k0 (by decide) mf_Person_31 rfl rfl rfl rfl dX2_bow_17 (fun m_3 e_4 H locs w => ?_)
  have h := h m_3 e_4
  exact x_vret C w h dX2_bow_20
abbrev rm_X2_tell : Room := { frames := 1, cells := 0, slots := 0, locals := 20 }
noncomputable def wp_X2_tell (b0 : Nat) (a1 : Int32) (μ : Mem) (K : Int32 → Mem → Prop) : Prop :=
    (((a1.toInt < 0 ∨ 8 < a1.toInt) → K (-2) μ) ∧ (a1.toInt = 0 → K (μ b0 0) μ) ∧ (a1.toInt = 1 → (((μ b0 1) = 0 → K 0 μ) ∧ (¬ (μ b0 1) = 0 → K 1 μ))) ∧ (a1.toInt = 2 → K (μ b0 2) μ) ∧ (a1.toInt = 3 → ((¬ (μ b0 2) = 1 → K (-6) μ) ∧ ((μ b0 2) = 1 → K (μ b0 3) μ))) ∧ (a1.toInt = 4 → K (μ b0 4) μ) ∧ (a1.toInt = 5 → K (μ b0 5) μ) ∧ (a1.toInt = 6 → K (μ b0 6) μ) ∧ (a1.toInt = 7 → (wp_X2_isOnWay b0 μ (fun r_12 m_11 => ((r_12 = 0 → K (m_11 b0 7) m_11) ∧ (¬ r_12 = 0 → K (-6) m_11))))) ∧ (a1.toInt = 8 → K (μ b0 8) μ))
set_option maxHeartbeats 4000000 in
set_option maxRecDepth 100000 in
theorem c_X2_tell (l : Launch) (g : Gv) (ad : Nat → Nat) (μ : Mem) (sz : Nat) (b0 : Nat) (k0 : kd b0 = 13) (a1 : Int32) {K : Int32 → Mem → Prop} (h : wp_X2_tell b0 a1 μ K) : Met l yX2_tell (wX yX2_tell cX2_tell 2 (some .int)) rm_X2_tell (Pre g ad μ sz [.ref (ad b0), .int a1]) (PostI g ad sz K) 0 0 (Aw ad sz) := by
  refine Met.ofW (cc := cX2_tell) (maxL := 2) (ret := (some .int)) (by decide) rfl ?_
  intro p e s m args below meth c s₁ B hml hv
  obtain ⟨rfl, rfl, C, w⟩ := x_start B hml hv
  obtain ⟨hx, hb, hml, -, hts, hown, -, -, hN⟩ := id C
  have hl := lv_entry ([.ref (ad b0), .int a1]) (n := 2) (Nat.le_of_ble_eq_true rfl)
  rw [lg_entry_eq]
  generalize (lg_sl ([.ref (ad b0), .int a1]) ++ List.replicate (2 - (lg_sl ([.ref (ad b0), .int a1])).length) Slot.unset).toArray = ls at hl ⊢
  have hl : lv_has ls 2 [(0, .ref (ad b0)), (1, .int a1)] := hl
  show W p l e rm_X2_tell s m _ below meth c s.heap [] 0 0 _ _
  unfold wp_X2_tell at h
  refine lv_iload_n hx hb dX2_tell_0 rfl (lv_at hl 1 rfl) ?_
  by_cases c_1 : a1.toInt < 0 ∨ 8 < a1.toInt
  · have h := h.1 c_1
    refine lv_tableOut (tgt := 130) hx hb dX2_tell_1 c_1 (by decide) ?_
    refine lv_bipush (v := -2) hx hb dX2_tell_130 (by decide) ?_
    exact x_iret C w h dX2_tell_132
  · by_cases c_2 : a1.toInt = 0
    · have h := h.2.1 c_2
      refine lv_tableIn (off := 51) (tgt := 52) hx hb dX2_tell_1 (by omega) (by omega) (by rw [c_2]; rfl) (by decide) ?_
      refine lv_aload_n hx hb dX2_tell_52 rfl (lv_at hl 0 rfl) ?_
      refine x_getP C w (i := b0) (k := 0) k0 (by decide) mf_Person_9 dX2_tell_53 ?_
      exact x_iret C w h dX2_tell_56
    · by_cases c_4 : a1.toInt = 1
      · have h := h.2.2.1 c_4
        refine lv_tableIn (off := 56) (tgt := 57) hx hb dX2_tell_1 (by omega) (by omega) (by rw [c_4]; rfl) (by decide) ?_
        refine lv_aload_n hx hb dX2_tell_57 rfl (lv_at hl 0 rfl) ?_
        refine x_getP C w (i := b0) (k := 1) k0 (by decide) mf_Person_15 dX2_tell_58 ?_
        refine lv_if_eq (tgt := 68) hx hb dX2_tell_61 (by decide) (fun c_3 => ?_) (fun c_3 => ?_)
        · have h := h.1 c_3
          refine lv_iconst (v := 0) hx hb dX2_tell_68 (by decide) ?_
          exact x_iret C w h dX2_tell_69
        · have h := h.2 c_3
          refine lv_iconst (v := 1) hx hb dX2_tell_64 (by decide) ?_
          refine lv_goto (tgt := 69) hx hb dX2_tell_65 (by decide) ?_
          exact x_iret C w h dX2_tell_69
      · by_cases c_5 : a1.toInt = 2
        · have h := h.2.2.2.1 c_5
          refine lv_tableIn (off := 69) (tgt := 70) hx hb dX2_tell_1 (by omega) (by omega) (by rw [c_5]; rfl) (by decide) ?_
          refine lv_aload_n hx hb dX2_tell_70 rfl (lv_at hl 0 rfl) ?_
          refine x_getP C w (i := b0) (k := 2) k0 (by decide) mf_Person_19 dX2_tell_71 ?_
          exact x_iret C w h dX2_tell_74
        · by_cases c_7 : a1.toInt = 3
          · have h := h.2.2.2.2.1 c_7
            refine lv_tableIn (off := 74) (tgt := 75) hx hb dX2_tell_1 (by omega) (by omega) (by rw [c_7]; rfl) (by decide) ?_
            refine lv_aload_n hx hb dX2_tell_75 rfl (lv_at hl 0 rfl) ?_
            refine x_getP C w (i := b0) (k := 2) k0 (by decide) mf_Person_19 dX2_tell_76 ?_
            refine lv_iconst (v := 1) hx hb dX2_tell_79 (by decide) ?_
            refine lv_icmp_ne (tgt := 90) hx hb dX2_tell_80 (by decide) (fun c_6 => ?_) (fun c_6 => ?_)
            · have h := h.1 c_6
              refine lv_bipush (v := -6) hx hb dX2_tell_90 (by decide) ?_
              exact x_iret C w h dX2_tell_92
            · have h := h.2 c_6
              refine lv_aload_n hx hb dX2_tell_83 rfl (lv_at hl 0 rfl) ?_
              refine x_getP C w (i := b0) (k := 3) k0 (by decide) mf_Person_22 dX2_tell_84 ?_
              refine lv_goto (tgt := 92) hx hb dX2_tell_87 (by decide) ?_
              exact x_iret C w h dX2_tell_92
          · by_cases c_8 : a1.toInt = 4
            · have h := h.2.2.2.2.2.1 c_8
              refine lv_tableIn (off := 92) (tgt := 93) hx hb dX2_tell_1 (by omega) (by omega) (by rw [c_8]; rfl) (by decide) ?_
              refine lv_aload_n hx hb dX2_tell_93 rfl (lv_at hl 0 rfl) ?_
              refine x_getP C w (i := b0) (k := 4) k0 (by decide) mf_Person_25 dX2_tell_94 ?_
              exact x_iret C w h dX2_tell_97
            · by_cases c_9 : a1.toInt = 5
              · have h := h.2.2.2.2.2.2.1 c_9
                refine lv_tableIn (off := 97) (tgt := 98) hx hb dX2_tell_1 (by omega) (by omega) (by rw [c_9]; rfl) (by decide) ?_
                refine lv_aload_n hx hb dX2_tell_98 rfl (lv_at hl 0 rfl) ?_
                refine x_getP C w (i := b0) (k := 5) k0 (by decide) mf_Person_28 dX2_tell_99 ?_
                exact x_iret C w h dX2_tell_102
              · by_cases c_10 : a1.toInt = 6
                · have h := h.2.2.2.2.2.2.2.1 c_10
                  refine lv_tableIn (off := 102) (tgt := 103) hx hb dX2_tell_1 (by omega) (by omega) (by rw [c_10]; rfl) (by decide) ?_
                  refine lv_aload_n hx hb dX2_tell_103 rfl (lv_at hl 0 rfl) ?_
                  refine x_getP C w (i := b0) (k := 6) k0 (by decide) mf_Person_31 dX2_tell_104 ?_
                  exact x_iret C w h dX2_tell_107
                · by_cases c_14 : a1.toInt = 7
                  · have h := h.2.2.2.2.2.2.2.2.1 c_14
                    refine lv_tableIn (off := 107) (tgt := 108) hx hb dX2_tell_1 (by omega) (by omega) (by rw [c_14]; rfl) (by decide) ?_
                    refine lv_aload_n hx hb dX2_tell_108 rfl (lv_at hl 0 rfl) ?_
                    refine x_calli C w (x_runV (i := b0) (As := []) (rest := []) C w k0 (by decide) (ci := 2) rfl rfl rfl me_X2_isOnWay ml_Person_43 (c_X2_isOnWay l g ad μ _ b0 k0 h) ⟨rfl, rfl⟩ ⟨Nat.le_of_ble_eq_true rfl, Nat.le_of_ble_eq_true rfl⟩ rfl hl.1 rfl (Nat.le_of_ble_eq_true rfl) dX2_tell_109 ⟨Nat.le_of_ble_eq_true rfl, Nat.le_of_ble_eq_true rfl⟩) (fun r_12 m_11 h H locs w => ?_)
                    refine lv_if_eq (tgt := 120) hx hb dX2_tell_112 (by decide) (fun c_13 => ?_) (fun c_13 => ?_)
                    · have h := h.1 c_13
                      refine lv_aload_n hx hb dX2_tell_120 rfl (lv_at hl 0 rfl) ?_
                      refine x_getP C w (i := b0) (k := 7) k0 (by decide) mf_Person_34 dX2_tell_121 ?_
                      exact x_iret C w h dX2_tell_124
                    · have h := h.2 c_13
                      refine lv_bipush (v := -6) hx hb dX2_tell_115 (by decide) ?_
                      refine lv_goto (tgt := 124) hx hb dX2_tell_117 (by decide) ?_
                      exact x_iret C w h dX2_tell_124
                  · have c_15 : a1.toInt = 8 := by omega
                    have h := h.2.2.2.2.2.2.2.2.2 c_15
                    refine lv_tableIn (off := 124) (tgt := 125) hx hb dX2_tell_1 (by omega) (by omega) (by rw [c_15]; rfl) (by decide) ?_
                    refine lv_aload_n hx hb dX2_tell_125 rfl (lv_at hl 0 rfl) ?_
                    refine x_getP C w (i := b0) (k := 8) k0 (by decide) mf_Person_37 dX2_tell_126 ?_
                    exact x_iret C w h dX2_tell_129
abbrev rm_J6_bitCount_0f7a4 : Room := { frames := 0, cells := 0, slots := 0, locals := 0 }
noncomputable def wp_J6_bitCount_0f7a4 (a0 : Int32) (μ : Mem) (K : Int32 → Mem → Prop) : Prop :=
    K ((((((((a0 - ((isr a0 1) &&& 1431655765)) &&& 858993459) + ((isr (a0 - ((isr a0 1) &&& 1431655765)) 2) &&& 858993459)) + (isr (((a0 - ((isr a0 1) &&& 1431655765)) &&& 858993459) + ((isr (a0 - ((isr a0 1) &&& 1431655765)) 2) &&& 858993459)) 4)) &&& 252645135) + (isr (((((a0 - ((isr a0 1) &&& 1431655765)) &&& 858993459) + ((isr (a0 - ((isr a0 1) &&& 1431655765)) 2) &&& 858993459)) + (isr (((a0 - ((isr a0 1) &&& 1431655765)) &&& 858993459) + ((isr (a0 - ((isr a0 1) &&& 1431655765)) 2) &&& 858993459)) 4)) &&& 252645135) 8)) + (isr ((((((a0 - ((isr a0 1) &&& 1431655765)) &&& 858993459) + ((isr (a0 - ((isr a0 1) &&& 1431655765)) 2) &&& 858993459)) + (isr (((a0 - ((isr a0 1) &&& 1431655765)) &&& 858993459) + ((isr (a0 - ((isr a0 1) &&& 1431655765)) 2) &&& 858993459)) 4)) &&& 252645135) + (isr (((((a0 - ((isr a0 1) &&& 1431655765)) &&& 858993459) + ((isr (a0 - ((isr a0 1) &&& 1431655765)) 2) &&& 858993459)) + (isr (((a0 - ((isr a0 1) &&& 1431655765)) &&& 858993459) + ((isr (a0 - ((isr a0 1) &&& 1431655765)) 2) &&& 858993459)) 4)) &&& 252645135) 8)) 16)) &&& 63) μ
set_option maxHeartbeats 4000000 in
set_option maxRecDepth 100000 in
theorem c_J6_bitCount_0f7a4 (l : Launch) (g : Gv) (ad : Nat → Nat) (μ : Mem) (sz : Nat) (a0 : Int32) {K : Int32 → Mem → Prop} (h : wp_J6_bitCount_0f7a4 a0 μ K) : Met l yJ6_bitCount_0f7a4 (wX yJ6_bitCount_0f7a4 cJ6_bitCount_0f7a4 1 (some .int)) rm_J6_bitCount_0f7a4 (Pre g ad μ sz [.int a0]) (PostI g ad sz K) 0 0 (Aw ad sz) := by
  refine va_MetF (cc := cJ6_bitCount_0f7a4) (maxL := 1) (ret := (some .int)) (by decide +kernel) rfl ?_
  intro p e s m args below meth c s₁ B hml hv
  obtain ⟨rfl, rfl, C, w⟩ := x_start B hml hv
  obtain ⟨hx, hb, hml, -, hts, hown, -, -, hN⟩ := id C
  have hl := lv_entry ([.int a0]) (n := 1) (Nat.le_of_ble_eq_true rfl)
  rw [lg_entry_eq]
  generalize (lg_sl ([.int a0]) ++ List.replicate (1 - (lg_sl ([.int a0])).length) Slot.unset).toArray = ls at hl ⊢
  have hl : lv_has ls 1 [(0, .int a0)] := hl
  show W p l e rm_J6_bitCount_0f7a4 s m _ below meth c s.heap [] 0 0 _ _
  unfold wp_J6_bitCount_0f7a4 at h
  refine lv_iload_n hx hb dJ6_bitCount_0f7a4_0 rfl (lv_at hl 0 rfl) ?_
  refine lv_iload_n hx hb dJ6_bitCount_0f7a4_1 rfl (lv_at hl 0 rfl) ?_
  refine lv_iconst (v := 1) hx hb dJ6_bitCount_0f7a4_2 (by decide) ?_
  refine lv_iushr (v := (isr a0 1)) hx hb dJ6_bitCount_0f7a4_3 rfl ?_
  refine lv_ldcw (v := 1431655765) hx hb hown (hts _ mk_Integer_265) dJ6_bitCount_0f7a4_4 ?_
  refine lv_iand hx hb dJ6_bitCount_0f7a4_7 ?_
  refine lv_isub hx hb dJ6_bitCount_0f7a4_8 ?_
  refine lv_istore_n (lv' := [(0, .int (a0 - ((isr a0 1) &&& 1431655765)))]) hx hb dJ6_bitCount_0f7a4_9 rfl hl (by decide) rfl (fun ls hl => ?_)
  refine lv_iload_n hx hb dJ6_bitCount_0f7a4_10 rfl (lv_at hl 0 rfl) ?_
  refine lv_ldcw (v := 858993459) hx hb hown (hts _ mk_Integer_266) dJ6_bitCount_0f7a4_11 ?_
  refine lv_iand hx hb dJ6_bitCount_0f7a4_14 ?_
  refine lv_iload_n hx hb dJ6_bitCount_0f7a4_15 rfl (lv_at hl 0 rfl) ?_
  refine lv_iconst (v := 2) hx hb dJ6_bitCount_0f7a4_16 (by decide) ?_
  refine lv_iushr (v := (isr (a0 - ((isr a0 1) &&& 1431655765)) 2)) hx hb dJ6_bitCount_0f7a4_17 rfl ?_
  refine lv_ldcw (v := 858993459) hx hb hown (hts _ mk_Integer_266) dJ6_bitCount_0f7a4_18 ?_
  refine lv_iand hx hb dJ6_bitCount_0f7a4_21 ?_
  refine lv_iadd hx hb dJ6_bitCount_0f7a4_22 ?_
  refine lv_istore_n (lv' := [(0, .int (((a0 - ((isr a0 1) &&& 1431655765)) &&& 858993459) + ((isr (a0 - ((isr a0 1) &&& 1431655765)) 2) &&& 858993459)))]) hx hb dJ6_bitCount_0f7a4_23 rfl hl (by decide) rfl (fun ls hl => ?_)
  refine lv_iload_n hx hb dJ6_bitCount_0f7a4_24 rfl (lv_at hl 0 rfl) ?_
  refine lv_iload_n hx hb dJ6_bitCount_0f7a4_25 rfl (lv_at hl 0 rfl) ?_
  refine lv_iconst (v := 4) hx hb dJ6_bitCount_0f7a4_26 (by decide) ?_
  refine lv_iushr (v := (isr (((a0 - ((isr a0 1) &&& 1431655765)) &&& 858993459) + ((isr (a0 - ((isr a0 1) &&& 1431655765)) 2) &&& 858993459)) 4)) hx hb dJ6_bitCount_0f7a4_27 rfl ?_
  refine lv_iadd hx hb dJ6_bitCount_0f7a4_28 ?_
  refine lv_ldcw (v := 252645135) hx hb hown (hts _ mk_Integer_267) dJ6_bitCount_0f7a4_29 ?_
  refine lv_iand hx hb dJ6_bitCount_0f7a4_32 ?_
  refine lv_istore_n (lv' := [(0, .int (((((a0 - ((isr a0 1) &&& 1431655765)) &&& 858993459) + ((isr (a0 - ((isr a0 1) &&& 1431655765)) 2) &&& 858993459)) + (isr (((a0 - ((isr a0 1) &&& 1431655765)) &&& 858993459) + ((isr (a0 - ((isr a0 1) &&& 1431655765)) 2) &&& 858993459)) 4)) &&& 252645135))]) hx hb dJ6_bitCount_0f7a4_33 rfl hl (by decide) rfl (fun ls hl => ?_)
  refine lv_iload_n hx hb dJ6_bitCount_0f7a4_34 rfl (lv_at hl 0 rfl) ?_
  refine lv_iload_n hx hb dJ6_bitCount_0f7a4_35 rfl (lv_at hl 0 rfl) ?_
  refine lv_bipush (v := 8) hx hb dJ6_bitCount_0f7a4_36 (by decide) ?_
  refine lv_iushr (v := (isr (((((a0 - ((isr a0 1) &&& 1431655765)) &&& 858993459) + ((isr (a0 - ((isr a0 1) &&& 1431655765)) 2) &&& 858993459)) + (isr (((a0 - ((isr a0 1) &&& 1431655765)) &&& 858993459) + ((isr (a0 - ((isr a0 1) &&& 1431655765)) 2) &&& 858993459)) 4)) &&& 252645135) 8)) hx hb dJ6_bitCount_0f7a4_38 rfl ?_
  refine lv_iadd hx hb dJ6_bitCount_0f7a4_39 ?_
  refine lv_istore_n (lv' := [(0, .int ((((((a0 - ((isr a0 1) &&& 1431655765)) &&& 858993459) + ((isr (a0 - ((isr a0 1) &&& 1431655765)) 2) &&& 858993459)) + (isr (((a0 - ((isr a0 1) &&& 1431655765)) &&& 858993459) + ((isr (a0 - ((isr a0 1) &&& 1431655765)) 2) &&& 858993459)) 4)) &&& 252645135) + (isr (((((a0 - ((isr a0 1) &&& 1431655765)) &&& 858993459) + ((isr (a0 - ((isr a0 1) &&& 1431655765)) 2) &&& 858993459)) + (isr (((a0 - ((isr a0 1) &&& 1431655765)) &&& 858993459) + ((isr (a0 - ((isr a0 1) &&& 1431655765)) 2) &&& 858993459)) 4)) &&& 252645135) 8)))]) hx hb dJ6_bitCount_0f7a4_40 rfl hl (by decide) rfl (fun ls hl => ?_)
  refine lv_iload_n hx hb dJ6_bitCount_0f7a4_41 rfl (lv_at hl 0 rfl) ?_
  refine lv_iload_n hx hb dJ6_bitCount_0f7a4_42 rfl (lv_at hl 0 rfl) ?_
  refine lv_bipush (v := 16) hx hb dJ6_bitCount_0f7a4_43 (by decide) ?_
  refine lv_iushr (v := (isr ((((((a0 - ((isr a0 1) &&& 1431655765)) &&& 858993459) + ((isr (a0 - ((isr a0 1) &&& 1431655765)) 2) &&& 858993459)) + (isr (((a0 - ((isr a0 1) &&& 1431655765)) &&& 858993459) + ((isr (a0 - ((isr a0 1) &&& 1431655765)) 2) &&& 858993459)) 4)) &&& 252645135) + (isr (((((a0 - ((isr a0 1) &&& 1431655765)) &&& 858993459) + ((isr (a0 - ((isr a0 1) &&& 1431655765)) 2) &&& 858993459)) + (isr (((a0 - ((isr a0 1) &&& 1431655765)) &&& 858993459) + ((isr (a0 - ((isr a0 1) &&& 1431655765)) 2) &&& 858993459)) 4)) &&& 252645135) 8)) 16)) hx hb dJ6_bitCount_0f7a4_45 rfl ?_
  refine lv_iadd hx hb dJ6_bitCount_0f7a4_46 ?_
  refine lv_istore_n (lv' := [(0, .int (((((((a0 - ((isr a0 1) &&& 1431655765)) &&& 858993459) + ((isr (a0 - ((isr a0 1) &&& 1431655765)) 2) &&& 858993459)) + (isr (((a0 - ((isr a0 1) &&& 1431655765)) &&& 858993459) + ((isr (a0 - ((isr a0 1) &&& 1431655765)) 2) &&& 858993459)) 4)) &&& 252645135) + (isr (((((a0 - ((isr a0 1) &&& 1431655765)) &&& 858993459) + ((isr (a0 - ((isr a0 1) &&& 1431655765)) 2) &&& 858993459)) + (isr (((a0 - ((isr a0 1) &&& 1431655765)) &&& 858993459) + ((isr (a0 - ((isr a0 1) &&& 1431655765)) 2) &&& 858993459)) 4)) &&& 252645135) 8)) + (isr ((((((a0 - ((isr a0 1) &&& 1431655765)) &&& 858993459) + ((isr (a0 - ((isr a0 1) &&& 1431655765)) 2) &&& 858993459)) + (isr (((a0 - ((isr a0 1) &&& 1431655765)) &&& 858993459) + ((isr (a0 - ((isr a0 1) &&& 1431655765)) 2) &&& 858993459)) 4)) &&& 252645135) + (isr (((((a0 - ((isr a0 1) &&& 1431655765)) &&& 858993459) + ((isr (a0 - ((isr a0 1) &&& 1431655765)) 2) &&& 858993459)) + (isr (((a0 - ((isr a0 1) &&& 1431655765)) &&& 858993459) + ((isr (a0 - ((isr a0 1) &&& 1431655765)) 2) &&& 858993459)) 4)) &&& 252645135) 8)) 16)))]) hx hb dJ6_bitCount_0f7a4_47 rfl hl (by decide) rfl (fun ls hl => ?_)
  refine lv_iload_n hx hb dJ6_bitCount_0f7a4_48 rfl (lv_at hl 0 rfl) ?_
  refine lv_bipush (v := 63) hx hb dJ6_bitCount_0f7a4_49 (by decide) ?_
  refine lv_iand hx hb dJ6_bitCount_0f7a4_51 ?_
  exact x_iret C w h dJ6_bitCount_0f7a4_52
end
section
/-! METHODS, by program: conditions and contracts -/
abbrev rm_X3_takeFrom : Room := { frames := 1, cells := 0, slots := 0, locals := 30 }
noncomputable def wp_X3_takeFrom_L62 (v0 : Nat) (v1 : Nat) (K : Mem → Prop) (n : Nat) : Int32 → Mem → Prop :=
  Nat.rec (motive := fun _ => Int32 → Mem → Prop) (fun _ _ => False) (fun _ ih v2 μ =>
    (((μ v0 4) ≤ v2 → K μ) ∧ (¬ (μ v0 4) ≤ v2 → (vp_in v2 24 ∧ (vp_in v2 24 ∧ (wp_X2_takeFrom ((v0 + 2) + 2 + v2.toNatClampNeg) ((v1 + 2) + 2 + v2.toNatClampNeg) μ (fun m_14 => ih (v2 + 1) m_14))))))) n
theorem wp_X3_takeFrom_L62_s (v0 : Nat) (v1 : Nat) (K : Mem → Prop) (n : Nat) (v2 : Int32) (μ : Mem) : wp_X3_takeFrom_L62 v0 v1 K (n + 1) v2 μ = (
    let ih := wp_X3_takeFrom_L62 v0 v1 K n
    (((μ v0 4) ≤ v2 → K μ) ∧ (¬ (μ v0 4) ≤ v2 → (vp_in v2 24 ∧ (vp_in v2 24 ∧ (wp_X2_takeFrom ((v0 + 2) + 2 + v2.toNatClampNeg) ((v1 + 2) + 2 + v2.toNatClampNeg) μ (fun m_14 => ih (v2 + 1) m_14))))))) := rfl
noncomputable def wp_X3_takeFrom (b0 : Nat) (a1 : Nat) (μ : Mem) (K : Mem → Prop) : Prop :=
    (∀ m_1, m_1 = upR μ (b0 + 1) (va_cpy (μ (a1 + 1)) (μ (b0 + 1)) 0 0 3) → (∀ m_3, m_3 = upR m_1 (b0 + 3) (va_cpy (m_1 (a1 + 3)) (m_1 (b0 + 3)) 0 0 12) → (∀ m_5, m_5 = up2 m_3 b0 3 (m_3 a1 3) → (∀ m_7, m_7 = up2 m_5 b0 4 (m_5 a1 4) → (∀ m_9, m_9 = up2 m_7 b0 5 (m_7 a1 5) → (∃ n, wp_X3_takeFrom_L62 b0 a1 K n 0 m_9))))))
set_option maxHeartbeats 4000000 in
set_option maxRecDepth 100000 in
theorem t_X3_takeFrom_L62 {g : Gv} {ad : Nat → Nat} {l : Launch} {p : Program} {e : Env} {s : State} {m : MethodId} {args : Array Value} {below : List Frame} {meth : Method} {c : Code} (C : Cx g p s m args meth c "StairBows$Staircase" cX3_takeFrom 3 none) {v0 : Nat} {v1 : Nat}  {K : Mem → Prop}  (kv0 : kd v0 = 9) (kv1 : kd v1 = 9)  : ∀ (n : Nat) (v2 : Int32) (μ : Mem) (H : Heap) (locs : List Loc) (ls : Array Slot), wp_X3_takeFrom_L62 v0 v1 K n v2 μ → Wd g ad μ (Aw ad s.heap.size) s H locs → lv_has ls 3 [(0, .ref (ad v0)), (1, .ref (ad v1)), (2, .int v2)] → W p l e rm_X3_takeFrom s m args below meth c H locs 0 0 (MQ below (PostV g ad s.heap.size K) args s 0 0 (Aw ad s.heap.size)) (F0 m 62 ls []) := by
  obtain ⟨hx, hb, hml, -, hts, hown, -, -, hN⟩ := id C
  intro n
  induction n with
  | zero =>
    intro v2 μ H locs ls h w hl
    exact (show False from h).elim
  | succ n ih =>
    intro v2 μ H locs ls h w hl
    rw [wp_X3_takeFrom_L62_s] at h
    dsimp only at h
    refine lv_iload_n hx hb dX3_takeFrom_62 rfl (lv_at hl 2 rfl) ?_
    refine lv_aload_n hx hb dX3_takeFrom_63 rfl (lv_at hl 0 rfl) ?_
    refine x_getS C w (i := v0) (k := 4) (v := .int (μ v0 4)) kv0 (by decide) rfl mf_Staircase_38 dX3_takeFrom_64 ?_
    refine lv_icmp_ge (tgt := 91) hx hb dX3_takeFrom_67 (by decide) (fun c_11 => ?_) (fun c_11 => ?_)
    · have h := h.1 c_11
      exact x_vret C w h dX3_takeFrom_91
    · have h := h.2 c_11
      refine lv_aload_n hx hb dX3_takeFrom_70 rfl (lv_at hl 0 rfl) ?_
      refine x_getS C w (i := v0) (k := 1) (v := .ref (ad (v0 + 2))) kv0 (by decide) rfl mf_Staircase_20 dX3_takeFrom_71 ?_
      refine lv_iload_n hx hb dX3_takeFrom_74 rfl (lv_at hl 2 rfl) ?_
      have hi := h.1
      have h := h.2
      refine x_aldP C w (kS2 kv0) hi dX3_takeFrom_75 ?_
      have k_12 := kSP (kS2 kv0) hi
      refine lv_aload_n hx hb dX3_takeFrom_76 rfl (lv_at hl 1 rfl) ?_
      refine x_getS C w (i := v1) (k := 1) (v := .ref (ad (v1 + 2))) kv1 (by decide) rfl mf_Staircase_20 dX3_takeFrom_77 ?_
      refine lv_iload_n hx hb dX3_takeFrom_80 rfl (lv_at hl 2 rfl) ?_
      have hi := h.1
      have h := h.2
      refine x_aldP C w (kS2 kv1) hi dX3_takeFrom_81 ?_
      have k_13 := kSP (kS2 kv1) hi
      refine x_callv C w (x_runV (i := ((v0 + 2) + 2 + v2.toNatClampNeg)) (As := [.ref (ad ((v1 + 2) + 2 + v2.toNatClampNeg))]) (rest := []) C w k_12 (by decide) (ci := 2) rfl rfl rfl me_X2_takeFrom ml_Staircase_44 (c_X2_takeFrom l g ad μ _ ((v0 + 2) + 2 + v2.toNatClampNeg) k_12 ((v1 + 2) + 2 + v2.toNatClampNeg) k_13 h) ⟨rfl, rfl⟩ ⟨Nat.le_of_ble_eq_true rfl, Nat.le_of_ble_eq_true rfl⟩ rfl hl.1 rfl (Nat.le_of_ble_eq_true rfl) dX3_takeFrom_82 ⟨Nat.le_of_ble_eq_true rfl, Nat.le_of_ble_eq_true rfl⟩) (fun m_14 h H locs w => ?_)
      refine lv_iinc (v := (v2 + 1)) (lv' := [(2, .int (v2 + 1)), (0, .ref (ad v0)), (1, .ref (ad v1))]) hx hb dX3_takeFrom_85 hl (k := 2) rfl rfl (by decide) rfl (fun ls hl => ?_)
      refine lv_goto (tgt := 62) hx hb dX3_takeFrom_88 (by decide) ?_
      exact ih (v2 + 1) m_14 _ _ _ h w (lv_sub hl [1, 2, 0] rfl)
set_option maxHeartbeats 4000000 in
set_option maxRecDepth 100000 in
theorem c_X3_takeFrom (l : Launch) (g : Gv) (ad : Nat → Nat) (μ : Mem) (sz : Nat) (b0 : Nat) (k0 : kd b0 = 9) (a1 : Nat) (k1 : kd a1 = 9) {K : Mem → Prop} (h : wp_X3_takeFrom b0 a1 μ K) : Met l yX3_takeFrom (wX yX3_takeFrom cX3_takeFrom 3 none) rm_X3_takeFrom (Pre g ad μ sz [.ref (ad b0), .ref (ad a1)]) (PostV g ad sz K) 0 0 (Aw ad sz) := by
  refine Met.ofW (cc := cX3_takeFrom) (maxL := 3) (ret := none) (by decide) rfl ?_
  intro p e s m args below meth c s₁ B hml hv
  obtain ⟨rfl, rfl, C, w⟩ := x_start B hml hv
  obtain ⟨hx, hb, hml, -, hts, hown, -, -, hN⟩ := id C
  have hl := lv_entry ([.ref (ad b0), .ref (ad a1)]) (n := 3) (Nat.le_of_ble_eq_true rfl)
  rw [lg_entry_eq]
  generalize (lg_sl ([.ref (ad b0), .ref (ad a1)]) ++ List.replicate (3 - (lg_sl ([.ref (ad b0), .ref (ad a1)])).length) Slot.unset).toArray = ls at hl ⊢
  have hl : lv_has ls 3 [(0, .ref (ad b0)), (1, .ref (ad a1))] := hl
  show W p l e rm_X3_takeFrom s m _ below meth c s.heap [] 0 0 _ _
  unfold wp_X3_takeFrom at h
  refine lv_aload_n hx hb dX3_takeFrom_0 rfl (lv_at hl 1 rfl) ?_
  refine x_getS C w (i := a1) (k := 0) (v := .ref (ad (a1 + 1))) k1 (by decide) rfl mf_Staircase_13 dX3_takeFrom_1 ?_
  refine lv_iconst (v := 0) hx hb dX3_takeFrom_4 (by decide) ?_
  refine lv_aload_n hx hb dX3_takeFrom_5 rfl (lv_at hl 0 rfl) ?_
  refine x_getS C w (i := b0) (k := 0) (v := .ref (ad (b0 + 1))) k0 (by decide) rfl mf_Staircase_13 dX3_takeFrom_6 ?_
  refine lv_iconst (v := 0) hx hb dX3_takeFrom_9 (by decide) ?_
  refine lv_aload_n hx hb dX3_takeFrom_10 rfl (lv_at hl 0 rfl) ?_
  refine x_getS C w (i := b0) (k := 0) (v := .ref (ad (b0 + 1))) k0 (by decide) rfl mf_Staircase_13 dX3_takeFrom_11 ?_
  refine x_alen C w (i := (b0 + 1)) (K := 10) (n := 3) (v := 3) (kS1 k0) (by decide) rfl rfl dX3_takeFrom_14 ?_
  refine x_copy C w (i0 := (a1 + 1)) (i1 := (b0 + 1)) (K := 10) (n := 3) (v := 3) (kS1 k1) (kS1 k0) (by decide) (fun _ _ => rfl) (by decide) (by decide) hl.1 ml_Staircase_32 (Nat.le_of_ble_eq_true rfl) (Nat.le_of_ble_eq_true rfl) dX3_takeFrom_15 (fun m_1 e_2 H locs w => ?_)
  have h := h m_1 e_2
  refine lv_aload_n hx hb dX3_takeFrom_18 rfl (lv_at hl 1 rfl) ?_
  refine x_getS C w (i := a1) (k := 2) (v := .ref (ad (a1 + 3))) k1 (by decide) rfl mf_Staircase_24 dX3_takeFrom_19 ?_
  refine lv_iconst (v := 0) hx hb dX3_takeFrom_22 (by decide) ?_
  refine lv_aload_n hx hb dX3_takeFrom_23 rfl (lv_at hl 0 rfl) ?_
  refine x_getS C w (i := b0) (k := 2) (v := .ref (ad (b0 + 3))) k0 (by decide) rfl mf_Staircase_24 dX3_takeFrom_24 ?_
  refine lv_iconst (v := 0) hx hb dX3_takeFrom_27 (by decide) ?_
  refine lv_aload_n hx hb dX3_takeFrom_28 rfl (lv_at hl 0 rfl) ?_
  refine x_getS C w (i := b0) (k := 2) (v := .ref (ad (b0 + 3))) k0 (by decide) rfl mf_Staircase_24 dX3_takeFrom_29 ?_
  refine x_alen C w (i := (b0 + 3)) (K := 12) (n := 12) (v := 12) (kS3 k0) (by decide) rfl rfl dX3_takeFrom_32 ?_
  refine x_copy C w (i0 := (a1 + 3)) (i1 := (b0 + 3)) (K := 12) (n := 12) (v := 12) (kS3 k1) (kS3 k0) (by decide) (fun _ _ => rfl) (by decide) (by decide) hl.1 ml_Staircase_32 (Nat.le_of_ble_eq_true rfl) (Nat.le_of_ble_eq_true rfl) dX3_takeFrom_33 (fun m_3 e_4 H locs w => ?_)
  have h := h m_3 e_4
  refine lv_aload_n hx hb dX3_takeFrom_36 rfl (lv_at hl 0 rfl) ?_
  refine lv_aload_n hx hb dX3_takeFrom_37 rfl (lv_at hl 1 rfl) ?_
  refine x_getS C w (i := a1) (k := 3) (v := .int (m_3 a1 3)) k1 (by decide) rfl mf_Staircase_27 dX3_takeFrom_38 ?_
  refine x_putS C w (i := b0) (k := 3) k0 (by decide) rfl mf_Staircase_27 rfl rfl dX3_takeFrom_41 (fun m_5 e_6 H locs w => ?_)
  have h := h m_5 e_6
  refine lv_aload_n hx hb dX3_takeFrom_44 rfl (lv_at hl 0 rfl) ?_
  refine lv_aload_n hx hb dX3_takeFrom_45 rfl (lv_at hl 1 rfl) ?_
  refine x_getS C w (i := a1) (k := 4) (v := .int (m_5 a1 4)) k1 (by decide) rfl mf_Staircase_38 dX3_takeFrom_46 ?_
  refine x_putS C w (i := b0) (k := 4) k0 (by decide) rfl mf_Staircase_38 rfl rfl dX3_takeFrom_49 (fun m_7 e_8 H locs w => ?_)
  have h := h m_7 e_8
  refine lv_aload_n hx hb dX3_takeFrom_52 rfl (lv_at hl 0 rfl) ?_
  refine lv_aload_n hx hb dX3_takeFrom_53 rfl (lv_at hl 1 rfl) ?_
  refine x_getS C w (i := a1) (k := 5) (v := .int (m_7 a1 5)) k1 (by decide) rfl mf_Staircase_41 dX3_takeFrom_54 ?_
  refine x_putS C w (i := b0) (k := 5) k0 (by decide) rfl mf_Staircase_41 rfl rfl dX3_takeFrom_57 (fun m_9 e_10 H locs w => ?_)
  have h := h m_9 e_10
  refine lv_iconst (v := 0) hx hb dX3_takeFrom_60 (by decide) ?_
  refine lv_istore_n (lv' := [(2, .int 0), (0, .ref (ad b0)), (1, .ref (ad a1))]) hx hb dX3_takeFrom_61 rfl hl (by decide) rfl (fun ls hl => ?_)
  obtain ⟨n_15, h⟩ := h
  exact t_X3_takeFrom_L62 C k0 k1 n_15 0 m_9 _ _ _ h w (lv_sub hl [1, 2, 0] rfl)
abbrev rm_X3_admit : Room := { frames := 1, cells := 0, slots := 0, locals := 22 }
noncomputable def wp_X3_admit (b0 : Nat) (a1 : Int32) (a2 : Int32) (μ : Mem) (K : Mem → Prop) : Prop :=
    ((24 ≤ (μ b0 4) → K μ) ∧ (¬ 24 ≤ (μ b0 4) → (vp_in (μ b0 4) 24 ∧ (wp_X2_enterHall ((b0 + 2) + 2 + (μ b0 4).toNatClampNeg) a1 a2 μ (fun m_3 => (∀ m_4, m_4 = up2 m_3 b0 4 ((m_3 b0 4) + 1) → K m_4))))))
set_option maxHeartbeats 4000000 in
set_option maxRecDepth 100000 in
theorem c_X3_admit (l : Launch) (g : Gv) (ad : Nat → Nat) (μ : Mem) (sz : Nat) (b0 : Nat) (k0 : kd b0 = 9) (a1 : Int32) (a2 : Int32) {K : Mem → Prop} (h : wp_X3_admit b0 a1 a2 μ K) : Met l yX3_admit (wX yX3_admit cX3_admit 3 none) rm_X3_admit (Pre g ad μ sz [.ref (ad b0), .int a1, .int a2]) (PostV g ad sz K) 0 0 (Aw ad sz) := by
  refine Met.ofW (cc := cX3_admit) (maxL := 3) (ret := none) (by decide) rfl ?_
  intro p e s m args below meth c s₁ B hml hv
  obtain ⟨rfl, rfl, C, w⟩ := x_start B hml hv
  obtain ⟨hx, hb, hml, -, hts, hown, -, -, hN⟩ := id C
  have hl := lv_entry ([.ref (ad b0), .int a1, .int a2]) (n := 3) (Nat.le_of_ble_eq_true rfl)
  rw [lg_entry_eq]
  generalize (lg_sl ([.ref (ad b0), .int a1, .int a2]) ++ List.replicate (3 - (lg_sl ([.ref (ad b0), .int a1, .int a2])).length) Slot.unset).toArray = ls at hl ⊢
  have hl : lv_has ls 3 [(0, .ref (ad b0)), (1, .int a1), (2, .int a2)] := hl
  show W p l e rm_X3_admit s m _ below meth c s.heap [] 0 0 _ _
  unfold wp_X3_admit at h
  refine lv_aload_n hx hb dX3_admit_0 rfl (lv_at hl 0 rfl) ?_
  refine x_getS C w (i := b0) (k := 4) (v := .int (μ b0 4)) k0 (by decide) rfl mf_Staircase_38 dX3_admit_1 ?_
  refine lv_bipush (v := 24) hx hb dX3_admit_4 (by decide) ?_
  refine lv_icmp_ge (tgt := 33) hx hb dX3_admit_6 (by decide) (fun c_1 => ?_) (fun c_1 => ?_)
  · have h := h.1 c_1
    exact x_vret C w h dX3_admit_33
  · have h := h.2 c_1
    refine lv_aload_n hx hb dX3_admit_9 rfl (lv_at hl 0 rfl) ?_
    refine x_getS C w (i := b0) (k := 1) (v := .ref (ad (b0 + 2))) k0 (by decide) rfl mf_Staircase_20 dX3_admit_10 ?_
    refine lv_aload_n hx hb dX3_admit_13 rfl (lv_at hl 0 rfl) ?_
    refine x_getS C w (i := b0) (k := 4) (v := .int (μ b0 4)) k0 (by decide) rfl mf_Staircase_38 dX3_admit_14 ?_
    have hi := h.1
    have h := h.2
    refine x_aldP C w (kS2 k0) hi dX3_admit_17 ?_
    have k_2 := kSP (kS2 k0) hi
    refine lv_iload_n hx hb dX3_admit_18 rfl (lv_at hl 1 rfl) ?_
    refine lv_iload_n hx hb dX3_admit_19 rfl (lv_at hl 2 rfl) ?_
    refine x_callv C w (x_runV (i := ((b0 + 2) + 2 + (μ b0 4).toNatClampNeg)) (As := [.int a1, .int a2]) (rest := []) C w k_2 (by decide) (ci := 2) rfl rfl rfl me_X2_enterHall ml_Staircase_48 (c_X2_enterHall l g ad μ _ ((b0 + 2) + 2 + (μ b0 4).toNatClampNeg) k_2 a1 a2 h) ⟨rfl, rfl⟩ ⟨Nat.le_of_ble_eq_true rfl, Nat.le_of_ble_eq_true rfl⟩ rfl hl.1 rfl (Nat.le_of_ble_eq_true rfl) dX3_admit_20 ⟨Nat.le_of_ble_eq_true rfl, Nat.le_of_ble_eq_true rfl⟩) (fun m_3 h H locs w => ?_)
    refine lv_aload_n hx hb dX3_admit_23 rfl (lv_at hl 0 rfl) ?_
    refine lv_dup hx hb dX3_admit_24 rfl ?_
    refine x_getS C w (i := b0) (k := 4) (v := .int (m_3 b0 4)) k0 (by decide) rfl mf_Staircase_38 dX3_admit_25 ?_
    refine lv_iconst (v := 1) hx hb dX3_admit_28 (by decide) ?_
    refine lv_iadd hx hb dX3_admit_29 ?_
    refine x_putS C w (i := b0) (k := 4) k0 (by decide) rfl mf_Staircase_38 rfl rfl dX3_admit_30 (fun m_4 e_5 H locs w => ?_)
    have h := h m_4 e_5
    exact x_vret C w h dX3_admit_33
abbrev rm_X3_isLanding : Room := { frames := 0, cells := 0, slots := 0, locals := 0 }
noncomputable def wp_X3_isLanding (b0 : Nat) (a1 : Int32) (μ : Mem) (K : Int32 → Mem → Prop) : Prop :=
    ((¬ (((μ b0 3) >>> (a1 &&& 31)) &&& 1) = 1 → K 0 μ) ∧ ((((μ b0 3) >>> (a1 &&& 31)) &&& 1) = 1 → K 1 μ))
set_option maxHeartbeats 4000000 in
set_option maxRecDepth 100000 in
theorem c_X3_isLanding (l : Launch) (g : Gv) (ad : Nat → Nat) (μ : Mem) (sz : Nat) (b0 : Nat) (k0 : kd b0 = 9) (a1 : Int32) {K : Int32 → Mem → Prop} (h : wp_X3_isLanding b0 a1 μ K) : Met l yX3_isLanding (wX yX3_isLanding cX3_isLanding 2 (some .boolean)) rm_X3_isLanding (Pre g ad μ sz [.ref (ad b0), .int a1]) (PostI g ad sz K) 0 0 (Aw ad sz) := by
  refine Met.ofW (cc := cX3_isLanding) (maxL := 2) (ret := (some .boolean)) (by decide) rfl ?_
  intro p e s m args below meth c s₁ B hml hv
  obtain ⟨rfl, rfl, C, w⟩ := x_start B hml hv
  obtain ⟨hx, hb, hml, -, hts, hown, -, -, hN⟩ := id C
  have hl := lv_entry ([.ref (ad b0), .int a1]) (n := 2) (Nat.le_of_ble_eq_true rfl)
  rw [lg_entry_eq]
  generalize (lg_sl ([.ref (ad b0), .int a1]) ++ List.replicate (2 - (lg_sl ([.ref (ad b0), .int a1])).length) Slot.unset).toArray = ls at hl ⊢
  have hl : lv_has ls 2 [(0, .ref (ad b0)), (1, .int a1)] := hl
  show W p l e rm_X3_isLanding s m _ below meth c s.heap [] 0 0 _ _
  unfold wp_X3_isLanding at h
  refine lv_aload_n hx hb dX3_isLanding_0 rfl (lv_at hl 0 rfl) ?_
  refine x_getS C w (i := b0) (k := 3) (v := .int (μ b0 3)) k0 (by decide) rfl mf_Staircase_27 dX3_isLanding_1 ?_
  refine lv_iload_n hx hb dX3_isLanding_4 rfl (lv_at hl 1 rfl) ?_
  refine lv_ishr hx hb dX3_isLanding_5 ?_
  refine lv_iconst (v := 1) hx hb dX3_isLanding_6 (by decide) ?_
  refine lv_iand hx hb dX3_isLanding_7 ?_
  refine lv_iconst (v := 1) hx hb dX3_isLanding_8 (by decide) ?_
  refine lv_icmp_ne (tgt := 16) hx hb dX3_isLanding_9 (by decide) (fun c_1 => ?_) (fun c_1 => ?_)
  · have h := h.1 c_1
    refine lv_iconst (v := 0) hx hb dX3_isLanding_16 (by decide) ?_
    exact x_zret C w (show bz 0 from Or.inl rfl) h dX3_isLanding_17
  · have h := h.2 c_1
    refine lv_iconst (v := 1) hx hb dX3_isLanding_12 (by decide) ?_
    refine lv_goto (tgt := 17) hx hb dX3_isLanding_13 (by decide) ?_
    exact x_zret C w (show bz 1 from Or.inr rfl) h dX3_isLanding_17
abbrev rm_X3_crowdOn : Room := { frames := 1, cells := 0, slots := 0, locals := 20 }
noncomputable def wp_X3_crowdOn (b0 : Nat) (a1 : Int32) (μ : Mem) (K : Int32 → Mem → Prop) : Prop :=
    (wp_X4_isStep a1 μ (fun r_2 m_1 => ((r_2 = 0 → K 0 m_1) ∧ (¬ r_2 = 0 → (vp_in a1 12 ∧ K (m_1 (b0 + 3) a1.toNatClampNeg) m_1)))))
set_option maxHeartbeats 4000000 in
set_option maxRecDepth 100000 in
theorem c_X3_crowdOn (l : Launch) (g : Gv) (ad : Nat → Nat) (μ : Mem) (sz : Nat) (b0 : Nat) (k0 : kd b0 = 9) (a1 : Int32) {K : Int32 → Mem → Prop} (h : wp_X3_crowdOn b0 a1 μ K) : Met l yX3_crowdOn (wX yX3_crowdOn cX3_crowdOn 2 (some .int)) rm_X3_crowdOn (Pre g ad μ sz [.ref (ad b0), .int a1]) (PostI g ad sz K) 0 0 (Aw ad sz) := by
  refine Met.ofW (cc := cX3_crowdOn) (maxL := 2) (ret := (some .int)) (by decide) rfl ?_
  intro p e s m args below meth c s₁ B hml hv
  obtain ⟨rfl, rfl, C, w⟩ := x_start B hml hv
  obtain ⟨hx, hb, hml, -, hts, hown, -, -, hN⟩ := id C
  have hl := lv_entry ([.ref (ad b0), .int a1]) (n := 2) (Nat.le_of_ble_eq_true rfl)
  rw [lg_entry_eq]
  generalize (lg_sl ([.ref (ad b0), .int a1]) ++ List.replicate (2 - (lg_sl ([.ref (ad b0), .int a1])).length) Slot.unset).toArray = ls at hl ⊢
  have hl : lv_has ls 2 [(0, .ref (ad b0)), (1, .int a1)] := hl
  show W p l e rm_X3_crowdOn s m _ below meth c s.heap [] 0 0 _ _
  unfold wp_X3_crowdOn at h
  refine lv_iload_n hx hb dX3_crowdOn_0 rfl (lv_at hl 1 rfl) ?_
  refine x_calli C w (x_runSN (host := "StairBows") (As := [.int a1]) (rest := []) C w me_X4_isStep hN (c_X4_isStep l g ad μ _ a1 h) ⟨rfl, rfl⟩ ⟨Nat.le_of_ble_eq_true rfl, Nat.le_of_ble_eq_true rfl⟩ rfl hl.1 rfl (Nat.le_of_ble_eq_true rfl) dX3_crowdOn_1 ⟨Nat.le_of_ble_eq_true rfl, Nat.le_of_ble_eq_true rfl⟩) (fun r_2 m_1 h H locs w => ?_)
  refine lv_if_eq (tgt := 16) hx hb dX3_crowdOn_4 (by decide) (fun c_3 => ?_) (fun c_3 => ?_)
  · have h := h.1 c_3
    refine lv_iconst (v := 0) hx hb dX3_crowdOn_16 (by decide) ?_
    exact x_iret C w h dX3_crowdOn_17
  · have h := h.2 c_3
    refine lv_aload_n hx hb dX3_crowdOn_7 rfl (lv_at hl 0 rfl) ?_
    refine x_getS C w (i := b0) (k := 2) (v := .ref (ad (b0 + 3))) k0 (by decide) rfl mf_Staircase_24 dX3_crowdOn_8 ?_
    refine lv_iload_n hx hb dX3_crowdOn_11 rfl (lv_at hl 1 rfl) ?_
    refine x_iald C w (i := (b0 + 3)) (K := 12) (j := a1) (n := 12) (jn := a1.toNatClampNeg) rfl (kS3 k0) (by decide) rfl (show vp_in a1 12 from h.1) dX3_crowdOn_12 ?_
    have h := h.2
    refine lv_goto (tgt := 17) hx hb dX3_crowdOn_13 (by decide) ?_
    exact x_iret C w h dX3_crowdOn_17
abbrev rm_X3_roomOn : Room := { frames := 2, cells := 0, slots := 0, locals := 41 }
noncomputable def wp_X3_roomOn (b0 : Nat) (a1 : Int32) (μ : Mem) (K : Int32 → Mem → Prop) : Prop :=
    (wp_X3_isLanding b0 a1 μ (fun r_2 m_1 => ((r_2 = 0 → (wp_X3_crowdOn b0 a1 m_1 (fun r_5 m_4 => K (1 - r_5) m_4))) ∧ (¬ r_2 = 0 → (wp_X3_crowdOn b0 a1 m_1 (fun r_7 m_6 => K ((m_1 (b0 + 1) 0) - r_7) m_6))))))
set_option maxHeartbeats 4000000 in
set_option maxRecDepth 100000 in
theorem c_X3_roomOn (l : Launch) (g : Gv) (ad : Nat → Nat) (μ : Mem) (sz : Nat) (b0 : Nat) (k0 : kd b0 = 9) (a1 : Int32) {K : Int32 → Mem → Prop} (h : wp_X3_roomOn b0 a1 μ K) : Met l yX3_roomOn (wX yX3_roomOn cX3_roomOn 2 (some .int)) rm_X3_roomOn (Pre g ad μ sz [.ref (ad b0), .int a1]) (PostI g ad sz K) 0 0 (Aw ad sz) := by
  refine Met.ofW (cc := cX3_roomOn) (maxL := 2) (ret := (some .int)) (by decide) rfl ?_
  intro p e s m args below meth c s₁ B hml hv
  obtain ⟨rfl, rfl, C, w⟩ := x_start B hml hv
  obtain ⟨hx, hb, hml, -, hts, hown, -, -, hN⟩ := id C
  have hl := lv_entry ([.ref (ad b0), .int a1]) (n := 2) (Nat.le_of_ble_eq_true rfl)
  rw [lg_entry_eq]
  generalize (lg_sl ([.ref (ad b0), .int a1]) ++ List.replicate (2 - (lg_sl ([.ref (ad b0), .int a1])).length) Slot.unset).toArray = ls at hl ⊢
  have hl : lv_has ls 2 [(0, .ref (ad b0)), (1, .int a1)] := hl
  show W p l e rm_X3_roomOn s m _ below meth c s.heap [] 0 0 _ _
  unfold wp_X3_roomOn at h
  refine lv_aload_n hx hb dX3_roomOn_0 rfl (lv_at hl 0 rfl) ?_
  refine lv_iload_n hx hb dX3_roomOn_1 rfl (lv_at hl 1 rfl) ?_
  refine x_calli C w (x_runV (i := b0) (As := [.int a1]) (rest := []) C w k0 (by decide) (ci := 3) rfl rfl rfl me_X3_isLanding ml_Staircase_56 (c_X3_isLanding l g ad μ _ b0 k0 a1 h) ⟨rfl, rfl⟩ ⟨Nat.le_of_ble_eq_true rfl, Nat.le_of_ble_eq_true rfl⟩ rfl hl.1 rfl (Nat.le_of_ble_eq_true rfl) dX3_roomOn_2 ⟨Nat.le_of_ble_eq_true rfl, Nat.le_of_ble_eq_true rfl⟩) (fun r_2 m_1 h H locs w => ?_)
  refine lv_if_eq (tgt := 17) hx hb dX3_roomOn_5 (by decide) (fun c_3 => ?_) (fun c_3 => ?_)
  · have h := h.1 c_3
    refine lv_iconst (v := 1) hx hb dX3_roomOn_17 (by decide) ?_
    refine lv_aload_n hx hb dX3_roomOn_18 rfl (lv_at hl 0 rfl) ?_
    refine lv_iload_n hx hb dX3_roomOn_19 rfl (lv_at hl 1 rfl) ?_
    refine x_calli C w (x_runV (i := b0) (As := [.int a1]) (rest := [.int 1]) C w k0 (by decide) (ci := 3) rfl rfl rfl me_X3_crowdOn ml_Staircase_59 (c_X3_crowdOn l g ad m_1 _ b0 k0 a1 h) ⟨rfl, rfl⟩ ⟨Nat.le_of_ble_eq_true rfl, Nat.le_of_ble_eq_true rfl⟩ rfl hl.1 rfl (Nat.le_of_ble_eq_true rfl) dX3_roomOn_20 ⟨Nat.le_of_ble_eq_true rfl, Nat.le_of_ble_eq_true rfl⟩) (fun r_5 m_4 h H locs w => ?_)
    refine lv_isub hx hb dX3_roomOn_23 ?_
    exact x_iret C w h dX3_roomOn_24
  · have h := h.2 c_3
    refine lv_aload_n hx hb dX3_roomOn_8 rfl (lv_at hl 0 rfl) ?_
    refine x_getS C w (i := b0) (k := 0) (v := .ref (ad (b0 + 1))) k0 (by decide) rfl mf_Staircase_13 dX3_roomOn_9 ?_
    refine lv_iconst (v := 0) hx hb dX3_roomOn_12 (by decide) ?_
    refine x_iald C w (i := (b0 + 1)) (K := 10) (j := 0) (n := 3) (jn := 0) rfl (kS1 k0) (by decide) rfl (show vp_in 0 3 from vp_lit (by decide) (by decide)) dX3_roomOn_13 ?_
    refine lv_goto (tgt := 18) hx hb dX3_roomOn_14 (by decide) ?_
    refine lv_aload_n hx hb dX3_roomOn_18 rfl (lv_at hl 0 rfl) ?_
    refine lv_iload_n hx hb dX3_roomOn_19 rfl (lv_at hl 1 rfl) ?_
    refine x_calli C w (x_runV (i := b0) (As := [.int a1]) (rest := [.int (m_1 (b0 + 1) 0)]) C w k0 (by decide) (ci := 3) rfl rfl rfl me_X3_crowdOn ml_Staircase_59 (c_X3_crowdOn l g ad m_1 _ b0 k0 a1 h) ⟨rfl, rfl⟩ ⟨Nat.le_of_ble_eq_true rfl, Nat.le_of_ble_eq_true rfl⟩ rfl hl.1 rfl (Nat.le_of_ble_eq_true rfl) dX3_roomOn_20 ⟨Nat.le_of_ble_eq_true rfl, Nat.le_of_ble_eq_true rfl⟩) (fun r_7 m_6 h H locs w => ?_)
    refine lv_isub hx hb dX3_roomOn_23 ?_
    exact x_iret C w h dX3_roomOn_24
abbrev rm_X3_greatestCrowd : Room := { frames := 1, cells := 0, slots := 0, locals := 30 }
noncomputable def wp_X3_greatestCrowd_L4 (v0 : Nat) (K : Int32 → Mem → Prop) (n : Nat) : Int32 → Int32 → Mem → Prop :=
  Nat.rec (motive := fun _ => Int32 → Int32 → Mem → Prop) (fun _ _ _ => False) (fun _ ih v1 v2 μ =>
    ((12 ≤ v2 → K v1 μ) ∧ (¬ 12 ≤ v2 → (vp_in v2 12 ∧ ih (if v1 < (μ (v0 + 3) v2.toNatClampNeg) then (μ (v0 + 3) v2.toNatClampNeg) else v1) (v2 + 1) μ)))) n
theorem wp_X3_greatestCrowd_L4_s (v0 : Nat) (K : Int32 → Mem → Prop) (n : Nat) (v1 : Int32) (v2 : Int32) (μ : Mem) : wp_X3_greatestCrowd_L4 v0 K (n + 1) v1 v2 μ = (
    let ih := wp_X3_greatestCrowd_L4 v0 K n
    ((12 ≤ v2 → K v1 μ) ∧ (¬ 12 ≤ v2 → (vp_in v2 12 ∧ ih (if v1 < (μ (v0 + 3) v2.toNatClampNeg) then (μ (v0 + 3) v2.toNatClampNeg) else v1) (v2 + 1) μ)))) := rfl
noncomputable def wp_X3_greatestCrowd (b0 : Nat) (μ : Mem) (K : Int32 → Mem → Prop) : Prop :=
    (∃ n, wp_X3_greatestCrowd_L4 b0 K n 0 0 μ)
set_option maxHeartbeats 4000000 in
set_option maxRecDepth 100000 in
theorem t_X3_greatestCrowd_L4 {g : Gv} {ad : Nat → Nat} {l : Launch} {p : Program} {e : Env} {s : State} {m : MethodId} {args : Array Value} {below : List Frame} {meth : Method} {c : Code} (C : Cx g p s m args meth c "StairBows$Staircase" cX3_greatestCrowd 3 (some .int)) {v0 : Nat}  {K : Int32 → Mem → Prop}  (kv0 : kd v0 = 9)  : ∀ (n : Nat) (v1 : Int32) (v2 : Int32) (μ : Mem) (H : Heap) (locs : List Loc) (ls : Array Slot), wp_X3_greatestCrowd_L4 v0 K n v1 v2 μ → Wd g ad μ (Aw ad s.heap.size) s H locs → lv_has ls 3 [(0, .ref (ad v0)), (1, .int v1), (2, .int v2)] → W p l e rm_X3_greatestCrowd s m args below meth c H locs 0 0 (MQ below (PostI g ad s.heap.size K) args s 0 0 (Aw ad s.heap.size)) (F0 m 4 ls []) := by
  obtain ⟨hx, hb, hml, -, hts, hown, -, -, hN⟩ := id C
  intro n
  induction n with
  | zero =>
    intro v1 v2 μ H locs ls h w hl
    exact (show False from h).elim
  | succ n ih =>
    intro v1 v2 μ H locs ls h w hl
    rw [wp_X3_greatestCrowd_L4_s] at h
    dsimp only at h
    refine lv_iload_n hx hb dX3_greatestCrowd_4 rfl (lv_at hl 2 rfl) ?_
    refine lv_bipush (v := 12) hx hb dX3_greatestCrowd_5 (by decide) ?_
    refine lv_icmp_ge (tgt := 27) hx hb dX3_greatestCrowd_7 (by decide) (fun c_1 => ?_) (fun c_1 => ?_)
    · have h := h.1 c_1
      refine lv_iload_n hx hb dX3_greatestCrowd_27 rfl (lv_at hl 1 rfl) ?_
      exact x_iret C w h dX3_greatestCrowd_28
    · have h := h.2 c_1
      refine lv_iload_n hx hb dX3_greatestCrowd_10 rfl (lv_at hl 1 rfl) ?_
      refine lv_aload_n hx hb dX3_greatestCrowd_11 rfl (lv_at hl 0 rfl) ?_
      refine x_getS C w (i := v0) (k := 2) (v := .ref (ad (v0 + 3))) kv0 (by decide) rfl mf_Staircase_24 dX3_greatestCrowd_12 ?_
      refine lv_iload_n hx hb dX3_greatestCrowd_15 rfl (lv_at hl 2 rfl) ?_
      refine x_iald C w (i := (v0 + 3)) (K := 12) (j := v2) (n := 12) (jn := v2.toNatClampNeg) rfl (kS3 kv0) (by decide) rfl (show vp_in v2 12 from h.1) dX3_greatestCrowd_16 ?_
      have h := h.2
      refine va_mmax hx hb (hml.trans hl.1.symm) hown (hts _ ml_Staircase_63) (hts _ mx_static) (hts _ mx_init) (hts _ mx_code) (Nat.le_of_ble_eq_true rfl) (Nat.le_of_ble_eq_true rfl) (Nat.le_of_ble_eq_true rfl) (Nat.le_of_ble_eq_true rfl) dX3_greatestCrowd_17 ?_
      refine lv_istore_n (lv' := [(1, .int (if v1 < (μ (v0 + 3) v2.toNatClampNeg) then (μ (v0 + 3) v2.toNatClampNeg) else v1)), (0, .ref (ad v0)), (2, .int v2)]) hx hb dX3_greatestCrowd_20 rfl hl (by decide) rfl (fun ls hl => ?_)
      refine lv_iinc (v := (v2 + 1)) (lv' := [(2, .int (v2 + 1)), (1, .int (if v1 < (μ (v0 + 3) v2.toNatClampNeg) then (μ (v0 + 3) v2.toNatClampNeg) else v1)), (0, .ref (ad v0))]) hx hb dX3_greatestCrowd_21 hl (k := 2) rfl rfl (by decide) rfl (fun ls hl => ?_)
      refine lv_goto (tgt := 4) hx hb dX3_greatestCrowd_24 (by decide) ?_
      exact ih (if v1 < (μ (v0 + 3) v2.toNatClampNeg) then (μ (v0 + 3) v2.toNatClampNeg) else v1) (v2 + 1) μ _ _ _ h w (lv_sub hl [2, 1, 0] rfl)
set_option maxHeartbeats 4000000 in
set_option maxRecDepth 100000 in
theorem c_X3_greatestCrowd (l : Launch) (g : Gv) (ad : Nat → Nat) (μ : Mem) (sz : Nat) (b0 : Nat) (k0 : kd b0 = 9) {K : Int32 → Mem → Prop} (h : wp_X3_greatestCrowd b0 μ K) : Met l yX3_greatestCrowd (wX yX3_greatestCrowd cX3_greatestCrowd 3 (some .int)) rm_X3_greatestCrowd (Pre g ad μ sz [.ref (ad b0)]) (PostI g ad sz K) 0 0 (Aw ad sz) := by
  refine Met.ofW (cc := cX3_greatestCrowd) (maxL := 3) (ret := (some .int)) (by decide) rfl ?_
  intro p e s m args below meth c s₁ B hml hv
  obtain ⟨rfl, rfl, C, w⟩ := x_start B hml hv
  obtain ⟨hx, hb, hml, -, hts, hown, -, -, hN⟩ := id C
  have hl := lv_entry ([.ref (ad b0)]) (n := 3) (Nat.le_of_ble_eq_true rfl)
  rw [lg_entry_eq]
  generalize (lg_sl ([.ref (ad b0)]) ++ List.replicate (3 - (lg_sl ([.ref (ad b0)])).length) Slot.unset).toArray = ls at hl ⊢
  have hl : lv_has ls 3 [(0, .ref (ad b0))] := hl
  show W p l e rm_X3_greatestCrowd s m _ below meth c s.heap [] 0 0 _ _
  unfold wp_X3_greatestCrowd at h
  refine lv_iconst (v := 0) hx hb dX3_greatestCrowd_0 (by decide) ?_
  refine lv_istore_n (lv' := [(1, .int 0), (0, .ref (ad b0))]) hx hb dX3_greatestCrowd_1 rfl hl (by decide) rfl (fun ls hl => ?_)
  refine lv_iconst (v := 0) hx hb dX3_greatestCrowd_2 (by decide) ?_
  refine lv_istore_n (lv' := [(2, .int 0), (1, .int 0), (0, .ref (ad b0))]) hx hb dX3_greatestCrowd_3 rfl hl (by decide) rfl (fun ls hl => ?_)
  obtain ⟨n_2, h⟩ := h
  exact t_X3_greatestCrowd_L4 C k0 n_2 0 0 μ _ _ _ h w (lv_sub hl [2, 1, 0] rfl)
abbrev rm_X3_highestOn : Room := { frames := 1, cells := 0, slots := 0, locals := 21 }
noncomputable def wp_X3_highestOn_L8 (v0 : Nat) (v1 : Int32) (K : Int32 → Mem → Prop) (n : Nat) : Int32 → Int32 → Int32 → Mem → Prop :=
  Nat.rec (motive := fun _ => Int32 → Int32 → Int32 → Mem → Prop) (fun _ _ _ _ => False) (fun _ ih v2 v3 v4 μ =>
    (((μ v0 4) ≤ v4 → K v2 μ) ∧ (¬ (μ v0 4) ≤ v4 → (vp_in v4 24 ∧ (wp_X2_standsOn ((v0 + 2) + 2 + v4.toNatClampNeg) v1 μ (fun r_4 m_3 => ((r_4 = 0 → ih v2 v3 (v4 + 1) m_3) ∧ (¬ r_4 = 0 → (vp_in v4 24 ∧ (((m_3 ((v0 + 2) + 2 + v4.toNatClampNeg) 0) ≤ v3 → ih v2 v3 (v4 + 1) m_3) ∧ (¬ (m_3 ((v0 + 2) + 2 + v4.toNatClampNeg) 0) ≤ v3 → (vp_in v4 24 ∧ ih v4 (m_3 ((v0 + 2) + 2 + v4.toNatClampNeg) 0) (v4 + 1) m_3)))))))))))) n
theorem wp_X3_highestOn_L8_s (v0 : Nat) (v1 : Int32) (K : Int32 → Mem → Prop) (n : Nat) (v2 : Int32) (v3 : Int32) (v4 : Int32) (μ : Mem) : wp_X3_highestOn_L8 v0 v1 K (n + 1) v2 v3 v4 μ = (
    let ih := wp_X3_highestOn_L8 v0 v1 K n
    (((μ v0 4) ≤ v4 → K v2 μ) ∧ (¬ (μ v0 4) ≤ v4 → (vp_in v4 24 ∧ (wp_X2_standsOn ((v0 + 2) + 2 + v4.toNatClampNeg) v1 μ (fun r_4 m_3 => ((r_4 = 0 → ih v2 v3 (v4 + 1) m_3) ∧ (¬ r_4 = 0 → (vp_in v4 24 ∧ (((m_3 ((v0 + 2) + 2 + v4.toNatClampNeg) 0) ≤ v3 → ih v2 v3 (v4 + 1) m_3) ∧ (¬ (m_3 ((v0 + 2) + 2 + v4.toNatClampNeg) 0) ≤ v3 → (vp_in v4 24 ∧ ih v4 (m_3 ((v0 + 2) + 2 + v4.toNatClampNeg) 0) (v4 + 1) m_3)))))))))))) := rfl
noncomputable def wp_X3_highestOn (b0 : Nat) (a1 : Int32) (μ : Mem) (K : Int32 → Mem → Prop) : Prop :=
    (∃ n, wp_X3_highestOn_L8 b0 a1 K n (-6) 0 0 μ)
set_option maxHeartbeats 4000000 in
set_option maxRecDepth 100000 in
theorem t_X3_highestOn_L8 {g : Gv} {ad : Nat → Nat} {l : Launch} {p : Program} {e : Env} {s : State} {m : MethodId} {args : Array Value} {below : List Frame} {meth : Method} {c : Code} (C : Cx g p s m args meth c "StairBows$Staircase" cX3_highestOn 5 (some .int)) {v0 : Nat} {v1 : Int32}  {K : Int32 → Mem → Prop}  (kv0 : kd v0 = 9)  : ∀ (n : Nat) (v2 : Int32) (v3 : Int32) (v4 : Int32) (μ : Mem) (H : Heap) (locs : List Loc) (ls : Array Slot), wp_X3_highestOn_L8 v0 v1 K n v2 v3 v4 μ → Wd g ad μ (Aw ad s.heap.size) s H locs → lv_has ls 5 [(0, .ref (ad v0)), (1, .int v1), (2, .int v2), (3, .int v3), (4, .int v4)] → W p l e rm_X3_highestOn s m args below meth c H locs 0 0 (MQ below (PostI g ad s.heap.size K) args s 0 0 (Aw ad s.heap.size)) (F0 m 8 ls []) := by
  obtain ⟨hx, hb, hml, -, hts, hown, -, -, hN⟩ := id C
  intro n
  induction n with
  | zero =>
    intro v2 v3 v4 μ H locs ls h w hl
    exact (show False from h).elim
  | succ n ih =>
    intro v2 v3 v4 μ H locs ls h w hl
    rw [wp_X3_highestOn_L8_s] at h
    dsimp only at h
    refine lv_iload hx hb dX3_highestOn_8 (lv_at hl 4 rfl) ?_
    refine lv_aload_n hx hb dX3_highestOn_10 rfl (lv_at hl 0 rfl) ?_
    refine x_getS C w (i := v0) (k := 4) (v := .int (μ v0 4)) kv0 (by decide) rfl mf_Staircase_38 dX3_highestOn_11 ?_
    refine lv_icmp_ge (tgt := 65) hx hb dX3_highestOn_14 (by decide) (fun c_1 => ?_) (fun c_1 => ?_)
    · have h := h.1 c_1
      refine lv_iload_n hx hb dX3_highestOn_65 rfl (lv_at hl 2 rfl) ?_
      exact x_iret C w h dX3_highestOn_66
    · have h := h.2 c_1
      refine lv_aload_n hx hb dX3_highestOn_17 rfl (lv_at hl 0 rfl) ?_
      refine x_getS C w (i := v0) (k := 1) (v := .ref (ad (v0 + 2))) kv0 (by decide) rfl mf_Staircase_20 dX3_highestOn_18 ?_
      refine lv_iload hx hb dX3_highestOn_21 (lv_at hl 4 rfl) ?_
      have hi := h.1
      have h := h.2
      refine x_aldP C w (kS2 kv0) hi dX3_highestOn_23 ?_
      have k_2 := kSP (kS2 kv0) hi
      refine lv_iload_n hx hb dX3_highestOn_24 rfl (lv_at hl 1 rfl) ?_
      refine x_calli C w (x_runV (i := ((v0 + 2) + 2 + v4.toNatClampNeg)) (As := [.int v1]) (rest := []) C w k_2 (by decide) (ci := 2) rfl rfl rfl me_X2_standsOn ml_Staircase_69 (c_X2_standsOn l g ad μ _ ((v0 + 2) + 2 + v4.toNatClampNeg) k_2 v1 h) ⟨rfl, rfl⟩ ⟨Nat.le_of_ble_eq_true rfl, Nat.le_of_ble_eq_true rfl⟩ rfl hl.1 rfl (Nat.le_of_ble_eq_true rfl) dX3_highestOn_25 ⟨Nat.le_of_ble_eq_true rfl, Nat.le_of_ble_eq_true rfl⟩) (fun r_4 m_3 h H locs w => ?_)
      refine lv_if_eq (tgt := 59) hx hb dX3_highestOn_28 (by decide) (fun c_5 => ?_) (fun c_5 => ?_)
      · have h := h.1 c_5
        refine lv_iinc (v := (v4 + 1)) (lv' := [(4, .int (v4 + 1)), (0, .ref (ad v0)), (1, .int v1), (2, .int v2), (3, .int v3)]) hx hb dX3_highestOn_59 hl (k := 4) rfl rfl (by decide) rfl (fun ls hl => ?_)
        refine lv_goto (tgt := 8) hx hb dX3_highestOn_62 (by decide) ?_
        exact ih v2 v3 (v4 + 1) m_3 _ _ _ h w (lv_sub hl [1, 2, 3, 4, 0] rfl)
      · have h := h.2 c_5
        refine lv_aload_n hx hb dX3_highestOn_31 rfl (lv_at hl 0 rfl) ?_
        refine x_getS C w (i := v0) (k := 1) (v := .ref (ad (v0 + 2))) kv0 (by decide) rfl mf_Staircase_20 dX3_highestOn_32 ?_
        refine lv_iload hx hb dX3_highestOn_35 (lv_at hl 4 rfl) ?_
        have hi := h.1
        have h := h.2
        refine x_aldP C w (kS2 kv0) hi dX3_highestOn_37 ?_
        have k_6 := kSP (kS2 kv0) hi
        refine x_getP C w (i := ((v0 + 2) + 2 + v4.toNatClampNeg)) (k := 0) k_6 (by decide) mf_Staircase_72 dX3_highestOn_38 ?_
        refine lv_iload_n hx hb dX3_highestOn_41 rfl (lv_at hl 3 rfl) ?_
        refine lv_icmp_le (tgt := 59) hx hb dX3_highestOn_42 (by decide) (fun c_7 => ?_) (fun c_7 => ?_)
        · have h := h.1 c_7
          refine lv_iinc (v := (v4 + 1)) (lv' := [(4, .int (v4 + 1)), (0, .ref (ad v0)), (1, .int v1), (2, .int v2), (3, .int v3)]) hx hb dX3_highestOn_59 hl (k := 4) rfl rfl (by decide) rfl (fun ls hl => ?_)
          refine lv_goto (tgt := 8) hx hb dX3_highestOn_62 (by decide) ?_
          exact ih v2 v3 (v4 + 1) m_3 _ _ _ h w (lv_sub hl [1, 2, 3, 4, 0] rfl)
        · have h := h.2 c_7
          refine lv_iload hx hb dX3_highestOn_45 (lv_at hl 4 rfl) ?_
          refine lv_istore_n (lv' := [(2, .int v4), (0, .ref (ad v0)), (1, .int v1), (3, .int v3), (4, .int v4)]) hx hb dX3_highestOn_47 rfl hl (by decide) rfl (fun ls hl => ?_)
          refine lv_aload_n hx hb dX3_highestOn_48 rfl (lv_at hl 1 rfl) ?_
          refine x_getS C w (i := v0) (k := 1) (v := .ref (ad (v0 + 2))) kv0 (by decide) rfl mf_Staircase_20 dX3_highestOn_49 ?_
          refine lv_iload hx hb dX3_highestOn_52 (lv_at hl 4 rfl) ?_
          have hi := h.1
          have h := h.2
          refine x_aldP C w (kS2 kv0) hi dX3_highestOn_54 ?_
          have k_8 := kSP (kS2 kv0) hi
          refine x_getP C w (i := ((v0 + 2) + 2 + v4.toNatClampNeg)) (k := 0) k_8 (by decide) mf_Staircase_72 dX3_highestOn_55 ?_
          refine lv_istore_n (lv' := [(3, .int (m_3 ((v0 + 2) + 2 + v4.toNatClampNeg) 0)), (2, .int v4), (0, .ref (ad v0)), (1, .int v1), (4, .int v4)]) hx hb dX3_highestOn_58 rfl hl (by decide) rfl (fun ls hl => ?_)
          refine lv_iinc (v := (v4 + 1)) (lv' := [(4, .int (v4 + 1)), (3, .int (m_3 ((v0 + 2) + 2 + v4.toNatClampNeg) 0)), (2, .int v4), (0, .ref (ad v0)), (1, .int v1)]) hx hb dX3_highestOn_59 hl (k := 4) rfl rfl (by decide) rfl (fun ls hl => ?_)
          refine lv_goto (tgt := 8) hx hb dX3_highestOn_62 (by decide) ?_
          exact ih v4 (m_3 ((v0 + 2) + 2 + v4.toNatClampNeg) 0) (v4 + 1) m_3 _ _ _ h w (lv_sub hl [3, 4, 2, 1, 0] rfl)
set_option maxHeartbeats 4000000 in
set_option maxRecDepth 100000 in
theorem c_X3_highestOn (l : Launch) (g : Gv) (ad : Nat → Nat) (μ : Mem) (sz : Nat) (b0 : Nat) (k0 : kd b0 = 9) (a1 : Int32) {K : Int32 → Mem → Prop} (h : wp_X3_highestOn b0 a1 μ K) : Met l yX3_highestOn (wX yX3_highestOn cX3_highestOn 5 (some .int)) rm_X3_highestOn (Pre g ad μ sz [.ref (ad b0), .int a1]) (PostI g ad sz K) 0 0 (Aw ad sz) := by
  refine Met.ofW (cc := cX3_highestOn) (maxL := 5) (ret := (some .int)) (by decide) rfl ?_
  intro p e s m args below meth c s₁ B hml hv
  obtain ⟨rfl, rfl, C, w⟩ := x_start B hml hv
  obtain ⟨hx, hb, hml, -, hts, hown, -, -, hN⟩ := id C
  have hl := lv_entry ([.ref (ad b0), .int a1]) (n := 5) (Nat.le_of_ble_eq_true rfl)
  rw [lg_entry_eq]
  generalize (lg_sl ([.ref (ad b0), .int a1]) ++ List.replicate (5 - (lg_sl ([.ref (ad b0), .int a1])).length) Slot.unset).toArray = ls at hl ⊢
  have hl : lv_has ls 5 [(0, .ref (ad b0)), (1, .int a1)] := hl
  show W p l e rm_X3_highestOn s m _ below meth c s.heap [] 0 0 _ _
  unfold wp_X3_highestOn at h
  refine lv_bipush (v := -6) hx hb dX3_highestOn_0 (by decide) ?_
  refine lv_istore_n (lv' := [(2, .int (-6)), (0, .ref (ad b0)), (1, .int a1)]) hx hb dX3_highestOn_2 rfl hl (by decide) rfl (fun ls hl => ?_)
  refine lv_iconst (v := 0) hx hb dX3_highestOn_3 (by decide) ?_
  refine lv_istore_n (lv' := [(3, .int 0), (2, .int (-6)), (0, .ref (ad b0)), (1, .int a1)]) hx hb dX3_highestOn_4 rfl hl (by decide) rfl (fun ls hl => ?_)
  refine lv_iconst (v := 0) hx hb dX3_highestOn_5 (by decide) ?_
  refine lv_istore (lv' := [(4, .int 0), (3, .int 0), (2, .int (-6)), (0, .ref (ad b0)), (1, .int a1)]) hx hb dX3_highestOn_6 hl (by decide) rfl (fun ls hl => ?_)
  obtain ⟨n_9, h⟩ := h
  exact t_X3_highestOn_L8 C k0 n_9 (-6) 0 0 μ _ _ _ h w (lv_sub hl [3, 4, 2, 1, 0] rfl)
abbrev rm_X3_peopleWho : Room := { frames := 0, cells := 0, slots := 0, locals := 0 }
noncomputable def wp_X3_peopleWho_L4 (v0 : Nat) (v1 : Int32) (K : Int32 → Mem → Prop) (n : Nat) : Int32 → Int32 → Mem → Prop :=
  Nat.rec (motive := fun _ => Int32 → Int32 → Mem → Prop) (fun _ _ _ => False) (fun _ ih v2 v3 μ =>
    (((μ v0 4) ≤ v3 → K v2 μ) ∧ (¬ (μ v0 4) ≤ v3 → (vp_in v3 24 ∧ ((¬ (μ ((v0 + 2) + 2 + v3.toNatClampNeg) 2) = v1 → ih v2 (v3 + 1) μ) ∧ ((μ ((v0 + 2) + 2 + v3.toNatClampNeg) 2) = v1 → ih (v2 + 1) (v3 + 1) μ)))))) n
theorem wp_X3_peopleWho_L4_s (v0 : Nat) (v1 : Int32) (K : Int32 → Mem → Prop) (n : Nat) (v2 : Int32) (v3 : Int32) (μ : Mem) : wp_X3_peopleWho_L4 v0 v1 K (n + 1) v2 v3 μ = (
    let ih := wp_X3_peopleWho_L4 v0 v1 K n
    (((μ v0 4) ≤ v3 → K v2 μ) ∧ (¬ (μ v0 4) ≤ v3 → (vp_in v3 24 ∧ ((¬ (μ ((v0 + 2) + 2 + v3.toNatClampNeg) 2) = v1 → ih v2 (v3 + 1) μ) ∧ ((μ ((v0 + 2) + 2 + v3.toNatClampNeg) 2) = v1 → ih (v2 + 1) (v3 + 1) μ)))))) := rfl
noncomputable def wp_X3_peopleWho (b0 : Nat) (a1 : Int32) (μ : Mem) (K : Int32 → Mem → Prop) : Prop :=
    (∃ n, wp_X3_peopleWho_L4 b0 a1 K n 0 0 μ)
set_option maxHeartbeats 4000000 in
set_option maxRecDepth 100000 in
theorem t_X3_peopleWho_L4 {g : Gv} {ad : Nat → Nat} {l : Launch} {p : Program} {e : Env} {s : State} {m : MethodId} {args : Array Value} {below : List Frame} {meth : Method} {c : Code} (C : Cx g p s m args meth c "StairBows$Staircase" cX3_peopleWho 4 (some .int)) {v0 : Nat} {v1 : Int32}  {K : Int32 → Mem → Prop}  (kv0 : kd v0 = 9)  : ∀ (n : Nat) (v2 : Int32) (v3 : Int32) (μ : Mem) (H : Heap) (locs : List Loc) (ls : Array Slot), wp_X3_peopleWho_L4 v0 v1 K n v2 v3 μ → Wd g ad μ (Aw ad s.heap.size) s H locs → lv_has ls 4 [(0, .ref (ad v0)), (1, .int v1), (2, .int v2), (3, .int v3)] → W p l e rm_X3_peopleWho s m args below meth c H locs 0 0 (MQ below (PostI g ad s.heap.size K) args s 0 0 (Aw ad s.heap.size)) (F0 m 4 ls []) := by
  obtain ⟨hx, hb, hml, -, hts, hown, -, -, hN⟩ := id C
  intro n
  induction n with
  | zero =>
    intro v2 v3 μ H locs ls h w hl
    exact (show False from h).elim
  | succ n ih =>
    intro v2 v3 μ H locs ls h w hl
    rw [wp_X3_peopleWho_L4_s] at h
    dsimp only at h
    refine lv_iload_n hx hb dX3_peopleWho_4 rfl (lv_at hl 3 rfl) ?_
    refine lv_aload_n hx hb dX3_peopleWho_5 rfl (lv_at hl 0 rfl) ?_
    refine x_getS C w (i := v0) (k := 4) (v := .int (μ v0 4)) kv0 (by decide) rfl mf_Staircase_38 dX3_peopleWho_6 ?_
    refine lv_icmp_ge (tgt := 34) hx hb dX3_peopleWho_9 (by decide) (fun c_1 => ?_) (fun c_1 => ?_)
    · have h := h.1 c_1
      refine lv_iload_n hx hb dX3_peopleWho_34 rfl (lv_at hl 2 rfl) ?_
      exact x_iret C w h dX3_peopleWho_35
    · have h := h.2 c_1
      refine lv_aload_n hx hb dX3_peopleWho_12 rfl (lv_at hl 0 rfl) ?_
      refine x_getS C w (i := v0) (k := 1) (v := .ref (ad (v0 + 2))) kv0 (by decide) rfl mf_Staircase_20 dX3_peopleWho_13 ?_
      refine lv_iload_n hx hb dX3_peopleWho_16 rfl (lv_at hl 3 rfl) ?_
      have hi := h.1
      have h := h.2
      refine x_aldP C w (kS2 kv0) hi dX3_peopleWho_17 ?_
      have k_2 := kSP (kS2 kv0) hi
      refine x_getP C w (i := ((v0 + 2) + 2 + v3.toNatClampNeg)) (k := 2) k_2 (by decide) mf_Staircase_75 dX3_peopleWho_18 ?_
      refine lv_iload_n hx hb dX3_peopleWho_21 rfl (lv_at hl 1 rfl) ?_
      refine lv_icmp_ne (tgt := 28) hx hb dX3_peopleWho_22 (by decide) (fun c_3 => ?_) (fun c_3 => ?_)
      · have h := h.1 c_3
        refine lv_iinc (v := (v3 + 1)) (lv' := [(3, .int (v3 + 1)), (0, .ref (ad v0)), (1, .int v1), (2, .int v2)]) hx hb dX3_peopleWho_28 hl (k := 3) rfl rfl (by decide) rfl (fun ls hl => ?_)
        refine lv_goto (tgt := 4) hx hb dX3_peopleWho_31 (by decide) ?_
        exact ih v2 (v3 + 1) μ _ _ _ h w (lv_sub hl [1, 2, 3, 0] rfl)
      · have h := h.2 c_3
        refine lv_iinc (v := (v2 + 1)) (lv' := [(2, .int (v2 + 1)), (0, .ref (ad v0)), (1, .int v1), (3, .int v3)]) hx hb dX3_peopleWho_25 hl (k := 2) rfl rfl (by decide) rfl (fun ls hl => ?_)
        refine lv_iinc (v := (v3 + 1)) (lv' := [(3, .int (v3 + 1)), (2, .int (v2 + 1)), (0, .ref (ad v0)), (1, .int v1)]) hx hb dX3_peopleWho_28 hl (k := 3) rfl rfl (by decide) rfl (fun ls hl => ?_)
        refine lv_goto (tgt := 4) hx hb dX3_peopleWho_31 (by decide) ?_
        exact ih (v2 + 1) (v3 + 1) μ _ _ _ h w (lv_sub hl [2, 3, 1, 0] rfl)
set_option maxHeartbeats 4000000 in
set_option maxRecDepth 100000 in
theorem c_X3_peopleWho (l : Launch) (g : Gv) (ad : Nat → Nat) (μ : Mem) (sz : Nat) (b0 : Nat) (k0 : kd b0 = 9) (a1 : Int32) {K : Int32 → Mem → Prop} (h : wp_X3_peopleWho b0 a1 μ K) : Met l yX3_peopleWho (wX yX3_peopleWho cX3_peopleWho 4 (some .int)) rm_X3_peopleWho (Pre g ad μ sz [.ref (ad b0), .int a1]) (PostI g ad sz K) 0 0 (Aw ad sz) := by
  refine Met.ofW (cc := cX3_peopleWho) (maxL := 4) (ret := (some .int)) (by decide) rfl ?_
  intro p e s m args below meth c s₁ B hml hv
  obtain ⟨rfl, rfl, C, w⟩ := x_start B hml hv
  obtain ⟨hx, hb, hml, -, hts, hown, -, -, hN⟩ := id C
  have hl := lv_entry ([.ref (ad b0), .int a1]) (n := 4) (Nat.le_of_ble_eq_true rfl)
  rw [lg_entry_eq]
  generalize (lg_sl ([.ref (ad b0), .int a1]) ++ List.replicate (4 - (lg_sl ([.ref (ad b0), .int a1])).length) Slot.unset).toArray = ls at hl ⊢
  have hl : lv_has ls 4 [(0, .ref (ad b0)), (1, .int a1)] := hl
  show W p l e rm_X3_peopleWho s m _ below meth c s.heap [] 0 0 _ _
  unfold wp_X3_peopleWho at h
  refine lv_iconst (v := 0) hx hb dX3_peopleWho_0 (by decide) ?_
  refine lv_istore_n (lv' := [(2, .int 0), (0, .ref (ad b0)), (1, .int a1)]) hx hb dX3_peopleWho_1 rfl hl (by decide) rfl (fun ls hl => ?_)
  refine lv_iconst (v := 0) hx hb dX3_peopleWho_2 (by decide) ?_
  refine lv_istore_n (lv' := [(3, .int 0), (2, .int 0), (0, .ref (ad b0)), (1, .int a1)]) hx hb dX3_peopleWho_3 rfl hl (by decide) rfl (fun ls hl => ?_)
  obtain ⟨n_4, h⟩ := h
  exact t_X3_peopleWho_L4 C k0 n_4 0 0 μ _ _ _ h w (lv_sub hl [2, 3, 1, 0] rfl)
abbrev rm_X3_sumOf : Room := { frames := 2, cells := 0, slots := 0, locals := 41 }
noncomputable def wp_X3_sumOf_L4 (v0 : Nat) (v1 : Int32) (K : Int32 → Mem → Prop) (n : Nat) : Int32 → Int32 → Mem → Prop :=
  Nat.rec (motive := fun _ => Int32 → Int32 → Mem → Prop) (fun _ _ _ => False) (fun _ ih v2 v3 μ =>
    (((μ v0 4) ≤ v3 → K v2 μ) ∧ (¬ (μ v0 4) ≤ v3 → (vp_in v3 24 ∧ (wp_X2_tell ((v0 + 2) + 2 + v3.toNatClampNeg) v1 μ (fun r_4 m_3 => ih (v2 + r_4) (v3 + 1) m_3)))))) n
theorem wp_X3_sumOf_L4_s (v0 : Nat) (v1 : Int32) (K : Int32 → Mem → Prop) (n : Nat) (v2 : Int32) (v3 : Int32) (μ : Mem) : wp_X3_sumOf_L4 v0 v1 K (n + 1) v2 v3 μ = (
    let ih := wp_X3_sumOf_L4 v0 v1 K n
    (((μ v0 4) ≤ v3 → K v2 μ) ∧ (¬ (μ v0 4) ≤ v3 → (vp_in v3 24 ∧ (wp_X2_tell ((v0 + 2) + 2 + v3.toNatClampNeg) v1 μ (fun r_4 m_3 => ih (v2 + r_4) (v3 + 1) m_3)))))) := rfl
noncomputable def wp_X3_sumOf (b0 : Nat) (a1 : Int32) (μ : Mem) (K : Int32 → Mem → Prop) : Prop :=
    (∃ n, wp_X3_sumOf_L4 b0 a1 K n 0 0 μ)
set_option maxHeartbeats 4000000 in
set_option maxRecDepth 100000 in
theorem t_X3_sumOf_L4 {g : Gv} {ad : Nat → Nat} {l : Launch} {p : Program} {e : Env} {s : State} {m : MethodId} {args : Array Value} {below : List Frame} {meth : Method} {c : Code} (C : Cx g p s m args meth c "StairBows$Staircase" cX3_sumOf 4 (some .int)) {v0 : Nat} {v1 : Int32}  {K : Int32 → Mem → Prop}  (kv0 : kd v0 = 9)  : ∀ (n : Nat) (v2 : Int32) (v3 : Int32) (μ : Mem) (H : Heap) (locs : List Loc) (ls : Array Slot), wp_X3_sumOf_L4 v0 v1 K n v2 v3 μ → Wd g ad μ (Aw ad s.heap.size) s H locs → lv_has ls 4 [(0, .ref (ad v0)), (1, .int v1), (2, .int v2), (3, .int v3)] → W p l e rm_X3_sumOf s m args below meth c H locs 0 0 (MQ below (PostI g ad s.heap.size K) args s 0 0 (Aw ad s.heap.size)) (F0 m 4 ls []) := by
  obtain ⟨hx, hb, hml, -, hts, hown, -, -, hN⟩ := id C
  intro n
  induction n with
  | zero =>
    intro v2 v3 μ H locs ls h w hl
    exact (show False from h).elim
  | succ n ih =>
    intro v2 v3 μ H locs ls h w hl
    rw [wp_X3_sumOf_L4_s] at h
    dsimp only at h
    refine lv_iload_n hx hb dX3_sumOf_4 rfl (lv_at hl 3 rfl) ?_
    refine lv_aload_n hx hb dX3_sumOf_5 rfl (lv_at hl 0 rfl) ?_
    refine x_getS C w (i := v0) (k := 4) (v := .int (μ v0 4)) kv0 (by decide) rfl mf_Staircase_38 dX3_sumOf_6 ?_
    refine lv_icmp_ge (tgt := 31) hx hb dX3_sumOf_9 (by decide) (fun c_1 => ?_) (fun c_1 => ?_)
    · have h := h.1 c_1
      refine lv_iload_n hx hb dX3_sumOf_31 rfl (lv_at hl 2 rfl) ?_
      exact x_iret C w h dX3_sumOf_32
    · have h := h.2 c_1
      refine lv_iload_n hx hb dX3_sumOf_12 rfl (lv_at hl 2 rfl) ?_
      refine lv_aload_n hx hb dX3_sumOf_13 rfl (lv_at hl 0 rfl) ?_
      refine x_getS C w (i := v0) (k := 1) (v := .ref (ad (v0 + 2))) kv0 (by decide) rfl mf_Staircase_20 dX3_sumOf_14 ?_
      refine lv_iload_n hx hb dX3_sumOf_17 rfl (lv_at hl 3 rfl) ?_
      have hi := h.1
      have h := h.2
      refine x_aldP C w (kS2 kv0) hi dX3_sumOf_18 ?_
      have k_2 := kSP (kS2 kv0) hi
      refine lv_iload_n hx hb dX3_sumOf_19 rfl (lv_at hl 1 rfl) ?_
      refine x_calli C w (x_runV (i := ((v0 + 2) + 2 + v3.toNatClampNeg)) (As := [.int v1]) (rest := [.int v2]) C w k_2 (by decide) (ci := 2) rfl rfl rfl me_X2_tell ml_Staircase_78 (c_X2_tell l g ad μ _ ((v0 + 2) + 2 + v3.toNatClampNeg) k_2 v1 h) ⟨rfl, rfl⟩ ⟨Nat.le_of_ble_eq_true rfl, Nat.le_of_ble_eq_true rfl⟩ rfl hl.1 rfl (Nat.le_of_ble_eq_true rfl) dX3_sumOf_20 ⟨Nat.le_of_ble_eq_true rfl, Nat.le_of_ble_eq_true rfl⟩) (fun r_4 m_3 h H locs w => ?_)
      refine lv_iadd hx hb dX3_sumOf_23 ?_
      refine lv_istore_n (lv' := [(2, .int (v2 + r_4)), (0, .ref (ad v0)), (1, .int v1), (3, .int v3)]) hx hb dX3_sumOf_24 rfl hl (by decide) rfl (fun ls hl => ?_)
      refine lv_iinc (v := (v3 + 1)) (lv' := [(3, .int (v3 + 1)), (2, .int (v2 + r_4)), (0, .ref (ad v0)), (1, .int v1)]) hx hb dX3_sumOf_25 hl (k := 3) rfl rfl (by decide) rfl (fun ls hl => ?_)
      refine lv_goto (tgt := 4) hx hb dX3_sumOf_28 (by decide) ?_
      exact ih (v2 + r_4) (v3 + 1) m_3 _ _ _ h w (lv_sub hl [2, 3, 1, 0] rfl)
set_option maxHeartbeats 4000000 in
set_option maxRecDepth 100000 in
theorem c_X3_sumOf (l : Launch) (g : Gv) (ad : Nat → Nat) (μ : Mem) (sz : Nat) (b0 : Nat) (k0 : kd b0 = 9) (a1 : Int32) {K : Int32 → Mem → Prop} (h : wp_X3_sumOf b0 a1 μ K) : Met l yX3_sumOf (wX yX3_sumOf cX3_sumOf 4 (some .int)) rm_X3_sumOf (Pre g ad μ sz [.ref (ad b0), .int a1]) (PostI g ad sz K) 0 0 (Aw ad sz) := by
  refine Met.ofW (cc := cX3_sumOf) (maxL := 4) (ret := (some .int)) (by decide) rfl ?_
  intro p e s m args below meth c s₁ B hml hv
  obtain ⟨rfl, rfl, C, w⟩ := x_start B hml hv
  obtain ⟨hx, hb, hml, -, hts, hown, -, -, hN⟩ := id C
  have hl := lv_entry ([.ref (ad b0), .int a1]) (n := 4) (Nat.le_of_ble_eq_true rfl)
  rw [lg_entry_eq]
  generalize (lg_sl ([.ref (ad b0), .int a1]) ++ List.replicate (4 - (lg_sl ([.ref (ad b0), .int a1])).length) Slot.unset).toArray = ls at hl ⊢
  have hl : lv_has ls 4 [(0, .ref (ad b0)), (1, .int a1)] := hl
  show W p l e rm_X3_sumOf s m _ below meth c s.heap [] 0 0 _ _
  unfold wp_X3_sumOf at h
  refine lv_iconst (v := 0) hx hb dX3_sumOf_0 (by decide) ?_
  refine lv_istore_n (lv' := [(2, .int 0), (0, .ref (ad b0)), (1, .int a1)]) hx hb dX3_sumOf_1 rfl hl (by decide) rfl (fun ls hl => ?_)
  refine lv_iconst (v := 0) hx hb dX3_sumOf_2 (by decide) ?_
  refine lv_istore_n (lv' := [(3, .int 0), (2, .int 0), (0, .ref (ad b0)), (1, .int a1)]) hx hb dX3_sumOf_3 rfl hl (by decide) rfl (fun ls hl => ?_)
  obtain ⟨n_5, h⟩ := h
  exact t_X3_sumOf_L4 C k0 n_5 0 0 μ _ _ _ h w (lv_sub hl [2, 3, 1, 0] rfl)
abbrev rm_X3_isAnybodyOnWay : Room := { frames := 1, cells := 0, slots := 0, locals := 20 }
noncomputable def wp_X3_isAnybodyOnWay_L2 (v0 : Nat) (K : Int32 → Mem → Prop) (n : Nat) : Int32 → Mem → Prop :=
  Nat.rec (motive := fun _ => Int32 → Mem → Prop) (fun _ _ => False) (fun _ ih v1 μ =>
    (((μ v0 4) ≤ v1 → K 0 μ) ∧ (¬ (μ v0 4) ≤ v1 → (vp_in v1 24 ∧ (wp_X2_isOnWay ((v0 + 2) + 2 + v1.toNatClampNeg) μ (fun r_4 m_3 => ((r_4 = 0 → ih (v1 + 1) m_3) ∧ (¬ r_4 = 0 → K 1 m_3)))))))) n
theorem wp_X3_isAnybodyOnWay_L2_s (v0 : Nat) (K : Int32 → Mem → Prop) (n : Nat) (v1 : Int32) (μ : Mem) : wp_X3_isAnybodyOnWay_L2 v0 K (n + 1) v1 μ = (
    let ih := wp_X3_isAnybodyOnWay_L2 v0 K n
    (((μ v0 4) ≤ v1 → K 0 μ) ∧ (¬ (μ v0 4) ≤ v1 → (vp_in v1 24 ∧ (wp_X2_isOnWay ((v0 + 2) + 2 + v1.toNatClampNeg) μ (fun r_4 m_3 => ((r_4 = 0 → ih (v1 + 1) m_3) ∧ (¬ r_4 = 0 → K 1 m_3)))))))) := rfl
noncomputable def wp_X3_isAnybodyOnWay (b0 : Nat) (μ : Mem) (K : Int32 → Mem → Prop) : Prop :=
    (∃ n, wp_X3_isAnybodyOnWay_L2 b0 K n 0 μ)
set_option maxHeartbeats 4000000 in
set_option maxRecDepth 100000 in
theorem t_X3_isAnybodyOnWay_L2 {g : Gv} {ad : Nat → Nat} {l : Launch} {p : Program} {e : Env} {s : State} {m : MethodId} {args : Array Value} {below : List Frame} {meth : Method} {c : Code} (C : Cx g p s m args meth c "StairBows$Staircase" cX3_isAnybodyOnWay 2 (some .boolean)) {v0 : Nat}  {K : Int32 → Mem → Prop}  (kv0 : kd v0 = 9)  : ∀ (n : Nat) (v1 : Int32) (μ : Mem) (H : Heap) (locs : List Loc) (ls : Array Slot), wp_X3_isAnybodyOnWay_L2 v0 K n v1 μ → Wd g ad μ (Aw ad s.heap.size) s H locs → lv_has ls 2 [(0, .ref (ad v0)), (1, .int v1)] → W p l e rm_X3_isAnybodyOnWay s m args below meth c H locs 0 0 (MQ below (PostI g ad s.heap.size K) args s 0 0 (Aw ad s.heap.size)) (F0 m 2 ls []) := by
  obtain ⟨hx, hb, hml, -, hts, hown, -, -, hN⟩ := id C
  intro n
  induction n with
  | zero =>
    intro v1 μ H locs ls h w hl
    exact (show False from h).elim
  | succ n ih =>
    intro v1 μ H locs ls h w hl
    rw [wp_X3_isAnybodyOnWay_L2_s] at h
    dsimp only at h
    refine lv_iload_n hx hb dX3_isAnybodyOnWay_2 rfl (lv_at hl 1 rfl) ?_
    refine lv_aload_n hx hb dX3_isAnybodyOnWay_3 rfl (lv_at hl 0 rfl) ?_
    refine x_getS C w (i := v0) (k := 4) (v := .int (μ v0 4)) kv0 (by decide) rfl mf_Staircase_38 dX3_isAnybodyOnWay_4 ?_
    refine lv_icmp_ge (tgt := 30) hx hb dX3_isAnybodyOnWay_7 (by decide) (fun c_1 => ?_) (fun c_1 => ?_)
    · have h := h.1 c_1
      refine lv_iconst (v := 0) hx hb dX3_isAnybodyOnWay_30 (by decide) ?_
      exact x_zret C w (show bz 0 from Or.inl rfl) h dX3_isAnybodyOnWay_31
    · have h := h.2 c_1
      refine lv_aload_n hx hb dX3_isAnybodyOnWay_10 rfl (lv_at hl 0 rfl) ?_
      refine x_getS C w (i := v0) (k := 1) (v := .ref (ad (v0 + 2))) kv0 (by decide) rfl mf_Staircase_20 dX3_isAnybodyOnWay_11 ?_
      refine lv_iload_n hx hb dX3_isAnybodyOnWay_14 rfl (lv_at hl 1 rfl) ?_
      have hi := h.1
      have h := h.2
      refine x_aldP C w (kS2 kv0) hi dX3_isAnybodyOnWay_15 ?_
      have k_2 := kSP (kS2 kv0) hi
      refine x_calli C w (x_runV (i := ((v0 + 2) + 2 + v1.toNatClampNeg)) (As := []) (rest := []) C w k_2 (by decide) (ci := 2) rfl rfl rfl me_X2_isOnWay ml_Staircase_81 (c_X2_isOnWay l g ad μ _ ((v0 + 2) + 2 + v1.toNatClampNeg) k_2 h) ⟨rfl, rfl⟩ ⟨Nat.le_of_ble_eq_true rfl, Nat.le_of_ble_eq_true rfl⟩ rfl hl.1 rfl (Nat.le_of_ble_eq_true rfl) dX3_isAnybodyOnWay_16 ⟨Nat.le_of_ble_eq_true rfl, Nat.le_of_ble_eq_true rfl⟩) (fun r_4 m_3 h H locs w => ?_)
      refine lv_if_eq (tgt := 24) hx hb dX3_isAnybodyOnWay_19 (by decide) (fun c_5 => ?_) (fun c_5 => ?_)
      · have h := h.1 c_5
        refine lv_iinc (v := (v1 + 1)) (lv' := [(1, .int (v1 + 1)), (0, .ref (ad v0))]) hx hb dX3_isAnybodyOnWay_24 hl (k := 1) rfl rfl (by decide) rfl (fun ls hl => ?_)
        refine lv_goto (tgt := 2) hx hb dX3_isAnybodyOnWay_27 (by decide) ?_
        exact ih (v1 + 1) m_3 _ _ _ h w (lv_sub hl [1, 0] rfl)
      · have h := h.2 c_5
        refine lv_iconst (v := 1) hx hb dX3_isAnybodyOnWay_22 (by decide) ?_
        exact x_zret C w (show bz 1 from Or.inr rfl) h dX3_isAnybodyOnWay_23
set_option maxHeartbeats 4000000 in
set_option maxRecDepth 100000 in
theorem c_X3_isAnybodyOnWay (l : Launch) (g : Gv) (ad : Nat → Nat) (μ : Mem) (sz : Nat) (b0 : Nat) (k0 : kd b0 = 9) {K : Int32 → Mem → Prop} (h : wp_X3_isAnybodyOnWay b0 μ K) : Met l yX3_isAnybodyOnWay (wX yX3_isAnybodyOnWay cX3_isAnybodyOnWay 2 (some .boolean)) rm_X3_isAnybodyOnWay (Pre g ad μ sz [.ref (ad b0)]) (PostI g ad sz K) 0 0 (Aw ad sz) := by
  refine Met.ofW (cc := cX3_isAnybodyOnWay) (maxL := 2) (ret := (some .boolean)) (by decide) rfl ?_
  intro p e s m args below meth c s₁ B hml hv
  obtain ⟨rfl, rfl, C, w⟩ := x_start B hml hv
  obtain ⟨hx, hb, hml, -, hts, hown, -, -, hN⟩ := id C
  have hl := lv_entry ([.ref (ad b0)]) (n := 2) (Nat.le_of_ble_eq_true rfl)
  rw [lg_entry_eq]
  generalize (lg_sl ([.ref (ad b0)]) ++ List.replicate (2 - (lg_sl ([.ref (ad b0)])).length) Slot.unset).toArray = ls at hl ⊢
  have hl : lv_has ls 2 [(0, .ref (ad b0))] := hl
  show W p l e rm_X3_isAnybodyOnWay s m _ below meth c s.heap [] 0 0 _ _
  unfold wp_X3_isAnybodyOnWay at h
  refine lv_iconst (v := 0) hx hb dX3_isAnybodyOnWay_0 (by decide) ?_
  refine lv_istore_n (lv' := [(1, .int 0), (0, .ref (ad b0))]) hx hb dX3_isAnybodyOnWay_1 rfl hl (by decide) rfl (fun ls hl => ?_)
  obtain ⟨n_6, h⟩ := h
  exact t_X3_isAnybodyOnWay_L2 C k0 n_6 0 μ _ _ _ h w (lv_sub hl [1, 0] rfl)
abbrev rm_X3_bring : Room := { frames := 1, cells := 0, slots := 0, locals := 20 }
noncomputable def wp_X3_bring_B23 (v0 : Nat) (v1 : Nat) (v2 : Int32) (v3 : Int32) (v4 : Int32) (K : Mem → Prop) (μ : Mem) : Prop :=
    (wp_X4_isStep v2 μ (fun r_5 m_4 => ((r_5 = 0 → (∀ m_7, m_7 = up2 m_4 v1 7 ((m_4 v0 5) + 1) → (∀ m_9, m_9 = up2 m_7 v1 3 v2 → (∀ m_11, m_11 = up2 m_9 v1 2 v3 → (∀ m_13, m_13 = up2 m_11 v1 9 v4 → (∀ m_15, m_15 = up2 m_13 v1 8 0 → K m_15)))))) ∧ (¬ r_5 = 0 → (vp_in v2 12 ∧ (vp_in v2 12 ∧ (∀ m_17, m_17 = up2 m_4 (v0 + 3) v2.toNatClampNeg ((m_4 (v0 + 3) v2.toNatClampNeg) + 1) → (∀ m_19, m_19 = up2 m_17 v1 3 v2 → (∀ m_21, m_21 = up2 m_19 v1 2 v3 → (∀ m_23, m_23 = up2 m_21 v1 9 v4 → (∀ m_25, m_25 = up2 m_23 v1 8 0 → K m_25)))))))))))
noncomputable def wp_X3_bring (b0 : Nat) (a1 : Nat) (a2 : Int32) (a3 : Int32) (a4 : Int32) (μ : Mem) (K : Mem → Prop) : Prop :=
    (wp_X4_isStep (μ a1 3) μ (fun r_2 m_1 => ((r_2 = 0 → wp_X3_bring_B23 b0 a1 a2 a3 a4 K m_1) ∧ (¬ r_2 = 0 → (vp_in (m_1 a1 3) 12 ∧ (vp_in (m_1 a1 3) 12 ∧ (∀ m_27, m_27 = up2 m_1 (b0 + 3) ((m_1 a1 3).toNatClampNeg) ((m_1 (b0 + 3) (m_1 a1 3).toNatClampNeg) - 1) → wp_X3_bring_B23 b0 a1 a2 a3 a4 K m_27)))))))
set_option maxHeartbeats 4000000 in
set_option maxRecDepth 100000 in
theorem t_X3_bring_B23 {g : Gv} {ad : Nat → Nat} {l : Launch} {p : Program} {e : Env} {s : State} {m : MethodId} {args : Array Value} {below : List Frame} {meth : Method} {c : Code} (C : Cx g p s m args meth c "StairBows$Staircase" cX3_bring 5 none) {v0 : Nat} {v1 : Nat} {v2 : Int32} {v3 : Int32} {v4 : Int32}  {K : Mem → Prop}  (kv0 : kd v0 = 9) (kv1 : kd v1 = 13)  (μ : Mem) (H : Heap) (locs : List Loc) (ls : Array Slot) (h : wp_X3_bring_B23 v0 v1 v2 v3 v4 K μ) (w : Wd g ad μ (Aw ad s.heap.size) s H locs) (hl : lv_has ls 5 [(0, .ref (ad v0)), (1, .ref (ad v1)), (2, .int v2), (3, .int v3), (4, .int v4)]) : W p l e rm_X3_bring s m args below meth c H locs 0 0 (MQ below (PostV g ad s.heap.size K) args s 0 0 (Aw ad s.heap.size)) (F0 m 23 ls []) := by
  obtain ⟨hx, hb, hml, -, hts, hown, -, -, hN⟩ := id C
  unfold wp_X3_bring_B23 at h
  refine lv_iload_n hx hb dX3_bring_23 rfl (lv_at hl 2 rfl) ?_
  refine x_calli C w (x_runSN (host := "StairBows") (As := [.int v2]) (rest := []) C w me_X4_isStep hN (c_X4_isStep l g ad μ _ v2 h) ⟨rfl, rfl⟩ ⟨Nat.le_of_ble_eq_true rfl, Nat.le_of_ble_eq_true rfl⟩ rfl hl.1 rfl (Nat.le_of_ble_eq_true rfl) dX3_bring_24 ⟨Nat.le_of_ble_eq_true rfl, Nat.le_of_ble_eq_true rfl⟩) (fun r_5 m_4 h H locs w => ?_)
  refine lv_if_eq (tgt := 43) hx hb dX3_bring_27 (by decide) (fun c_6 => ?_) (fun c_6 => ?_)
  · have h := h.1 c_6
    refine lv_aload_n hx hb dX3_bring_43 rfl (lv_at hl 1 rfl) ?_
    refine lv_aload_n hx hb dX3_bring_44 rfl (lv_at hl 0 rfl) ?_
    refine x_getS C w (i := v0) (k := 5) (v := .int (m_4 v0 5)) kv0 (by decide) rfl mf_Staircase_41 dX3_bring_45 ?_
    refine lv_iconst (v := 1) hx hb dX3_bring_48 (by decide) ?_
    refine lv_iadd hx hb dX3_bring_49 ?_
    refine x_putP C w (i := v1) (k := 7) kv1 (by decide) mf_Staircase_130 rfl rfl rfl rfl dX3_bring_50 (fun m_7 e_8 H locs w => ?_)
    have h := h m_7 e_8
    refine lv_aload_n hx hb dX3_bring_53 rfl (lv_at hl 1 rfl) ?_
    refine lv_iload_n hx hb dX3_bring_54 rfl (lv_at hl 2 rfl) ?_
    refine x_putP C w (i := v1) (k := 3) kv1 (by decide) mf_Staircase_127 rfl rfl rfl rfl dX3_bring_55 (fun m_9 e_10 H locs w => ?_)
    have h := h m_9 e_10
    refine lv_aload_n hx hb dX3_bring_58 rfl (lv_at hl 1 rfl) ?_
    refine lv_iload_n hx hb dX3_bring_59 rfl (lv_at hl 3 rfl) ?_
    refine x_putP C w (i := v1) (k := 2) kv1 (by decide) mf_Staircase_75 rfl rfl rfl rfl dX3_bring_60 (fun m_11 e_12 H locs w => ?_)
    have h := h m_11 e_12
    refine lv_aload_n hx hb dX3_bring_63 rfl (lv_at hl 1 rfl) ?_
    refine lv_iload hx hb dX3_bring_64 (lv_at hl 4 rfl) ?_
    refine x_putP C w (i := v1) (k := 9) kv1 (by decide) mf_Staircase_85 rfl rfl rfl rfl dX3_bring_66 (fun m_13 e_14 H locs w => ?_)
    have h := h m_13 e_14
    refine lv_aload_n hx hb dX3_bring_69 rfl (lv_at hl 1 rfl) ?_
    refine lv_iconst (v := 0) hx hb dX3_bring_70 (by decide) ?_
    refine x_putP C w (i := v1) (k := 8) kv1 (by decide) mf_Staircase_109 rfl rfl rfl rfl dX3_bring_71 (fun m_15 e_16 H locs w => ?_)
    have h := h m_15 e_16
    exact x_vret C w h dX3_bring_74
  · have h := h.2 c_6
    refine lv_aload_n hx hb dX3_bring_30 rfl (lv_at hl 0 rfl) ?_
    refine x_getS C w (i := v0) (k := 2) (v := .ref (ad (v0 + 3))) kv0 (by decide) rfl mf_Staircase_24 dX3_bring_31 ?_
    refine lv_iload_n hx hb dX3_bring_34 rfl (lv_at hl 2 rfl) ?_
    refine lv_dup2_11 hx hb dX3_bring_35 rfl rfl ?_
    refine x_iald C w (i := (v0 + 3)) (K := 12) (j := v2) (n := 12) (jn := v2.toNatClampNeg) rfl (kS3 kv0) (by decide) rfl (show vp_in v2 12 from h.1) dX3_bring_36 ?_
    have h := h.2
    refine lv_iconst (v := 1) hx hb dX3_bring_37 (by decide) ?_
    refine lv_iadd hx hb dX3_bring_38 ?_
    refine x_iast C w (i := (v0 + 3)) (K := 12) (n := 12) (jn := v2.toNatClampNeg) rfl (kS3 kv0) (by decide) (fun _ => rfl) (show vp_in v2 12 from h.1) dX3_bring_39 (fun m_17 e_18 H locs w => ?_)
    have h := h.2 m_17 e_18
    refine lv_goto (tgt := 53) hx hb dX3_bring_40 (by decide) ?_
    refine lv_aload_n hx hb dX3_bring_53 rfl (lv_at hl 1 rfl) ?_
    refine lv_iload_n hx hb dX3_bring_54 rfl (lv_at hl 2 rfl) ?_
    refine x_putP C w (i := v1) (k := 3) kv1 (by decide) mf_Staircase_127 rfl rfl rfl rfl dX3_bring_55 (fun m_19 e_20 H locs w => ?_)
    have h := h m_19 e_20
    refine lv_aload_n hx hb dX3_bring_58 rfl (lv_at hl 1 rfl) ?_
    refine lv_iload_n hx hb dX3_bring_59 rfl (lv_at hl 3 rfl) ?_
    refine x_putP C w (i := v1) (k := 2) kv1 (by decide) mf_Staircase_75 rfl rfl rfl rfl dX3_bring_60 (fun m_21 e_22 H locs w => ?_)
    have h := h m_21 e_22
    refine lv_aload_n hx hb dX3_bring_63 rfl (lv_at hl 1 rfl) ?_
    refine lv_iload hx hb dX3_bring_64 (lv_at hl 4 rfl) ?_
    refine x_putP C w (i := v1) (k := 9) kv1 (by decide) mf_Staircase_85 rfl rfl rfl rfl dX3_bring_66 (fun m_23 e_24 H locs w => ?_)
    have h := h m_23 e_24
    refine lv_aload_n hx hb dX3_bring_69 rfl (lv_at hl 1 rfl) ?_
    refine lv_iconst (v := 0) hx hb dX3_bring_70 (by decide) ?_
    refine x_putP C w (i := v1) (k := 8) kv1 (by decide) mf_Staircase_109 rfl rfl rfl rfl dX3_bring_71 (fun m_25 e_26 H locs w => ?_)
    have h := h m_25 e_26
    exact x_vret C w h dX3_bring_74
set_option maxHeartbeats 4000000 in
set_option maxRecDepth 100000 in
theorem c_X3_bring (l : Launch) (g : Gv) (ad : Nat → Nat) (μ : Mem) (sz : Nat) (b0 : Nat) (k0 : kd b0 = 9) (a1 : Nat) (k1 : kd a1 = 13) (a2 : Int32) (a3 : Int32) (a4 : Int32) {K : Mem → Prop} (h : wp_X3_bring b0 a1 a2 a3 a4 μ K) : Met l yX3_bring (wX yX3_bring cX3_bring 5 none) rm_X3_bring (Pre g ad μ sz [.ref (ad b0), .ref (ad a1), .int a2, .int a3, .int a4]) (PostV g ad sz K) 0 0 (Aw ad sz) := by
  refine Met.ofW (cc := cX3_bring) (maxL := 5) (ret := none) (by decide) rfl ?_
  intro p e s m args below meth c s₁ B hml hv
  obtain ⟨rfl, rfl, C, w⟩ := x_start B hml hv
  obtain ⟨hx, hb, hml, -, hts, hown, -, -, hN⟩ := id C
  have hl := lv_entry ([.ref (ad b0), .ref (ad a1), .int a2, .int a3, .int a4]) (n := 5) (Nat.le_of_ble_eq_true rfl)
  rw [lg_entry_eq]
  generalize (lg_sl ([.ref (ad b0), .ref (ad a1), .int a2, .int a3, .int a4]) ++ List.replicate (5 - (lg_sl ([.ref (ad b0), .ref (ad a1), .int a2, .int a3, .int a4])).length) Slot.unset).toArray = ls at hl ⊢
  have hl : lv_has ls 5 [(0, .ref (ad b0)), (1, .ref (ad a1)), (2, .int a2), (3, .int a3), (4, .int a4)] := hl
  show W p l e rm_X3_bring s m _ below meth c s.heap [] 0 0 _ _
  unfold wp_X3_bring at h
  refine lv_aload_n hx hb dX3_bring_0 rfl (lv_at hl 1 rfl) ?_
  refine x_getP C w (i := a1) (k := 3) k1 (by decide) mf_Staircase_127 dX3_bring_1 ?_
  refine x_calli C w (x_runSN (host := "StairBows") (As := [.int (μ a1 3)]) (rest := []) C w me_X4_isStep hN (c_X4_isStep l g ad μ _ (μ a1 3) h) ⟨rfl, rfl⟩ ⟨Nat.le_of_ble_eq_true rfl, Nat.le_of_ble_eq_true rfl⟩ rfl hl.1 rfl (Nat.le_of_ble_eq_true rfl) dX3_bring_4 ⟨Nat.le_of_ble_eq_true rfl, Nat.le_of_ble_eq_true rfl⟩) (fun r_2 m_1 h H locs w => ?_)
  refine lv_if_eq (tgt := 23) hx hb dX3_bring_7 (by decide) (fun c_3 => ?_) (fun c_3 => ?_)
  · have h := h.1 c_3
    exact t_X3_bring_B23 C k0 k1 m_1 _ _ _ h w (lv_sub hl [0, 1, 2, 3, 4] rfl)
  · have h := h.2 c_3
    refine lv_aload_n hx hb dX3_bring_10 rfl (lv_at hl 0 rfl) ?_
    refine x_getS C w (i := b0) (k := 2) (v := .ref (ad (b0 + 3))) k0 (by decide) rfl mf_Staircase_24 dX3_bring_11 ?_
    refine lv_aload_n hx hb dX3_bring_14 rfl (lv_at hl 1 rfl) ?_
    refine x_getP C w (i := a1) (k := 3) k1 (by decide) mf_Staircase_127 dX3_bring_15 ?_
    refine lv_dup2_11 hx hb dX3_bring_18 rfl rfl ?_
    refine x_iald C w (i := (b0 + 3)) (K := 12) (j := (m_1 a1 3)) (n := 12) (jn := (m_1 a1 3).toNatClampNeg) rfl (kS3 k0) (by decide) rfl (show vp_in (m_1 a1 3) 12 from h.1) dX3_bring_19 ?_
    have h := h.2
    refine lv_iconst (v := 1) hx hb dX3_bring_20 (by decide) ?_
    refine lv_isub hx hb dX3_bring_21 ?_
    refine x_iast C w (i := (b0 + 3)) (K := 12) (n := 12) (jn := (m_1 a1 3).toNatClampNeg) rfl (kS3 k0) (by decide) (fun _ => rfl) (show vp_in (m_1 a1 3) 12 from h.1) dX3_bring_22 (fun m_27 e_28 H locs w => ?_)
    have h := h.2 m_27 e_28
    exact t_X3_bring_B23 C k0 k1 m_27 _ _ _ h w (lv_sub hl [0, 1, 2, 3, 4] rfl)
abbrev rm_X3_yielderOn : Room := { frames := 1, cells := 0, slots := 0, locals := 21 }
noncomputable def wp_X3_yielderOn_L5 (v0 : Nat) (v1 : Int32) (v2 : Nat) (K : Option Nat → Mem → Prop) (n : Nat) : Option Nat → Int32 → Mem → Prop :=
  Nat.rec (motive := fun _ => Option Nat → Int32 → Mem → Prop) (fun _ _ _ => False) (fun _ ih v3 v4 μ =>
    (((μ v0 4) ≤ v4 → K v3 μ) ∧ (¬ (μ v0 4) ≤ v4 → (vp_in v4 24 ∧ (wp_X2_standsOn ((v0 + 2) + 2 + v4.toNatClampNeg) v1 μ (fun r_4 m_3 => ((r_4 = 0 → ih v3 (v4 + 1) m_3) ∧ (¬ r_4 = 0 → (wp_X2_yieldsTo ((v0 + 2) + 2 + v4.toNatClampNeg) v2 m_3 (fun r_7 m_6 => ((r_7 = 0 → ih v3 (v4 + 1) m_6) ∧ (¬ r_7 = 0 → ((v3 = none → ih (some ((v0 + 2) + 2 + v4.toNatClampNeg)) (v4 + 1) m_6) ∧ (∀ q_9, v3 = some q_9 → (((m_6 q_9 0) ≤ (m_6 ((v0 + 2) + 2 + v4.toNatClampNeg) 0) → ih (some q_9) (v4 + 1) m_6) ∧ (¬ (m_6 q_9 0) ≤ (m_6 ((v0 + 2) + 2 + v4.toNatClampNeg) 0) → ih (some ((v0 + 2) + 2 + v4.toNatClampNeg)) (v4 + 1) m_6)))))))))))))))) n
theorem wp_X3_yielderOn_L5_s (v0 : Nat) (v1 : Int32) (v2 : Nat) (K : Option Nat → Mem → Prop) (n : Nat) (v3 : Option Nat) (v4 : Int32) (μ : Mem) : wp_X3_yielderOn_L5 v0 v1 v2 K (n + 1) v3 v4 μ = (
    let ih := wp_X3_yielderOn_L5 v0 v1 v2 K n
    (((μ v0 4) ≤ v4 → K v3 μ) ∧ (¬ (μ v0 4) ≤ v4 → (vp_in v4 24 ∧ (wp_X2_standsOn ((v0 + 2) + 2 + v4.toNatClampNeg) v1 μ (fun r_4 m_3 => ((r_4 = 0 → ih v3 (v4 + 1) m_3) ∧ (¬ r_4 = 0 → (wp_X2_yieldsTo ((v0 + 2) + 2 + v4.toNatClampNeg) v2 m_3 (fun r_7 m_6 => ((r_7 = 0 → ih v3 (v4 + 1) m_6) ∧ (¬ r_7 = 0 → ((v3 = none → ih (some ((v0 + 2) + 2 + v4.toNatClampNeg)) (v4 + 1) m_6) ∧ (∀ q_9, v3 = some q_9 → (((m_6 q_9 0) ≤ (m_6 ((v0 + 2) + 2 + v4.toNatClampNeg) 0) → ih (some q_9) (v4 + 1) m_6) ∧ (¬ (m_6 q_9 0) ≤ (m_6 ((v0 + 2) + 2 + v4.toNatClampNeg) 0) → ih (some ((v0 + 2) + 2 + v4.toNatClampNeg)) (v4 + 1) m_6)))))))))))))))) := rfl
noncomputable def wp_X3_yielderOn (b0 : Nat) (a1 : Int32) (a2 : Nat) (μ : Mem) (K : Option Nat → Mem → Prop) : Prop :=
    (∃ n, wp_X3_yielderOn_L5 b0 a1 a2 K n none 0 μ)
set_option maxHeartbeats 4000000 in
set_option maxRecDepth 100000 in
theorem t_X3_yielderOn_L5 {g : Gv} {ad : Nat → Nat} {l : Launch} {p : Program} {e : Env} {s : State} {m : MethodId} {args : Array Value} {below : List Frame} {meth : Method} {c : Code} (C : Cx g p s m args meth c "StairBows$Staircase" cX3_yielderOn 6 (some (.object "StairBows$Person"))) {v0 : Nat} {v1 : Int32} {v2 : Nat}  {K : Option Nat → Mem → Prop}  (kv0 : kd v0 = 9) (kv2 : kd v2 = 13)  : ∀ (n : Nat) (v3 : Option Nat) (v4 : Int32) (kv3 : ∀ q, v3 = some q → kd q = 13) (μ : Mem) (H : Heap) (locs : List Loc) (ls : Array Slot), wp_X3_yielderOn_L5 v0 v1 v2 K n v3 v4 μ → Wd g ad μ (Aw ad s.heap.size) s H locs → lv_has ls 6 [(0, .ref (ad v0)), (1, .int v1), (2, .ref (ad v2)), (3, va_re ad v3), (4, .int v4)] → W p l e rm_X3_yielderOn s m args below meth c H locs 0 0 (MQ below (PostR g ad s.heap.size K) args s 0 0 (Aw ad s.heap.size)) (F0 m 5 ls []) := by
  obtain ⟨hx, hb, hml, -, hts, hown, -, -, hN⟩ := id C
  intro n
  induction n with
  | zero =>
    intro v3 v4 kv3 μ H locs ls h w hl
    exact (show False from h).elim
  | succ n ih =>
    intro v3 v4 kv3 μ H locs ls h w hl
    rw [wp_X3_yielderOn_L5_s] at h
    dsimp only at h
    refine lv_iload hx hb dX3_yielderOn_5 (lv_at hl 4 rfl) ?_
    refine lv_aload_n hx hb dX3_yielderOn_7 rfl (lv_at hl 0 rfl) ?_
    refine x_getS C w (i := v0) (k := 4) (v := .int (μ v0 4)) kv0 (by decide) rfl mf_Staircase_38 dX3_yielderOn_8 ?_
    refine lv_icmp_ge (tgt := 66) hx hb dX3_yielderOn_11 (by decide) (fun c_1 => ?_) (fun c_1 => ?_)
    · have h := h.1 c_1
      refine x_aload_nR hx hb dX3_yielderOn_66 rfl (lv_at hl 3 rfl) ?_
      exact x_aret C w kv3 h dX3_yielderOn_67
    · have h := h.2 c_1
      refine lv_aload_n hx hb dX3_yielderOn_14 rfl (lv_at hl 0 rfl) ?_
      refine x_getS C w (i := v0) (k := 1) (v := .ref (ad (v0 + 2))) kv0 (by decide) rfl mf_Staircase_20 dX3_yielderOn_15 ?_
      refine lv_iload hx hb dX3_yielderOn_18 (lv_at hl 4 rfl) ?_
      have hi := h.1
      have h := h.2
      refine x_aldP C w (kS2 kv0) hi dX3_yielderOn_20 ?_
      have k_2 := kSP (kS2 kv0) hi
      refine lv_astore (lv' := [(5, .ref (ad ((v0 + 2) + 2 + v4.toNatClampNeg))), (0, .ref (ad v0)), (1, .int v1), (2, .ref (ad v2)), (3, va_re ad v3), (4, .int v4)]) hx hb dX3_yielderOn_21 hl (by decide) rfl (fun ls hl => ?_)
      refine lv_aload hx hb dX3_yielderOn_23 (lv_at hl 0 rfl) ?_
      refine lv_iload_n hx hb dX3_yielderOn_25 rfl (lv_at hl 2 rfl) ?_
      refine x_calli C w (x_runV (i := ((v0 + 2) + 2 + v4.toNatClampNeg)) (As := [.int v1]) (rest := []) C w k_2 (by decide) (ci := 2) rfl rfl rfl me_X2_standsOn ml_Staircase_69 (c_X2_standsOn l g ad μ _ ((v0 + 2) + 2 + v4.toNatClampNeg) k_2 v1 h) ⟨rfl, rfl⟩ ⟨Nat.le_of_ble_eq_true rfl, Nat.le_of_ble_eq_true rfl⟩ rfl hl.1 rfl (Nat.le_of_ble_eq_true rfl) dX3_yielderOn_26 ⟨Nat.le_of_ble_eq_true rfl, Nat.le_of_ble_eq_true rfl⟩) (fun r_4 m_3 h H locs w => ?_)
      refine lv_if_eq (tgt := 60) hx hb dX3_yielderOn_29 (by decide) (fun c_5 => ?_) (fun c_5 => ?_)
      · have h := h.1 c_5
        refine lv_iinc (v := (v4 + 1)) (lv' := [(4, .int (v4 + 1)), (5, .ref (ad ((v0 + 2) + 2 + v4.toNatClampNeg))), (0, .ref (ad v0)), (1, .int v1), (2, .ref (ad v2)), (3, va_re ad v3)]) hx hb dX3_yielderOn_60 hl (k := 5) rfl rfl (by decide) (by cases v3 <;> rfl) (fun ls hl => ?_)
        refine lv_goto (tgt := 5) hx hb dX3_yielderOn_63 (by decide) ?_
        exact ih v3 (v4 + 1) kv3 m_3 _ _ _ h w (lv_sub hl [2, 3, 4, 5, 0] rfl)
      · have h := h.2 c_5
        refine lv_aload hx hb dX3_yielderOn_32 (lv_at hl 0 rfl) ?_
        refine lv_aload_n hx hb dX3_yielderOn_34 rfl (lv_at hl 3 rfl) ?_
        refine x_calli C w (x_runV (i := ((v0 + 2) + 2 + v4.toNatClampNeg)) (As := [.ref (ad v2)]) (rest := []) C w k_2 (by decide) (ci := 2) rfl rfl rfl me_X2_yieldsTo ml_Staircase_123 (c_X2_yieldsTo l g ad m_3 _ ((v0 + 2) + 2 + v4.toNatClampNeg) k_2 v2 kv2 h) ⟨rfl, rfl⟩ ⟨Nat.le_of_ble_eq_true rfl, Nat.le_of_ble_eq_true rfl⟩ rfl hl.1 rfl (Nat.le_of_ble_eq_true rfl) dX3_yielderOn_35 ⟨Nat.le_of_ble_eq_true rfl, Nat.le_of_ble_eq_true rfl⟩) (fun r_7 m_6 h H locs w => ?_)
        refine lv_if_eq (tgt := 60) hx hb dX3_yielderOn_38 (by decide) (fun c_8 => ?_) (fun c_8 => ?_)
        · have h := h.1 c_8
          refine lv_iinc (v := (v4 + 1)) (lv' := [(4, .int (v4 + 1)), (5, .ref (ad ((v0 + 2) + 2 + v4.toNatClampNeg))), (0, .ref (ad v0)), (1, .int v1), (2, .ref (ad v2)), (3, va_re ad v3)]) hx hb dX3_yielderOn_60 hl (k := 5) rfl rfl (by decide) (by cases v3 <;> rfl) (fun ls hl => ?_)
          refine lv_goto (tgt := 5) hx hb dX3_yielderOn_63 (by decide) ?_
          exact ih v3 (v4 + 1) kv3 m_6 _ _ _ h w (lv_sub hl [2, 3, 4, 5, 0] rfl)
        · have h := h.2 c_8
          refine x_aload_nR hx hb dX3_yielderOn_41 rfl (lv_at hl 4 rfl) ?_
          refine x_ifnullR (tgt := 57) hx hb dX3_yielderOn_42 (by decide) (fun e_10 => ?_) (fun q_9 e_10 => ?_)
          · have h_e_10 := h.1 e_10
            have w_e_10 := w
            have hl_e_10 := hl
            subst e_10
            have h := h_e_10
            have w := w_e_10
            have hl := hl_e_10
            refine lv_aload hx hb dX3_yielderOn_57 (lv_at hl 0 rfl) ?_
            refine lv_astore_n (lv' := [(3, .ref (ad ((v0 + 2) + 2 + v4.toNatClampNeg))), (5, .ref (ad ((v0 + 2) + 2 + v4.toNatClampNeg))), (0, .ref (ad v0)), (1, .int v1), (2, .ref (ad v2)), (4, .int v4)]) hx hb dX3_yielderOn_59 rfl hl (by decide) rfl (fun ls hl => ?_)
            refine lv_iinc (v := (v4 + 1)) (lv' := [(4, .int (v4 + 1)), (3, .ref (ad ((v0 + 2) + 2 + v4.toNatClampNeg))), (5, .ref (ad ((v0 + 2) + 2 + v4.toNatClampNeg))), (0, .ref (ad v0)), (1, .int v1), (2, .ref (ad v2))]) hx hb dX3_yielderOn_60 hl (k := 5) rfl rfl (by decide) rfl (fun ls hl => ?_)
            refine lv_goto (tgt := 5) hx hb dX3_yielderOn_63 (by decide) ?_
            exact ih (some ((v0 + 2) + 2 + v4.toNatClampNeg)) (v4 + 1) (fun _ z => by cases z; exact k_2) m_6 _ _ _ h w (lv_sub hl [3, 4, 5, 1, 0] rfl)
          · have h_e_10 := h.2 q_9 e_10
            have w_e_10 := w
            have hl_e_10 := hl
            subst e_10
            have h := h_e_10
            have w := w_e_10
            have hl := hl_e_10
            refine lv_aload hx hb dX3_yielderOn_45 (lv_at hl 0 rfl) ?_
            refine x_getP C w (i := ((v0 + 2) + 2 + v4.toNatClampNeg)) (k := 0) k_2 (by decide) mf_Staircase_72 dX3_yielderOn_47 ?_
            refine lv_aload_n hx hb dX3_yielderOn_50 rfl (lv_at hl 4 rfl) ?_
            refine x_getP C w (i := q_9) (k := 0) (kv3 _ rfl) (by decide) mf_Staircase_72 dX3_yielderOn_51 ?_
            refine lv_icmp_ge (tgt := 60) hx hb dX3_yielderOn_54 (by decide) (fun c_11 => ?_) (fun c_11 => ?_)
            · have h := h.1 c_11
              refine lv_iinc (v := (v4 + 1)) (lv' := [(4, .int (v4 + 1)), (5, .ref (ad ((v0 + 2) + 2 + v4.toNatClampNeg))), (0, .ref (ad v0)), (1, .int v1), (2, .ref (ad v2)), (3, .ref (ad q_9))]) hx hb dX3_yielderOn_60 hl (k := 5) rfl rfl (by decide) rfl (fun ls hl => ?_)
              refine lv_goto (tgt := 5) hx hb dX3_yielderOn_63 (by decide) ?_
              exact ih (some q_9) (v4 + 1) (fun _ z => by cases z; exact (kv3 _ rfl)) m_6 _ _ _ h w (lv_sub hl [2, 3, 4, 5, 0] rfl)
            · have h := h.2 c_11
              refine lv_aload hx hb dX3_yielderOn_57 (lv_at hl 0 rfl) ?_
              refine lv_astore_n (lv' := [(3, .ref (ad ((v0 + 2) + 2 + v4.toNatClampNeg))), (5, .ref (ad ((v0 + 2) + 2 + v4.toNatClampNeg))), (0, .ref (ad v0)), (1, .int v1), (2, .ref (ad v2)), (4, .int v4)]) hx hb dX3_yielderOn_59 rfl hl (by decide) rfl (fun ls hl => ?_)
              refine lv_iinc (v := (v4 + 1)) (lv' := [(4, .int (v4 + 1)), (3, .ref (ad ((v0 + 2) + 2 + v4.toNatClampNeg))), (5, .ref (ad ((v0 + 2) + 2 + v4.toNatClampNeg))), (0, .ref (ad v0)), (1, .int v1), (2, .ref (ad v2))]) hx hb dX3_yielderOn_60 hl (k := 5) rfl rfl (by decide) rfl (fun ls hl => ?_)
              refine lv_goto (tgt := 5) hx hb dX3_yielderOn_63 (by decide) ?_
              exact ih (some ((v0 + 2) + 2 + v4.toNatClampNeg)) (v4 + 1) (fun _ z => by cases z; exact k_2) m_6 _ _ _ h w (lv_sub hl [3, 4, 5, 1, 0] rfl)
set_option maxHeartbeats 4000000 in
set_option maxRecDepth 100000 in
theorem c_X3_yielderOn (l : Launch) (g : Gv) (ad : Nat → Nat) (μ : Mem) (sz : Nat) (b0 : Nat) (k0 : kd b0 = 9) (a1 : Int32) (a2 : Nat) (k2 : kd a2 = 13) {K : Option Nat → Mem → Prop} (h : wp_X3_yielderOn b0 a1 a2 μ K) : Met l yX3_yielderOn (wX yX3_yielderOn cX3_yielderOn 6 (some (.object "StairBows$Person"))) rm_X3_yielderOn (Pre g ad μ sz [.ref (ad b0), .int a1, .ref (ad a2)]) (PostR g ad sz K) 0 0 (Aw ad sz) := by
  refine Met.ofW (cc := cX3_yielderOn) (maxL := 6) (ret := (some (.object "StairBows$Person"))) (by decide) rfl ?_
  intro p e s m args below meth c s₁ B hml hv
  obtain ⟨rfl, rfl, C, w⟩ := x_start B hml hv
  obtain ⟨hx, hb, hml, -, hts, hown, -, -, hN⟩ := id C
  have hl := lv_entry ([.ref (ad b0), .int a1, .ref (ad a2)]) (n := 6) (Nat.le_of_ble_eq_true rfl)
  rw [lg_entry_eq]
  generalize (lg_sl ([.ref (ad b0), .int a1, .ref (ad a2)]) ++ List.replicate (6 - (lg_sl ([.ref (ad b0), .int a1, .ref (ad a2)])).length) Slot.unset).toArray = ls at hl ⊢
  have hl : lv_has ls 6 [(0, .ref (ad b0)), (1, .int a1), (2, .ref (ad a2))] := hl
  show W p l e rm_X3_yielderOn s m _ below meth c s.heap [] 0 0 _ _
  unfold wp_X3_yielderOn at h
  refine lv_null hx hb dX3_yielderOn_0 ?_
  refine lv_astore_nN (lv' := [(3, .null), (0, .ref (ad b0)), (1, .int a1), (2, .ref (ad a2))]) hx hb dX3_yielderOn_1 rfl hl (by decide) rfl (fun ls hl => ?_)
  refine lv_iconst (v := 0) hx hb dX3_yielderOn_2 (by decide) ?_
  refine lv_istore (lv' := [(4, .int 0), (3, .null), (0, .ref (ad b0)), (1, .int a1), (2, .ref (ad a2))]) hx hb dX3_yielderOn_3 hl (by decide) rfl (fun ls hl => ?_)
  obtain ⟨n_12, h⟩ := h
  exact t_X3_yielderOn_L5 C k0 k2 n_12 none 0 (fun _ z => by cases z) μ _ _ _ h w (lv_sub hl [2, 3, 4, 1, 0] rfl)
abbrev rm_X3_isCleared : Room := { frames := 3, cells := 0, slots := 0, locals := 62 }
noncomputable def wp_X3_isCleared_B82 (v0 : Nat) (v2 : Nat) (v3 : Nat) (K : Int32 → Mem → Prop) (μ : Mem) : Prop :=
    (wp_X2_bow v3 ((μ (v0 + 1) 1) * (((μ v2 0) - (μ v3 0)) + 1)) μ (fun m_16 => K 1 m_16))
noncomputable def wp_X3_isCleared_B53 (v0 : Nat) (v2 : Nat) (v3 : Nat) (v4 : Int32) (K : Int32 → Mem → Prop) (μ : Mem) : Prop :=
    (wp_X4_isStep v4 μ (fun r_13 m_12 => ((r_13 = 0 → (wp_X3_bring v0 v3 v4 3 5 m_12 (fun m_15 => wp_X3_isCleared_B82 v0 v2 v3 K m_15))) ∧ (¬ r_13 = 0 → (wp_X3_bring v0 v3 v4 1 4 m_12 (fun m_17 => wp_X3_isCleared_B82 v0 v2 v3 K m_17))))))
noncomputable def wp_X3_isCleared (b0 : Nat) (a1 : Int32) (a2 : Nat) (μ : Mem) (K : Int32 → Mem → Prop) : Prop :=
    (((μ (b0 + 1) 2) ≤ (μ a2 8) → (wp_X3_yielderOn b0 a1 a2 μ (fun r_3 m_2 => ((r_3 = none → K 0 m_2) ∧ (∀ q_5, r_3 = some q_5 → (wp_X2_stepBehind q_5 m_2 (fun r_8 m_7 => (wp_X4_isStep r_8 m_7 (fun r_10 m_9 => ((r_10 = 0 → wp_X3_isCleared_B53 b0 a2 q_5 r_8 K m_9) ∧ (¬ r_10 = 0 → (wp_X3_roomOn b0 r_8 m_9 (fun r_19 m_18 => ((0 < r_19 → wp_X3_isCleared_B53 b0 a2 q_5 r_8 K m_18) ∧ (¬ 0 < r_19 → K 0 m_18))))))))))))))) ∧ (¬ (μ (b0 + 1) 2) ≤ (μ a2 8) → K 0 μ))
set_option maxHeartbeats 4000000 in
set_option maxRecDepth 100000 in
theorem t_X3_isCleared_B82 {g : Gv} {ad : Nat → Nat} {l : Launch} {p : Program} {e : Env} {s : State} {m : MethodId} {args : Array Value} {below : List Frame} {meth : Method} {c : Code} (C : Cx g p s m args meth c "StairBows$Staircase" cX3_isCleared 5 (some .boolean)) {v0 : Nat} {v2 : Nat} {v3 : Nat}  {K : Int32 → Mem → Prop}  (kv0 : kd v0 = 9) (kv2 : kd v2 = 13) (kv3 : kd v3 = 13)  (μ : Mem) (H : Heap) (locs : List Loc) (ls : Array Slot) (h : wp_X3_isCleared_B82 v0 v2 v3 K μ) (w : Wd g ad μ (Aw ad s.heap.size) s H locs) (hl : lv_has ls 5 [(0, .ref (ad v0)), (2, .ref (ad v2)), (3, .ref (ad v3))]) : W p l e rm_X3_isCleared s m args below meth c H locs 0 0 (MQ below (PostI g ad s.heap.size K) args s 0 0 (Aw ad s.heap.size)) (F0 m 82 ls []) := by
  obtain ⟨hx, hb, hml, -, hts, hown, -, -, hN⟩ := id C
  unfold wp_X3_isCleared_B82 at h
  refine lv_aload_n hx hb dX3_isCleared_82 rfl (lv_at hl 2 rfl) ?_
  refine lv_aload_n hx hb dX3_isCleared_83 rfl (lv_at hl 0 rfl) ?_
  refine x_getS C w (i := v0) (k := 0) (v := .ref (ad (v0 + 1))) kv0 (by decide) rfl mf_Staircase_13 dX3_isCleared_84 ?_
  refine lv_iconst (v := 1) hx hb dX3_isCleared_87 (by decide) ?_
  refine x_iald C w (i := (v0 + 1)) (K := 10) (j := 1) (n := 3) (jn := 1) rfl (kS1 kv0) (by decide) rfl (show vp_in 1 3 from vp_lit (by decide) (by decide)) dX3_isCleared_88 ?_
  refine lv_aload_n hx hb dX3_isCleared_89 rfl (lv_at hl 1 rfl) ?_
  refine x_getP C w (i := v2) (k := 0) kv2 (by decide) mf_Staircase_72 dX3_isCleared_90 ?_
  refine lv_aload_n hx hb dX3_isCleared_93 rfl (lv_at hl 2 rfl) ?_
  refine x_getP C w (i := v3) (k := 0) kv3 (by decide) mf_Staircase_72 dX3_isCleared_94 ?_
  refine lv_isub hx hb dX3_isCleared_97 ?_
  refine lv_iconst (v := 1) hx hb dX3_isCleared_98 (by decide) ?_
  refine lv_iadd hx hb dX3_isCleared_99 ?_
  refine lv_imul hx hb dX3_isCleared_100 ?_
  refine x_callv C w (x_runV (i := v3) (As := [.int ((μ (v0 + 1) 1) * (((μ v2 0) - (μ v3 0)) + 1))]) (rest := []) C w kv3 (by decide) (ci := 2) rfl rfl rfl me_X2_bow ml_Staircase_119 (c_X2_bow l g ad μ _ v3 kv3 ((μ (v0 + 1) 1) * (((μ v2 0) - (μ v3 0)) + 1)) h) ⟨rfl, rfl⟩ ⟨Nat.le_of_ble_eq_true rfl, Nat.le_of_ble_eq_true rfl⟩ rfl hl.1 rfl (Nat.le_of_ble_eq_true rfl) dX3_isCleared_101 ⟨Nat.le_of_ble_eq_true rfl, Nat.le_of_ble_eq_true rfl⟩) (fun m_16 h H locs w => ?_)
  refine lv_iconst (v := 1) hx hb dX3_isCleared_104 (by decide) ?_
  exact x_zret C w (show bz 1 from Or.inr rfl) h dX3_isCleared_105
set_option maxHeartbeats 4000000 in
set_option maxRecDepth 100000 in
theorem t_X3_isCleared_B53 {g : Gv} {ad : Nat → Nat} {l : Launch} {p : Program} {e : Env} {s : State} {m : MethodId} {args : Array Value} {below : List Frame} {meth : Method} {c : Code} (C : Cx g p s m args meth c "StairBows$Staircase" cX3_isCleared 5 (some .boolean)) {v0 : Nat} {v2 : Nat} {v3 : Nat} {v4 : Int32}  {K : Int32 → Mem → Prop}  (kv0 : kd v0 = 9) (kv2 : kd v2 = 13) (kv3 : kd v3 = 13)  (μ : Mem) (H : Heap) (locs : List Loc) (ls : Array Slot) (h : wp_X3_isCleared_B53 v0 v2 v3 v4 K μ) (w : Wd g ad μ (Aw ad s.heap.size) s H locs) (hl : lv_has ls 5 [(0, .ref (ad v0)), (2, .ref (ad v2)), (3, .ref (ad v3)), (4, .int v4)]) : W p l e rm_X3_isCleared s m args below meth c H locs 0 0 (MQ below (PostI g ad s.heap.size K) args s 0 0 (Aw ad s.heap.size)) (F0 m 53 ls []) := by
  obtain ⟨hx, hb, hml, -, hts, hown, -, -, hN⟩ := id C
  unfold wp_X3_isCleared_B53 at h
  refine lv_iload hx hb dX3_isCleared_53 (lv_at hl 3 rfl) ?_
  refine x_calli C w (x_runSN (host := "StairBows") (As := [.int v4]) (rest := []) C w me_X4_isStep hN (c_X4_isStep l g ad μ _ v4 h) ⟨rfl, rfl⟩ ⟨Nat.le_of_ble_eq_true rfl, Nat.le_of_ble_eq_true rfl⟩ rfl hl.1 rfl (Nat.le_of_ble_eq_true rfl) dX3_isCleared_55 ⟨Nat.le_of_ble_eq_true rfl, Nat.le_of_ble_eq_true rfl⟩) (fun r_13 m_12 h H locs w => ?_)
  refine lv_if_eq (tgt := 73) hx hb dX3_isCleared_58 (by decide) (fun c_14 => ?_) (fun c_14 => ?_)
  · have h := h.1 c_14
    refine lv_aload_n hx hb dX3_isCleared_73 rfl (lv_at hl 0 rfl) ?_
    refine lv_aload_n hx hb dX3_isCleared_74 rfl (lv_at hl 2 rfl) ?_
    refine lv_iload hx hb dX3_isCleared_75 (lv_at hl 3 rfl) ?_
    refine lv_iconst (v := 3) hx hb dX3_isCleared_77 (by decide) ?_
    refine lv_iconst (v := 5) hx hb dX3_isCleared_78 (by decide) ?_
    refine x_callv C w (x_runV (i := v0) (As := [.ref (ad v3), .int v4, .int 3, .int 5]) (rest := []) C w kv0 (by decide) (ci := 3) rfl rfl rfl me_X3_bring ml_Staircase_95 (c_X3_bring l g ad m_12 _ v0 kv0 v3 kv3 v4 3 5 h) ⟨rfl, rfl⟩ ⟨Nat.le_of_ble_eq_true rfl, Nat.le_of_ble_eq_true rfl⟩ rfl hl.1 rfl (Nat.le_of_ble_eq_true rfl) dX3_isCleared_79 ⟨Nat.le_of_ble_eq_true rfl, Nat.le_of_ble_eq_true rfl⟩) (fun m_15 h H locs w => ?_)
    exact t_X3_isCleared_B82 C kv0 kv2 kv3 m_15 _ _ _ h w (lv_sub hl [0, 1, 2] rfl)
  · have h := h.2 c_14
    refine lv_aload_n hx hb dX3_isCleared_61 rfl (lv_at hl 0 rfl) ?_
    refine lv_aload_n hx hb dX3_isCleared_62 rfl (lv_at hl 2 rfl) ?_
    refine lv_iload hx hb dX3_isCleared_63 (lv_at hl 3 rfl) ?_
    refine lv_iconst (v := 1) hx hb dX3_isCleared_65 (by decide) ?_
    refine lv_iconst (v := 4) hx hb dX3_isCleared_66 (by decide) ?_
    refine x_callv C w (x_runV (i := v0) (As := [.ref (ad v3), .int v4, .int 1, .int 4]) (rest := []) C w kv0 (by decide) (ci := 3) rfl rfl rfl me_X3_bring ml_Staircase_95 (c_X3_bring l g ad m_12 _ v0 kv0 v3 kv3 v4 1 4 h) ⟨rfl, rfl⟩ ⟨Nat.le_of_ble_eq_true rfl, Nat.le_of_ble_eq_true rfl⟩ rfl hl.1 rfl (Nat.le_of_ble_eq_true rfl) dX3_isCleared_67 ⟨Nat.le_of_ble_eq_true rfl, Nat.le_of_ble_eq_true rfl⟩) (fun m_17 h H locs w => ?_)
    refine lv_goto (tgt := 82) hx hb dX3_isCleared_70 (by decide) ?_
    exact t_X3_isCleared_B82 C kv0 kv2 kv3 m_17 _ _ _ h w (lv_sub hl [0, 1, 2] rfl)
set_option maxHeartbeats 4000000 in
set_option maxRecDepth 100000 in
theorem c_X3_isCleared (l : Launch) (g : Gv) (ad : Nat → Nat) (μ : Mem) (sz : Nat) (b0 : Nat) (k0 : kd b0 = 9) (a1 : Int32) (a2 : Nat) (k2 : kd a2 = 13) {K : Int32 → Mem → Prop} (h : wp_X3_isCleared b0 a1 a2 μ K) : Met l yX3_isCleared (wX yX3_isCleared cX3_isCleared 5 (some .boolean)) rm_X3_isCleared (Pre g ad μ sz [.ref (ad b0), .int a1, .ref (ad a2)]) (PostI g ad sz K) 0 0 (Aw ad sz) := by
  refine Met.ofW (cc := cX3_isCleared) (maxL := 5) (ret := (some .boolean)) (by decide) rfl ?_
  intro p e s m args below meth c s₁ B hml hv
  obtain ⟨rfl, rfl, C, w⟩ := x_start B hml hv
  obtain ⟨hx, hb, hml, -, hts, hown, -, -, hN⟩ := id C
  have hl := lv_entry ([.ref (ad b0), .int a1, .ref (ad a2)]) (n := 5) (Nat.le_of_ble_eq_true rfl)
  rw [lg_entry_eq]
  generalize (lg_sl ([.ref (ad b0), .int a1, .ref (ad a2)]) ++ List.replicate (5 - (lg_sl ([.ref (ad b0), .int a1, .ref (ad a2)])).length) Slot.unset).toArray = ls at hl ⊢
  have hl : lv_has ls 5 [(0, .ref (ad b0)), (1, .int a1), (2, .ref (ad a2))] := hl
  show W p l e rm_X3_isCleared s m _ below meth c s.heap [] 0 0 _ _
  unfold wp_X3_isCleared at h
  refine lv_aload_n hx hb dX3_isCleared_0 rfl (lv_at hl 2 rfl) ?_
  refine x_getP C w (i := a2) (k := 8) k2 (by decide) mf_Staircase_109 dX3_isCleared_1 ?_
  refine lv_aload_n hx hb dX3_isCleared_4 rfl (lv_at hl 0 rfl) ?_
  refine x_getS C w (i := b0) (k := 0) (v := .ref (ad (b0 + 1))) k0 (by decide) rfl mf_Staircase_13 dX3_isCleared_5 ?_
  refine lv_iconst (v := 2) hx hb dX3_isCleared_8 (by decide) ?_
  refine x_iald C w (i := (b0 + 1)) (K := 10) (j := 2) (n := 3) (jn := 2) rfl (kS1 k0) (by decide) rfl (show vp_in 2 3 from vp_lit (by decide) (by decide)) dX3_isCleared_9 ?_
  refine lv_icmp_ge (tgt := 15) hx hb dX3_isCleared_10 (by decide) (fun c_1 => ?_) (fun c_1 => ?_)
  · have h := h.1 c_1
    refine lv_aload_n hx hb dX3_isCleared_15 rfl (lv_at hl 0 rfl) ?_
    refine lv_iload_n hx hb dX3_isCleared_16 rfl (lv_at hl 1 rfl) ?_
    refine lv_aload_n hx hb dX3_isCleared_17 rfl (lv_at hl 2 rfl) ?_
    refine x_callr C w (x_runV (i := b0) (As := [.int a1, .ref (ad a2)]) (rest := []) C w k0 (by decide) (ci := 3) rfl rfl rfl me_X3_yielderOn ml_Staircase_112 (c_X3_yielderOn l g ad μ _ b0 k0 a1 a2 k2 h) ⟨rfl, rfl⟩ ⟨Nat.le_of_ble_eq_true rfl, Nat.le_of_ble_eq_true rfl⟩ rfl hl.1 rfl (Nat.le_of_ble_eq_true rfl) dX3_isCleared_18 ⟨Nat.le_of_ble_eq_true rfl, Nat.le_of_ble_eq_true rfl⟩) (fun r_3 m_2 k_4 h H locs w => ?_)
    refine x_astore_nR (lv' := [(3, va_re ad r_3), (0, .ref (ad b0)), (1, .int a1), (2, .ref (ad a2))]) hx hb dX3_isCleared_21 rfl hl (by decide) rfl (fun ls hl => ?_)
    refine x_aload_nR hx hb dX3_isCleared_22 rfl (lv_at hl 0 rfl) ?_
    refine x_ifnonnullR (tgt := 28) hx hb dX3_isCleared_23 (by decide) (fun q_5 e_6 => ?_) (fun e_6 => ?_)
    · have h_e_6 := h.2 q_5 e_6
      have w_e_6 := w
      have hl_e_6 := hl
      subst e_6
      have h := h_e_6
      have w := w_e_6
      have hl := hl_e_6
      refine lv_aload_n hx hb dX3_isCleared_28 rfl (lv_at hl 0 rfl) ?_
      refine x_calli C w (x_runV (i := q_5) (As := []) (rest := []) C w (k_4 _ rfl) (by decide) (ci := 2) rfl rfl rfl me_X2_stepBehind ml_Staircase_116 (c_X2_stepBehind l g ad m_2 _ q_5 (k_4 _ rfl) h) ⟨rfl, rfl⟩ ⟨Nat.le_of_ble_eq_true rfl, Nat.le_of_ble_eq_true rfl⟩ rfl hl.1 rfl (Nat.le_of_ble_eq_true rfl) dX3_isCleared_29 ⟨Nat.le_of_ble_eq_true rfl, Nat.le_of_ble_eq_true rfl⟩) (fun r_8 m_7 h H locs w => ?_)
      refine lv_istore (lv' := [(4, .int r_8), (3, .ref (ad q_5)), (0, .ref (ad b0)), (1, .int a1), (2, .ref (ad a2))]) hx hb dX3_isCleared_32 hl (by decide) rfl (fun ls hl => ?_)
      refine lv_iload hx hb dX3_isCleared_34 (lv_at hl 0 rfl) ?_
      refine x_calli C w (x_runSN (host := "StairBows") (As := [.int r_8]) (rest := []) C w me_X4_isStep hN (c_X4_isStep l g ad m_7 _ r_8 h) ⟨rfl, rfl⟩ ⟨Nat.le_of_ble_eq_true rfl, Nat.le_of_ble_eq_true rfl⟩ rfl hl.1 rfl (Nat.le_of_ble_eq_true rfl) dX3_isCleared_36 ⟨Nat.le_of_ble_eq_true rfl, Nat.le_of_ble_eq_true rfl⟩) (fun r_10 m_9 h H locs w => ?_)
      refine lv_if_eq (tgt := 53) hx hb dX3_isCleared_39 (by decide) (fun c_11 => ?_) (fun c_11 => ?_)
      · have h := h.1 c_11
        exact t_X3_isCleared_B53 C k0 k2 (k_4 _ rfl) m_9 _ _ _ h w (lv_sub hl [2, 4, 1, 0] rfl)
      · have h := h.2 c_11
        refine lv_aload_n hx hb dX3_isCleared_42 rfl (lv_at hl 2 rfl) ?_
        refine lv_iload hx hb dX3_isCleared_43 (lv_at hl 0 rfl) ?_
        refine x_calli C w (x_runV (i := b0) (As := [.int r_8]) (rest := []) C w k0 (by decide) (ci := 3) rfl rfl rfl me_X3_roomOn ml_Staircase_99 (c_X3_roomOn l g ad m_9 _ b0 k0 r_8 h) ⟨rfl, rfl⟩ ⟨Nat.le_of_ble_eq_true rfl, Nat.le_of_ble_eq_true rfl⟩ rfl hl.1 rfl (Nat.le_of_ble_eq_true rfl) dX3_isCleared_45 ⟨Nat.le_of_ble_eq_true rfl, Nat.le_of_ble_eq_true rfl⟩) (fun r_19 m_18 h H locs w => ?_)
        refine lv_if_gt (tgt := 53) hx hb dX3_isCleared_48 (by decide) (fun c_20 => ?_) (fun c_20 => ?_)
        · have h := h.1 c_20
          exact t_X3_isCleared_B53 C k0 k2 (k_4 _ rfl) m_18 _ _ _ h w (lv_sub hl [2, 4, 1, 0] rfl)
        · have h := h.2 c_20
          refine lv_iconst (v := 0) hx hb dX3_isCleared_51 (by decide) ?_
          exact x_zret C w (show bz 0 from Or.inl rfl) h dX3_isCleared_52
    · have h_e_6 := h.1 e_6
      have w_e_6 := w
      have hl_e_6 := hl
      subst e_6
      have h := h_e_6
      have w := w_e_6
      have hl := hl_e_6
      refine lv_iconst (v := 0) hx hb dX3_isCleared_26 (by decide) ?_
      exact x_zret C w (show bz 0 from Or.inl rfl) h dX3_isCleared_27
  · have h := h.2 c_1
    refine lv_iconst (v := 0) hx hb dX3_isCleared_13 (by decide) ?_
    exact x_zret C w (show bz 0 from Or.inl rfl) h dX3_isCleared_14
abbrev rm_X3_move : Room := { frames := 4, cells := 0, slots := 0, locals := 86 }
noncomputable def wp_X3_move (b0 : Nat) (a1 : Nat) (μ : Mem) (K : Mem → Prop) : Prop :=
    (wp_X2_nextStep a1 μ (fun r_2 m_1 => (wp_X4_isStep r_2 m_1 (fun r_4 m_3 => ((¬ r_4 = 0 → (wp_X3_roomOn b0 r_2 m_3 (fun r_7 m_6 => ((0 < r_7 → (wp_X3_bring b0 a1 r_2 1 1 m_6 (fun m_9 => K m_9))) ∧ (¬ 0 < r_7 → (wp_X3_isCleared b0 r_2 a1 m_6 (fun r_11 m_10 => ((r_11 = 0 → (wp_X2_stay a1 m_10 (fun m_13 => K m_13))) ∧ (¬ r_11 = 0 → (wp_X3_bring b0 a1 r_2 1 1 m_10 (fun m_14 => K m_14))))))))))) ∧ (r_4 = 0 → (wp_X3_bring b0 a1 r_2 2 2 m_3 (fun m_15 => K m_15))))))))
set_option maxHeartbeats 4000000 in
set_option maxRecDepth 100000 in
theorem c_X3_move (l : Launch) (g : Gv) (ad : Nat → Nat) (μ : Mem) (sz : Nat) (b0 : Nat) (k0 : kd b0 = 9) (a1 : Nat) (k1 : kd a1 = 13) {K : Mem → Prop} (h : wp_X3_move b0 a1 μ K) : Met l yX3_move (wX yX3_move cX3_move 3 none) rm_X3_move (Pre g ad μ sz [.ref (ad b0), .ref (ad a1)]) (PostV g ad sz K) 0 0 (Aw ad sz) := by
  refine Met.ofW (cc := cX3_move) (maxL := 3) (ret := none) (by decide) rfl ?_
  intro p e s m args below meth c s₁ B hml hv
  obtain ⟨rfl, rfl, C, w⟩ := x_start B hml hv
  obtain ⟨hx, hb, hml, -, hts, hown, -, -, hN⟩ := id C
  have hl := lv_entry ([.ref (ad b0), .ref (ad a1)]) (n := 3) (Nat.le_of_ble_eq_true rfl)
  rw [lg_entry_eq]
  generalize (lg_sl ([.ref (ad b0), .ref (ad a1)]) ++ List.replicate (3 - (lg_sl ([.ref (ad b0), .ref (ad a1)])).length) Slot.unset).toArray = ls at hl ⊢
  have hl : lv_has ls 3 [(0, .ref (ad b0)), (1, .ref (ad a1))] := hl
  show W p l e rm_X3_move s m _ below meth c s.heap [] 0 0 _ _
  unfold wp_X3_move at h
  refine lv_aload_n hx hb dX3_move_0 rfl (lv_at hl 1 rfl) ?_
  refine x_calli C w (x_runV (i := a1) (As := []) (rest := []) C w k1 (by decide) (ci := 2) rfl rfl rfl me_X2_nextStep ml_Staircase_91 (c_X2_nextStep l g ad μ _ a1 k1 h) ⟨rfl, rfl⟩ ⟨Nat.le_of_ble_eq_true rfl, Nat.le_of_ble_eq_true rfl⟩ rfl hl.1 rfl (Nat.le_of_ble_eq_true rfl) dX3_move_1 ⟨Nat.le_of_ble_eq_true rfl, Nat.le_of_ble_eq_true rfl⟩) (fun r_2 m_1 h H locs w => ?_)
  refine lv_istore_n (lv' := [(2, .int r_2), (0, .ref (ad b0)), (1, .ref (ad a1))]) hx hb dX3_move_4 rfl hl (by decide) rfl (fun ls hl => ?_)
  refine lv_iload_n hx hb dX3_move_5 rfl (lv_at hl 0 rfl) ?_
  refine x_calli C w (x_runSN (host := "StairBows") (As := [.int r_2]) (rest := []) C w me_X4_isStep hN (c_X4_isStep l g ad m_1 _ r_2 h) ⟨rfl, rfl⟩ ⟨Nat.le_of_ble_eq_true rfl, Nat.le_of_ble_eq_true rfl⟩ rfl hl.1 rfl (Nat.le_of_ble_eq_true rfl) dX3_move_6 ⟨Nat.le_of_ble_eq_true rfl, Nat.le_of_ble_eq_true rfl⟩) (fun r_4 m_3 h H locs w => ?_)
  refine lv_if_ne (tgt := 23) hx hb dX3_move_9 (by decide) (fun c_5 => ?_) (fun c_5 => ?_)
  · have h := h.1 c_5
    refine lv_aload_n hx hb dX3_move_23 rfl (lv_at hl 1 rfl) ?_
    refine lv_iload_n hx hb dX3_move_24 rfl (lv_at hl 0 rfl) ?_
    refine x_calli C w (x_runV (i := b0) (As := [.int r_2]) (rest := []) C w k0 (by decide) (ci := 3) rfl rfl rfl me_X3_roomOn ml_Staircase_99 (c_X3_roomOn l g ad m_3 _ b0 k0 r_2 h) ⟨rfl, rfl⟩ ⟨Nat.le_of_ble_eq_true rfl, Nat.le_of_ble_eq_true rfl⟩ rfl hl.1 rfl (Nat.le_of_ble_eq_true rfl) dX3_move_25 ⟨Nat.le_of_ble_eq_true rfl, Nat.le_of_ble_eq_true rfl⟩) (fun r_7 m_6 h H locs w => ?_)
    refine lv_if_gt (tgt := 40) hx hb dX3_move_28 (by decide) (fun c_8 => ?_) (fun c_8 => ?_)
    · have h := h.1 c_8
      refine lv_aload_n hx hb dX3_move_40 rfl (lv_at hl 1 rfl) ?_
      refine lv_aload_n hx hb dX3_move_41 rfl (lv_at hl 2 rfl) ?_
      refine lv_iload_n hx hb dX3_move_42 rfl (lv_at hl 0 rfl) ?_
      refine lv_iconst (v := 1) hx hb dX3_move_43 (by decide) ?_
      refine lv_iconst (v := 1) hx hb dX3_move_44 (by decide) ?_
      refine x_callv C w (x_runV (i := b0) (As := [.ref (ad a1), .int r_2, .int 1, .int 1]) (rest := []) C w k0 (by decide) (ci := 3) rfl rfl rfl me_X3_bring ml_Staircase_95 (c_X3_bring l g ad m_6 _ b0 k0 a1 k1 r_2 1 1 h) ⟨rfl, rfl⟩ ⟨Nat.le_of_ble_eq_true rfl, Nat.le_of_ble_eq_true rfl⟩ rfl hl.1 rfl (Nat.le_of_ble_eq_true rfl) dX3_move_45 ⟨Nat.le_of_ble_eq_true rfl, Nat.le_of_ble_eq_true rfl⟩) (fun m_9 h H locs w => ?_)
      refine lv_goto (tgt := 55) hx hb dX3_move_48 (by decide) ?_
      exact x_vret C w h dX3_move_55
    · have h := h.2 c_8
      refine lv_aload_n hx hb dX3_move_31 rfl (lv_at hl 1 rfl) ?_
      refine lv_iload_n hx hb dX3_move_32 rfl (lv_at hl 0 rfl) ?_
      refine lv_aload_n hx hb dX3_move_33 rfl (lv_at hl 2 rfl) ?_
      refine x_calli C w (x_runV (i := b0) (As := [.int r_2, .ref (ad a1)]) (rest := []) C w k0 (by decide) (ci := 3) rfl rfl rfl me_X3_isCleared ml_Staircase_102 (c_X3_isCleared l g ad m_6 _ b0 k0 r_2 a1 k1 h) ⟨rfl, rfl⟩ ⟨Nat.le_of_ble_eq_true rfl, Nat.le_of_ble_eq_true rfl⟩ rfl hl.1 rfl (Nat.le_of_ble_eq_true rfl) dX3_move_34 ⟨Nat.le_of_ble_eq_true rfl, Nat.le_of_ble_eq_true rfl⟩) (fun r_11 m_10 h H locs w => ?_)
      refine lv_if_eq (tgt := 51) hx hb dX3_move_37 (by decide) (fun c_12 => ?_) (fun c_12 => ?_)
      · have h := h.1 c_12
        refine lv_aload_n hx hb dX3_move_51 rfl (lv_at hl 2 rfl) ?_
        refine x_callv C w (x_runV (i := a1) (As := []) (rest := []) C w k1 (by decide) (ci := 2) rfl rfl rfl me_X2_stay ml_Staircase_106 (c_X2_stay l g ad m_10 _ a1 k1 h) ⟨rfl, rfl⟩ ⟨Nat.le_of_ble_eq_true rfl, Nat.le_of_ble_eq_true rfl⟩ rfl hl.1 rfl (Nat.le_of_ble_eq_true rfl) dX3_move_52 ⟨Nat.le_of_ble_eq_true rfl, Nat.le_of_ble_eq_true rfl⟩) (fun m_13 h H locs w => ?_)
        exact x_vret C w h dX3_move_55
      · have h := h.2 c_12
        refine lv_aload_n hx hb dX3_move_40 rfl (lv_at hl 1 rfl) ?_
        refine lv_aload_n hx hb dX3_move_41 rfl (lv_at hl 2 rfl) ?_
        refine lv_iload_n hx hb dX3_move_42 rfl (lv_at hl 0 rfl) ?_
        refine lv_iconst (v := 1) hx hb dX3_move_43 (by decide) ?_
        refine lv_iconst (v := 1) hx hb dX3_move_44 (by decide) ?_
        refine x_callv C w (x_runV (i := b0) (As := [.ref (ad a1), .int r_2, .int 1, .int 1]) (rest := []) C w k0 (by decide) (ci := 3) rfl rfl rfl me_X3_bring ml_Staircase_95 (c_X3_bring l g ad m_10 _ b0 k0 a1 k1 r_2 1 1 h) ⟨rfl, rfl⟩ ⟨Nat.le_of_ble_eq_true rfl, Nat.le_of_ble_eq_true rfl⟩ rfl hl.1 rfl (Nat.le_of_ble_eq_true rfl) dX3_move_45 ⟨Nat.le_of_ble_eq_true rfl, Nat.le_of_ble_eq_true rfl⟩) (fun m_14 h H locs w => ?_)
        refine lv_goto (tgt := 55) hx hb dX3_move_48 (by decide) ?_
        exact x_vret C w h dX3_move_55
  · have h := h.2 c_5
    refine lv_aload_n hx hb dX3_move_12 rfl (lv_at hl 1 rfl) ?_
    refine lv_aload_n hx hb dX3_move_13 rfl (lv_at hl 2 rfl) ?_
    refine lv_iload_n hx hb dX3_move_14 rfl (lv_at hl 0 rfl) ?_
    refine lv_iconst (v := 2) hx hb dX3_move_15 (by decide) ?_
    refine lv_iconst (v := 2) hx hb dX3_move_16 (by decide) ?_
    refine x_callv C w (x_runV (i := b0) (As := [.ref (ad a1), .int r_2, .int 2, .int 2]) (rest := []) C w k0 (by decide) (ci := 3) rfl rfl rfl me_X3_bring ml_Staircase_95 (c_X3_bring l g ad m_3 _ b0 k0 a1 k1 r_2 2 2 h) ⟨rfl, rfl⟩ ⟨Nat.le_of_ble_eq_true rfl, Nat.le_of_ble_eq_true rfl⟩ rfl hl.1 rfl (Nat.le_of_ble_eq_true rfl) dX3_move_17 ⟨Nat.le_of_ble_eq_true rfl, Nat.le_of_ble_eq_true rfl⟩) (fun m_15 h H locs w => ?_)
    refine lv_goto (tgt := 55) hx hb dX3_move_20 (by decide) ?_
    exact x_vret C w h dX3_move_55
abbrev rm_X3_tick : Room := { frames := 5, cells := 0, slots := 0, locals := 108 }
noncomputable def wp_X3_tick_L36 (v0 : Nat) (v1 : Int32) (K : Mem → Prop) (E29 : Int32 → Mem → Prop) (n : Nat) : Int32 → Mem → Prop :=
  Nat.rec (motive := fun _ => Int32 → Mem → Prop) (fun _ _ => False) (fun _ ih v2 μ =>
    (((μ v0 4) ≤ v2 → E29 (v1 + (-1)) μ) ∧ (¬ (μ v0 4) ≤ v2 → (vp_in v2 24 ∧ ((¬ (μ ((v0 + 2) + 2 + v2.toNatClampNeg) 0) = v1 → ih (v2 + 1) μ) ∧ ((μ ((v0 + 2) + 2 + v2.toNatClampNeg) 0) = v1 → (wp_X2_isOnWay ((v0 + 2) + 2 + v2.toNatClampNeg) μ (fun r_9 m_8 => ((r_9 = 0 → ih (v2 + 1) m_8) ∧ (¬ r_9 = 0 → (((m_8 ((v0 + 2) + 2 + v2.toNatClampNeg) 9) = 4 → ih (v2 + 1) m_8) ∧ (¬ (m_8 ((v0 + 2) + 2 + v2.toNatClampNeg) 9) = 4 → (wp_X3_move v0 ((v0 + 2) + 2 + v2.toNatClampNeg) m_8 (fun m_12 => ih (v2 + 1) m_12)))))))))))))) n
theorem wp_X3_tick_L36_s (v0 : Nat) (v1 : Int32) (K : Mem → Prop) (E29 : Int32 → Mem → Prop) (n : Nat) (v2 : Int32) (μ : Mem) : wp_X3_tick_L36 v0 v1 K E29 (n + 1) v2 μ = (
    let ih := wp_X3_tick_L36 v0 v1 K E29 n
    (((μ v0 4) ≤ v2 → E29 (v1 + (-1)) μ) ∧ (¬ (μ v0 4) ≤ v2 → (vp_in v2 24 ∧ ((¬ (μ ((v0 + 2) + 2 + v2.toNatClampNeg) 0) = v1 → ih (v2 + 1) μ) ∧ ((μ ((v0 + 2) + 2 + v2.toNatClampNeg) 0) = v1 → (wp_X2_isOnWay ((v0 + 2) + 2 + v2.toNatClampNeg) μ (fun r_9 m_8 => ((r_9 = 0 → ih (v2 + 1) m_8) ∧ (¬ r_9 = 0 → (((m_8 ((v0 + 2) + 2 + v2.toNatClampNeg) 9) = 4 → ih (v2 + 1) m_8) ∧ (¬ (m_8 ((v0 + 2) + 2 + v2.toNatClampNeg) 9) = 4 → (wp_X3_move v0 ((v0 + 2) + 2 + v2.toNatClampNeg) m_8 (fun m_12 => ih (v2 + 1) m_12)))))))))))))) := rfl
noncomputable def wp_X3_tick_L29 (v0 : Nat) (K : Mem → Prop) (n : Nat) : Int32 → Mem → Prop :=
  Nat.rec (motive := fun _ => Int32 → Mem → Prop) (fun _ _ => False) (fun _ ih v1 μ =>
    ((v1 < 1 → (∀ m_3, m_3 = up2 μ v0 5 ((μ v0 5) + 1) → K m_3)) ∧ (¬ v1 < 1 → (∃ n, wp_X3_tick_L36 v0 v1 K ih n 0 μ)))) n
theorem wp_X3_tick_L29_s (v0 : Nat) (K : Mem → Prop) (n : Nat) (v1 : Int32) (μ : Mem) : wp_X3_tick_L29 v0 K (n + 1) v1 μ = (
    let ih := wp_X3_tick_L29 v0 K n
    ((v1 < 1 → (∀ m_3, m_3 = up2 μ v0 5 ((μ v0 5) + 1) → K m_3)) ∧ (¬ v1 < 1 → (∃ n, wp_X3_tick_L36 v0 v1 K ih n 0 μ)))) := rfl
noncomputable def wp_X3_tick_L2 (v0 : Nat) (K : Mem → Prop) (n : Nat) : Int32 → Mem → Prop :=
  Nat.rec (motive := fun _ => Int32 → Mem → Prop) (fun _ _ => False) (fun _ ih v1 μ =>
    (((μ v0 4) ≤ v1 → (∃ n, wp_X3_tick_L29 v0 K n 9 μ)) ∧ (¬ (μ v0 4) ≤ v1 → (vp_in v1 24 ∧ (∀ m_16, m_16 = up2 μ ((v0 + 2) + 2 + v1.toNatClampNeg) 9 0 → ih (v1 + 1) m_16))))) n
theorem wp_X3_tick_L2_s (v0 : Nat) (K : Mem → Prop) (n : Nat) (v1 : Int32) (μ : Mem) : wp_X3_tick_L2 v0 K (n + 1) v1 μ = (
    let ih := wp_X3_tick_L2 v0 K n
    (((μ v0 4) ≤ v1 → (∃ n, wp_X3_tick_L29 v0 K n 9 μ)) ∧ (¬ (μ v0 4) ≤ v1 → (vp_in v1 24 ∧ (∀ m_16, m_16 = up2 μ ((v0 + 2) + 2 + v1.toNatClampNeg) 9 0 → ih (v1 + 1) m_16))))) := rfl
noncomputable def wp_X3_tick (b0 : Nat) (μ : Mem) (K : Mem → Prop) : Prop :=
    (∃ n, wp_X3_tick_L2 b0 K n 0 μ)
set_option maxHeartbeats 4000000 in
set_option maxRecDepth 100000 in
theorem t_X3_tick_L36 {g : Gv} {ad : Nat → Nat} {l : Launch} {p : Program} {e : Env} {s : State} {m : MethodId} {args : Array Value} {below : List Frame} {meth : Method} {c : Code} (C : Cx g p s m args meth c "StairBows$Staircase" cX3_tick 4 none) {v0 : Nat} {v1 : Int32}  {K : Mem → Prop} {E29 : Int32 → Mem → Prop} (kv0 : kd v0 = 9) (hE29 : ∀ (v1 : Int32) (μ : Mem) (H : Heap) (locs : List Loc) (ls : Array Slot), E29 v1 μ → Wd g ad μ (Aw ad s.heap.size) s H locs → lv_has ls 4 [(0, .ref (ad v0)), (1, .int v1)] → W p l e rm_X3_tick s m args below meth c H locs 0 0 (MQ below (PostV g ad s.heap.size K) args s 0 0 (Aw ad s.heap.size)) (F0 m 29 ls [])) : ∀ (n : Nat) (v2 : Int32) (μ : Mem) (H : Heap) (locs : List Loc) (ls : Array Slot), wp_X3_tick_L36 v0 v1 K E29 n v2 μ → Wd g ad μ (Aw ad s.heap.size) s H locs → lv_has ls 4 [(0, .ref (ad v0)), (1, .int v1), (2, .int v2)] → W p l e rm_X3_tick s m args below meth c H locs 0 0 (MQ below (PostV g ad s.heap.size K) args s 0 0 (Aw ad s.heap.size)) (F0 m 36 ls []) := by
  obtain ⟨hx, hb, hml, -, hts, hown, -, -, hN⟩ := id C
  intro n
  induction n with
  | zero =>
    intro v2 μ H locs ls h w hl
    exact (show False from h).elim
  | succ n ih =>
    intro v2 μ H locs ls h w hl
    rw [wp_X3_tick_L36_s] at h
    dsimp only at h
    refine lv_iload_n hx hb dX3_tick_36 rfl (lv_at hl 2 rfl) ?_
    refine lv_aload_n hx hb dX3_tick_37 rfl (lv_at hl 0 rfl) ?_
    refine x_getS C w (i := v0) (k := 4) (v := .int (μ v0 4)) kv0 (by decide) rfl mf_Staircase_38 dX3_tick_38 ?_
    refine lv_icmp_ge (tgt := 85) hx hb dX3_tick_41 (by decide) (fun c_5 => ?_) (fun c_5 => ?_)
    · have h := h.1 c_5
      refine lv_iinc (v := (v1 + (-1))) (lv' := [(1, .int (v1 + (-1))), (0, .ref (ad v0)), (2, .int v2)]) hx hb dX3_tick_85 hl (k := 1) rfl rfl (by decide) rfl (fun ls hl => ?_)
      refine lv_goto (tgt := 29) hx hb dX3_tick_88 (by decide) ?_
      exact hE29 (v1 + (-1)) μ _ _ _ h w (lv_sub hl [1, 0] rfl)
    · have h := h.2 c_5
      refine lv_aload_n hx hb dX3_tick_44 rfl (lv_at hl 0 rfl) ?_
      refine x_getS C w (i := v0) (k := 1) (v := .ref (ad (v0 + 2))) kv0 (by decide) rfl mf_Staircase_20 dX3_tick_45 ?_
      refine lv_iload_n hx hb dX3_tick_48 rfl (lv_at hl 2 rfl) ?_
      have hi := h.1
      have h := h.2
      refine x_aldP C w (kS2 kv0) hi dX3_tick_49 ?_
      have k_6 := kSP (kS2 kv0) hi
      refine lv_astore_n (lv' := [(3, .ref (ad ((v0 + 2) + 2 + v2.toNatClampNeg))), (0, .ref (ad v0)), (1, .int v1), (2, .int v2)]) hx hb dX3_tick_50 rfl hl (by decide) rfl (fun ls hl => ?_)
      refine lv_aload_n hx hb dX3_tick_51 rfl (lv_at hl 0 rfl) ?_
      refine x_getP C w (i := ((v0 + 2) + 2 + v2.toNatClampNeg)) (k := 0) k_6 (by decide) mf_Staircase_72 dX3_tick_52 ?_
      refine lv_iload_n hx hb dX3_tick_55 rfl (lv_at hl 2 rfl) ?_
      refine lv_icmp_ne (tgt := 79) hx hb dX3_tick_56 (by decide) (fun c_7 => ?_) (fun c_7 => ?_)
      · have h := h.1 c_7
        refine lv_iinc (v := (v2 + 1)) (lv' := [(2, .int (v2 + 1)), (3, .ref (ad ((v0 + 2) + 2 + v2.toNatClampNeg))), (0, .ref (ad v0)), (1, .int v1)]) hx hb dX3_tick_79 hl (k := 3) rfl rfl (by decide) rfl (fun ls hl => ?_)
        refine lv_goto (tgt := 36) hx hb dX3_tick_82 (by decide) ?_
        exact ih (v2 + 1) μ _ _ _ h w (lv_sub hl [2, 3, 0] rfl)
      · have h := h.2 c_7
        refine lv_aload_n hx hb dX3_tick_59 rfl (lv_at hl 0 rfl) ?_
        refine x_calli C w (x_runV (i := ((v0 + 2) + 2 + v2.toNatClampNeg)) (As := []) (rest := []) C w k_6 (by decide) (ci := 2) rfl rfl rfl me_X2_isOnWay ml_Staircase_81 (c_X2_isOnWay l g ad μ _ ((v0 + 2) + 2 + v2.toNatClampNeg) k_6 h) ⟨rfl, rfl⟩ ⟨Nat.le_of_ble_eq_true rfl, Nat.le_of_ble_eq_true rfl⟩ rfl hl.1 rfl (Nat.le_of_ble_eq_true rfl) dX3_tick_60 ⟨Nat.le_of_ble_eq_true rfl, Nat.le_of_ble_eq_true rfl⟩) (fun r_9 m_8 h H locs w => ?_)
        refine lv_if_eq (tgt := 79) hx hb dX3_tick_63 (by decide) (fun c_10 => ?_) (fun c_10 => ?_)
        · have h := h.1 c_10
          refine lv_iinc (v := (v2 + 1)) (lv' := [(2, .int (v2 + 1)), (3, .ref (ad ((v0 + 2) + 2 + v2.toNatClampNeg))), (0, .ref (ad v0)), (1, .int v1)]) hx hb dX3_tick_79 hl (k := 3) rfl rfl (by decide) rfl (fun ls hl => ?_)
          refine lv_goto (tgt := 36) hx hb dX3_tick_82 (by decide) ?_
          exact ih (v2 + 1) m_8 _ _ _ h w (lv_sub hl [2, 3, 0] rfl)
        · have h := h.2 c_10
          refine lv_aload_n hx hb dX3_tick_66 rfl (lv_at hl 0 rfl) ?_
          refine x_getP C w (i := ((v0 + 2) + 2 + v2.toNatClampNeg)) (k := 9) k_6 (by decide) mf_Staircase_85 dX3_tick_67 ?_
          refine lv_iconst (v := 4) hx hb dX3_tick_70 (by decide) ?_
          refine lv_icmp_eq (tgt := 79) hx hb dX3_tick_71 (by decide) (fun c_11 => ?_) (fun c_11 => ?_)
          · have h := h.1 c_11
            refine lv_iinc (v := (v2 + 1)) (lv' := [(2, .int (v2 + 1)), (3, .ref (ad ((v0 + 2) + 2 + v2.toNatClampNeg))), (0, .ref (ad v0)), (1, .int v1)]) hx hb dX3_tick_79 hl (k := 3) rfl rfl (by decide) rfl (fun ls hl => ?_)
            refine lv_goto (tgt := 36) hx hb dX3_tick_82 (by decide) ?_
            exact ih (v2 + 1) m_8 _ _ _ h w (lv_sub hl [2, 3, 0] rfl)
          · have h := h.2 c_11
            refine lv_aload_n hx hb dX3_tick_74 rfl (lv_at hl 1 rfl) ?_
            refine lv_aload_n hx hb dX3_tick_75 rfl (lv_at hl 0 rfl) ?_
            refine x_callv C w (x_runV (i := v0) (As := [.ref (ad ((v0 + 2) + 2 + v2.toNatClampNeg))]) (rest := []) C w kv0 (by decide) (ci := 3) rfl rfl rfl me_X3_move ml_Staircase_88 (c_X3_move l g ad m_8 _ v0 kv0 ((v0 + 2) + 2 + v2.toNatClampNeg) k_6 h) ⟨rfl, rfl⟩ ⟨Nat.le_of_ble_eq_true rfl, Nat.le_of_ble_eq_true rfl⟩ rfl hl.1 rfl (Nat.le_of_ble_eq_true rfl) dX3_tick_76 ⟨Nat.le_of_ble_eq_true rfl, Nat.le_of_ble_eq_true rfl⟩) (fun m_12 h H locs w => ?_)
            refine lv_iinc (v := (v2 + 1)) (lv' := [(2, .int (v2 + 1)), (3, .ref (ad ((v0 + 2) + 2 + v2.toNatClampNeg))), (0, .ref (ad v0)), (1, .int v1)]) hx hb dX3_tick_79 hl (k := 3) rfl rfl (by decide) rfl (fun ls hl => ?_)
            refine lv_goto (tgt := 36) hx hb dX3_tick_82 (by decide) ?_
            exact ih (v2 + 1) m_12 _ _ _ h w (lv_sub hl [2, 3, 0] rfl)
set_option maxHeartbeats 4000000 in
set_option maxRecDepth 100000 in
theorem t_X3_tick_L29 {g : Gv} {ad : Nat → Nat} {l : Launch} {p : Program} {e : Env} {s : State} {m : MethodId} {args : Array Value} {below : List Frame} {meth : Method} {c : Code} (C : Cx g p s m args meth c "StairBows$Staircase" cX3_tick 4 none) {v0 : Nat}  {K : Mem → Prop}  (kv0 : kd v0 = 9)  : ∀ (n : Nat) (v1 : Int32) (μ : Mem) (H : Heap) (locs : List Loc) (ls : Array Slot), wp_X3_tick_L29 v0 K n v1 μ → Wd g ad μ (Aw ad s.heap.size) s H locs → lv_has ls 4 [(0, .ref (ad v0)), (1, .int v1)] → W p l e rm_X3_tick s m args below meth c H locs 0 0 (MQ below (PostV g ad s.heap.size K) args s 0 0 (Aw ad s.heap.size)) (F0 m 29 ls []) := by
  obtain ⟨hx, hb, hml, -, hts, hown, -, -, hN⟩ := id C
  intro n
  induction n with
  | zero =>
    intro v1 μ H locs ls h w hl
    exact (show False from h).elim
  | succ n ih =>
    intro v1 μ H locs ls h w hl
    rw [wp_X3_tick_L29_s] at h
    dsimp only at h
    refine lv_iload_n hx hb dX3_tick_29 rfl (lv_at hl 1 rfl) ?_
    refine lv_iconst (v := 1) hx hb dX3_tick_30 (by decide) ?_
    refine lv_icmp_lt (tgt := 91) hx hb dX3_tick_31 (by decide) (fun c_2 => ?_) (fun c_2 => ?_)
    · have h := h.1 c_2
      refine lv_aload_n hx hb dX3_tick_91 rfl (lv_at hl 0 rfl) ?_
      refine lv_dup hx hb dX3_tick_92 rfl ?_
      refine x_getS C w (i := v0) (k := 5) (v := .int (μ v0 5)) kv0 (by decide) rfl mf_Staircase_41 dX3_tick_93 ?_
      refine lv_iconst (v := 1) hx hb dX3_tick_96 (by decide) ?_
      refine lv_iadd hx hb dX3_tick_97 ?_
      refine x_putS C w (i := v0) (k := 5) kv0 (by decide) rfl mf_Staircase_41 rfl rfl dX3_tick_98 (fun m_3 e_4 H locs w => ?_)
      have h := h m_3 e_4
      exact x_vret C w h dX3_tick_101
    · have h := h.2 c_2
      refine lv_iconst (v := 0) hx hb dX3_tick_34 (by decide) ?_
      refine lv_istore_n (lv' := [(2, .int 0), (0, .ref (ad v0)), (1, .int v1)]) hx hb dX3_tick_35 rfl hl (by decide) rfl (fun ls hl => ?_)
      obtain ⟨n_13, h⟩ := h
      exact t_X3_tick_L36 C kv0 ih n_13 0 μ _ _ _ h w (lv_sub hl [1, 2, 0] rfl)
set_option maxHeartbeats 4000000 in
set_option maxRecDepth 100000 in
theorem t_X3_tick_L2 {g : Gv} {ad : Nat → Nat} {l : Launch} {p : Program} {e : Env} {s : State} {m : MethodId} {args : Array Value} {below : List Frame} {meth : Method} {c : Code} (C : Cx g p s m args meth c "StairBows$Staircase" cX3_tick 4 none) {v0 : Nat}  {K : Mem → Prop}  (kv0 : kd v0 = 9)  : ∀ (n : Nat) (v1 : Int32) (μ : Mem) (H : Heap) (locs : List Loc) (ls : Array Slot), wp_X3_tick_L2 v0 K n v1 μ → Wd g ad μ (Aw ad s.heap.size) s H locs → lv_has ls 4 [(0, .ref (ad v0)), (1, .int v1)] → W p l e rm_X3_tick s m args below meth c H locs 0 0 (MQ below (PostV g ad s.heap.size K) args s 0 0 (Aw ad s.heap.size)) (F0 m 2 ls []) := by
  obtain ⟨hx, hb, hml, -, hts, hown, -, -, hN⟩ := id C
  intro n
  induction n with
  | zero =>
    intro v1 μ H locs ls h w hl
    exact (show False from h).elim
  | succ n ih =>
    intro v1 μ H locs ls h w hl
    rw [wp_X3_tick_L2_s] at h
    dsimp only at h
    refine lv_iload_n hx hb dX3_tick_2 rfl (lv_at hl 1 rfl) ?_
    refine lv_aload_n hx hb dX3_tick_3 rfl (lv_at hl 0 rfl) ?_
    refine x_getS C w (i := v0) (k := 4) (v := .int (μ v0 4)) kv0 (by decide) rfl mf_Staircase_38 dX3_tick_4 ?_
    refine lv_icmp_ge (tgt := 26) hx hb dX3_tick_7 (by decide) (fun c_1 => ?_) (fun c_1 => ?_)
    · have h := h.1 c_1
      refine lv_bipush (v := 9) hx hb dX3_tick_26 (by decide) ?_
      refine lv_istore_n (lv' := [(1, .int 9), (0, .ref (ad v0))]) hx hb dX3_tick_28 rfl hl (by decide) rfl (fun ls hl => ?_)
      obtain ⟨n_14, h⟩ := h
      exact t_X3_tick_L29 C kv0 n_14 9 μ _ _ _ h w (lv_sub hl [1, 0] rfl)
    · have h := h.2 c_1
      refine lv_aload_n hx hb dX3_tick_10 rfl (lv_at hl 0 rfl) ?_
      refine x_getS C w (i := v0) (k := 1) (v := .ref (ad (v0 + 2))) kv0 (by decide) rfl mf_Staircase_20 dX3_tick_11 ?_
      refine lv_iload_n hx hb dX3_tick_14 rfl (lv_at hl 1 rfl) ?_
      have hi := h.1
      have h := h.2
      refine x_aldP C w (kS2 kv0) hi dX3_tick_15 ?_
      have k_15 := kSP (kS2 kv0) hi
      refine lv_iconst (v := 0) hx hb dX3_tick_16 (by decide) ?_
      refine x_putP C w (i := ((v0 + 2) + 2 + v1.toNatClampNeg)) (k := 9) k_15 (by decide) mf_Staircase_85 rfl rfl rfl rfl dX3_tick_17 (fun m_16 e_17 H locs w => ?_)
      have h := h m_16 e_17
      refine lv_iinc (v := (v1 + 1)) (lv' := [(1, .int (v1 + 1)), (0, .ref (ad v0))]) hx hb dX3_tick_20 hl (k := 1) rfl rfl (by decide) rfl (fun ls hl => ?_)
      refine lv_goto (tgt := 2) hx hb dX3_tick_23 (by decide) ?_
      exact ih (v1 + 1) m_16 _ _ _ h w (lv_sub hl [1, 0] rfl)
set_option maxHeartbeats 4000000 in
set_option maxRecDepth 100000 in
theorem c_X3_tick (l : Launch) (g : Gv) (ad : Nat → Nat) (μ : Mem) (sz : Nat) (b0 : Nat) (k0 : kd b0 = 9) {K : Mem → Prop} (h : wp_X3_tick b0 μ K) : Met l yX3_tick (wX yX3_tick cX3_tick 4 none) rm_X3_tick (Pre g ad μ sz [.ref (ad b0)]) (PostV g ad sz K) 0 0 (Aw ad sz) := by
  refine Met.ofW (cc := cX3_tick) (maxL := 4) (ret := none) (by decide) rfl ?_
  intro p e s m args below meth c s₁ B hml hv
  obtain ⟨rfl, rfl, C, w⟩ := x_start B hml hv
  obtain ⟨hx, hb, hml, -, hts, hown, -, -, hN⟩ := id C
  have hl := lv_entry ([.ref (ad b0)]) (n := 4) (Nat.le_of_ble_eq_true rfl)
  rw [lg_entry_eq]
  generalize (lg_sl ([.ref (ad b0)]) ++ List.replicate (4 - (lg_sl ([.ref (ad b0)])).length) Slot.unset).toArray = ls at hl ⊢
  have hl : lv_has ls 4 [(0, .ref (ad b0))] := hl
  show W p l e rm_X3_tick s m _ below meth c s.heap [] 0 0 _ _
  unfold wp_X3_tick at h
  refine lv_iconst (v := 0) hx hb dX3_tick_0 (by decide) ?_
  refine lv_istore_n (lv' := [(1, .int 0), (0, .ref (ad b0))]) hx hb dX3_tick_1 rfl hl (by decide) rfl (fun ls hl => ?_)
  obtain ⟨n_18, h⟩ := h
  exact t_X3_tick_L2 C k0 n_18 0 μ _ _ _ h w (lv_sub hl [1, 0] rfl)
end
section
/-! METHODS, by program: conditions and contracts -/
abbrev rm_X0_dropOldest : Room := { frames := 0, cells := 0, slots := 0, locals := 0 }
noncomputable def wp_X0_dropOldest_L9 (v1 : Int32) (K : Mem → Prop) (n : Nat) : Int32 → Mem → Prop :=
  Nat.rec (motive := fun _ => Int32 → Mem → Prop) (fun _ _ => False) (fun _ ih v2 μ =>
    ((6 ≤ v2 → (∀ m_3, m_3 = up2 μ 58 5 v1 → (∀ m_5, m_5 = up2 m_3 57 1 ((m_3 57 1) - 1) → K m_5))) ∧ (¬ 6 ≤ v2 → (vp_in v2 6 ∧ ((μ 58 v2.toNatClampNeg).toNatClampNeg < 6 ∧ (vp_in (v2 - 1) 6 ∧ (∀ m_8, m_8 = up2 μ 58 ((v2 - 1).toNatClampNeg) (μ 58 v2.toNatClampNeg) → ih (v2 + 1) m_8))))))) n
theorem wp_X0_dropOldest_L9_s (v1 : Int32) (K : Mem → Prop) (n : Nat) (v2 : Int32) (μ : Mem) : wp_X0_dropOldest_L9 v1 K (n + 1) v2 μ = (
    let ih := wp_X0_dropOldest_L9 v1 K n
    ((6 ≤ v2 → (∀ m_3, m_3 = up2 μ 58 5 v1 → (∀ m_5, m_5 = up2 m_3 57 1 ((m_3 57 1) - 1) → K m_5))) ∧ (¬ 6 ≤ v2 → (vp_in v2 6 ∧ ((μ 58 v2.toNatClampNeg).toNatClampNeg < 6 ∧ (vp_in (v2 - 1) 6 ∧ (∀ m_8, m_8 = up2 μ 58 ((v2 - 1).toNatClampNeg) (μ 58 v2.toNatClampNeg) → ih (v2 + 1) m_8))))))) := rfl
noncomputable def wp_X0_dropOldest  (μ : Mem) (K : Mem → Prop) : Prop :=
    ((μ 58 0).toNatClampNeg < 6 ∧ (∃ n, wp_X0_dropOldest_L9 (μ 58 0) K n 1 μ))
set_option maxHeartbeats 4000000 in
set_option maxRecDepth 100000 in
theorem t_X0_dropOldest_L9 {g : Gv} {ad : Nat → Nat} {l : Launch} {p : Program} {e : Env} {s : State} {m : MethodId} {args : Array Value} {below : List Frame} {meth : Method} {c : Code} (C : Cx g p s m args meth c "StairBows$History" cX0_dropOldest 3 none) {v1 : Int32}  {K : Mem → Prop}  (kv1 : kd (59 + 28 * v1.toNatClampNeg) = 9)  : ∀ (n : Nat) (v2 : Int32) (μ : Mem) (H : Heap) (locs : List Loc) (ls : Array Slot), wp_X0_dropOldest_L9 v1 K n v2 μ → Wd g ad μ (Aw ad s.heap.size) s H locs → lv_has ls 3 [(0, .ref (ad 57)), (1, .ref (ad (59 + 28 * v1.toNatClampNeg))), (2, .int v2)] → W p l e rm_X0_dropOldest s m args below meth c H locs 0 0 (MQ below (PostV g ad s.heap.size K) args s 0 0 (Aw ad s.heap.size)) (F0 m 9 ls []) := by
  obtain ⟨hx, hb, hml, -, hts, hown, -, -, hN⟩ := id C
  intro n
  induction n with
  | zero =>
    intro v2 μ H locs ls h w hl
    exact (show False from h).elim
  | succ n ih =>
    intro v2 μ H locs ls h w hl
    rw [wp_X0_dropOldest_L9_s] at h
    dsimp only at h
    refine lv_iload_n hx hb dX0_dropOldest_9 rfl (lv_at hl 2 rfl) ?_
    refine lv_bipush (v := 6) hx hb dX0_dropOldest_10 (by decide) ?_
    refine lv_icmp_ge (tgt := 35) hx hb dX0_dropOldest_12 (by decide) (fun c_2 => ?_) (fun c_2 => ?_)
    · have h := h.1 c_2
      refine lv_aload_n hx hb dX0_dropOldest_35 rfl (lv_at hl 0 rfl) ?_
      refine x_getH C w (k := 0) (v := .ref (ad 58)) (by decide) rfl mf_History_11 dX0_dropOldest_36 ?_
      refine lv_iconst (v := 5) hx hb dX0_dropOldest_39 (by decide) ?_
      refine lv_aload_n hx hb dX0_dropOldest_40 rfl (lv_at hl 1 rfl) ?_
      have hi : vp_in 5 6 := vp_lit (by decide) (by decide)
      refine x_astH C w (v := v1) (jn := 5) rfl hi kv1 dX0_dropOldest_41 (fun m_3 e_4 H locs w => ?_)
      have h := h m_3 e_4
      refine lv_aload_n hx hb dX0_dropOldest_42 rfl (lv_at hl 0 rfl) ?_
      refine lv_dup hx hb dX0_dropOldest_43 rfl ?_
      refine x_getH C w (k := 1) (v := .int (m_3 57 1)) (by decide) rfl mf_History_18 dX0_dropOldest_44 ?_
      refine lv_iconst (v := 1) hx hb dX0_dropOldest_47 (by decide) ?_
      refine lv_isub hx hb dX0_dropOldest_48 ?_
      refine x_putH C w mf_History_18 dX0_dropOldest_49 (fun m_5 e_6 H locs w => ?_)
      have h := h m_5 e_6
      exact x_vret C w h dX0_dropOldest_52
    · have h := h.2 c_2
      refine lv_aload_n hx hb dX0_dropOldest_15 rfl (lv_at hl 0 rfl) ?_
      refine x_getH C w (k := 0) (v := .ref (ad 58)) (by decide) rfl mf_History_11 dX0_dropOldest_16 ?_
      refine lv_iload_n hx hb dX0_dropOldest_19 rfl (lv_at hl 2 rfl) ?_
      refine lv_iconst (v := 1) hx hb dX0_dropOldest_20 (by decide) ?_
      refine lv_isub hx hb dX0_dropOldest_21 ?_
      refine lv_aload_n hx hb dX0_dropOldest_22 rfl (lv_at hl 0 rfl) ?_
      refine x_getH C w (k := 0) (v := .ref (ad 58)) (by decide) rfl mf_History_11 dX0_dropOldest_23 ?_
      refine lv_iload_n hx hb dX0_dropOldest_26 rfl (lv_at hl 2 rfl) ?_
      have hi := h.1
      have h := h.2
      have k_7 := kd_H _ h.1
      have h := h.2
      refine x_aldH C w (jn := v2.toNatClampNeg) rfl hi dX0_dropOldest_27 ?_
      have hi := h.1
      have h := h.2
      refine x_astH C w (v := (μ 58 v2.toNatClampNeg)) (jn := (v2 - 1).toNatClampNeg) rfl hi k_7 dX0_dropOldest_28 (fun m_8 e_9 H locs w => ?_)
      have h := h m_8 e_9
      refine lv_iinc (v := (v2 + 1)) (lv' := [(2, .int (v2 + 1)), (0, .ref (ad 57)), (1, .ref (ad (59 + 28 * v1.toNatClampNeg)))]) hx hb dX0_dropOldest_29 hl (k := 2) rfl rfl (by decide) rfl (fun ls hl => ?_)
      refine lv_goto (tgt := 9) hx hb dX0_dropOldest_32 (by decide) ?_
      exact ih (v2 + 1) m_8 _ _ _ h w (lv_sub hl [1, 2, 0] rfl)
set_option maxHeartbeats 4000000 in
set_option maxRecDepth 100000 in
theorem c_X0_dropOldest (l : Launch) (g : Gv) (ad : Nat → Nat) (μ : Mem) (sz : Nat)  {K : Mem → Prop} (h : wp_X0_dropOldest μ K) : Met l yX0_dropOldest (wX yX0_dropOldest cX0_dropOldest 3 none) rm_X0_dropOldest (Pre g ad μ sz [.ref (ad 57)]) (PostV g ad sz K) 0 0 (Aw ad sz) := by
  refine Met.ofW (cc := cX0_dropOldest) (maxL := 3) (ret := none) (by decide) rfl ?_
  intro p e s m args below meth c s₁ B hml hv
  obtain ⟨rfl, rfl, C, w⟩ := x_start B hml hv
  obtain ⟨hx, hb, hml, -, hts, hown, -, -, hN⟩ := id C
  have hl := lv_entry ([.ref (ad 57)]) (n := 3) (Nat.le_of_ble_eq_true rfl)
  rw [lg_entry_eq]
  generalize (lg_sl ([.ref (ad 57)]) ++ List.replicate (3 - (lg_sl ([.ref (ad 57)])).length) Slot.unset).toArray = ls at hl ⊢
  have hl : lv_has ls 3 [(0, .ref (ad 57))] := hl
  show W p l e rm_X0_dropOldest s m _ below meth c s.heap [] 0 0 _ _
  unfold wp_X0_dropOldest at h
  refine lv_aload_n hx hb dX0_dropOldest_0 rfl (lv_at hl 0 rfl) ?_
  refine x_getH C w (k := 0) (v := .ref (ad 58)) (by decide) rfl mf_History_11 dX0_dropOldest_1 ?_
  refine lv_iconst (v := 0) hx hb dX0_dropOldest_4 (by decide) ?_
  have hi : vp_in 0 6 := vp_lit (by decide) (by decide)
  have k_1 := kd_H _ h.1
  have h := h.2
  refine x_aldH C w (jn := 0) rfl hi dX0_dropOldest_5 ?_
  refine lv_astore_n (lv' := [(1, .ref (ad (59 + 28 * (μ 58 0).toNatClampNeg))), (0, .ref (ad 57))]) hx hb dX0_dropOldest_6 rfl hl (by decide) rfl (fun ls hl => ?_)
  refine lv_iconst (v := 1) hx hb dX0_dropOldest_7 (by decide) ?_
  refine lv_istore_n (lv' := [(2, .int 1), (1, .ref (ad (59 + 28 * (μ 58 0).toNatClampNeg))), (0, .ref (ad 57))]) hx hb dX0_dropOldest_8 rfl hl (by decide) rfl (fun ls hl => ?_)
  obtain ⟨n_10, h⟩ := h
  exact t_X0_dropOldest_L9 C k_1 n_10 1 μ _ _ _ h w (lv_sub hl [2, 1, 0] rfl)
abbrev rm_X0_keep : Room := { frames := 2, cells := 0, slots := 0, locals := 52 }
noncomputable def wp_X0_keep_B13 (v1 : Nat) (K : Mem → Prop) (μ : Mem) : Prop :=
    (((μ 57 1) < 0 → K μ) ∧ (¬ (μ 57 1) < 0 → ((6 ≤ (μ 57 1) → K μ) ∧ (¬ 6 ≤ (μ 57 1) → (vp_in (μ 57 1) 6 ∧ ((μ 58 ((μ 57 1).toNatClampNeg)).toNatClampNeg < 6 ∧ (wp_X3_takeFrom (59 + 28 * (μ 58 ((μ 57 1).toNatClampNeg)).toNatClampNeg) v1 μ (fun m_5 => (∀ m_6, m_6 = up2 m_5 57 1 ((m_5 57 1) + 1) → K m_6)))))))))
noncomputable def wp_X0_keep (a1 : Nat) (μ : Mem) (K : Mem → Prop) : Prop :=
    ((¬ (μ 57 1) = 6 → wp_X0_keep_B13 a1 K μ) ∧ ((μ 57 1) = 6 → (wp_X0_dropOldest μ (fun m_8 => wp_X0_keep_B13 a1 K m_8))))
set_option maxHeartbeats 4000000 in
set_option maxRecDepth 100000 in
theorem t_X0_keep_B13 {g : Gv} {ad : Nat → Nat} {l : Launch} {p : Program} {e : Env} {s : State} {m : MethodId} {args : Array Value} {below : List Frame} {meth : Method} {c : Code} (C : Cx g p s m args meth c "StairBows$History" cX0_keep 2 none) {v1 : Nat}  {K : Mem → Prop}  (kv1 : kd v1 = 9)  (μ : Mem) (H : Heap) (locs : List Loc) (ls : Array Slot) (h : wp_X0_keep_B13 v1 K μ) (w : Wd g ad μ (Aw ad s.heap.size) s H locs) (hl : lv_has ls 2 [(0, .ref (ad 57)), (1, .ref (ad v1))]) : W p l e rm_X0_keep s m args below meth c H locs 0 0 (MQ below (PostV g ad s.heap.size K) args s 0 0 (Aw ad s.heap.size)) (F0 m 13 ls []) := by
  obtain ⟨hx, hb, hml, -, hts, hown, -, -, hN⟩ := id C
  unfold wp_X0_keep_B13 at h
  refine lv_aload_n hx hb dX0_keep_13 rfl (lv_at hl 0 rfl) ?_
  refine x_getH C w (k := 1) (v := .int (μ 57 1)) (by decide) rfl mf_History_18 dX0_keep_14 ?_
  refine lv_if_lt (tgt := 52) hx hb dX0_keep_17 (by decide) (fun c_2 => ?_) (fun c_2 => ?_)
  · have h := h.1 c_2
    exact x_vret C w h dX0_keep_52
  · have h := h.2 c_2
    refine lv_aload_n hx hb dX0_keep_20 rfl (lv_at hl 0 rfl) ?_
    refine x_getH C w (k := 1) (v := .int (μ 57 1)) (by decide) rfl mf_History_18 dX0_keep_21 ?_
    refine lv_bipush (v := 6) hx hb dX0_keep_24 (by decide) ?_
    refine lv_icmp_ge (tgt := 52) hx hb dX0_keep_26 (by decide) (fun c_3 => ?_) (fun c_3 => ?_)
    · have h := h.1 c_3
      exact x_vret C w h dX0_keep_52
    · have h := h.2 c_3
      refine lv_aload_n hx hb dX0_keep_29 rfl (lv_at hl 0 rfl) ?_
      refine x_getH C w (k := 0) (v := .ref (ad 58)) (by decide) rfl mf_History_11 dX0_keep_30 ?_
      refine lv_aload_n hx hb dX0_keep_33 rfl (lv_at hl 0 rfl) ?_
      refine x_getH C w (k := 1) (v := .int (μ 57 1)) (by decide) rfl mf_History_18 dX0_keep_34 ?_
      have hi := h.1
      have h := h.2
      have k_4 := kd_H _ h.1
      have h := h.2
      refine x_aldH C w (jn := (μ 57 1).toNatClampNeg) rfl hi dX0_keep_37 ?_
      refine lv_aload_n hx hb dX0_keep_38 rfl (lv_at hl 1 rfl) ?_
      refine x_callv C w (x_runV (i := (59 + 28 * (μ 58 ((μ 57 1).toNatClampNeg)).toNatClampNeg)) (As := [.ref (ad v1)]) (rest := []) C w k_4 (by decide) (ci := 3) rfl rfl rfl me_X3_takeFrom ml_History_25 (c_X3_takeFrom l g ad μ _ (59 + 28 * (μ 58 ((μ 57 1).toNatClampNeg)).toNatClampNeg) k_4 v1 kv1 h) ⟨rfl, rfl⟩ ⟨Nat.le_of_ble_eq_true rfl, Nat.le_of_ble_eq_true rfl⟩ rfl hl.1 rfl (Nat.le_of_ble_eq_true rfl) dX0_keep_39 ⟨Nat.le_of_ble_eq_true rfl, Nat.le_of_ble_eq_true rfl⟩) (fun m_5 h H locs w => ?_)
      refine lv_aload_n hx hb dX0_keep_42 rfl (lv_at hl 0 rfl) ?_
      refine lv_dup hx hb dX0_keep_43 rfl ?_
      refine x_getH C w (k := 1) (v := .int (m_5 57 1)) (by decide) rfl mf_History_18 dX0_keep_44 ?_
      refine lv_iconst (v := 1) hx hb dX0_keep_47 (by decide) ?_
      refine lv_iadd hx hb dX0_keep_48 ?_
      refine x_putH C w mf_History_18 dX0_keep_49 (fun m_6 e_7 H locs w => ?_)
      have h := h m_6 e_7
      exact x_vret C w h dX0_keep_52
set_option maxHeartbeats 4000000 in
set_option maxRecDepth 100000 in
theorem c_X0_keep (l : Launch) (g : Gv) (ad : Nat → Nat) (μ : Mem) (sz : Nat) (a1 : Nat) (k1 : kd a1 = 9) {K : Mem → Prop} (h : wp_X0_keep a1 μ K) : Met l yX0_keep (wX yX0_keep cX0_keep 2 none) rm_X0_keep (Pre g ad μ sz [.ref (ad 57), .ref (ad a1)]) (PostV g ad sz K) 0 0 (Aw ad sz) := by
  refine Met.ofW (cc := cX0_keep) (maxL := 2) (ret := none) (by decide) rfl ?_
  intro p e s m args below meth c s₁ B hml hv
  obtain ⟨rfl, rfl, C, w⟩ := x_start B hml hv
  obtain ⟨hx, hb, hml, -, hts, hown, -, -, hN⟩ := id C
  have hl := lv_entry ([.ref (ad 57), .ref (ad a1)]) (n := 2) (Nat.le_of_ble_eq_true rfl)
  rw [lg_entry_eq]
  generalize (lg_sl ([.ref (ad 57), .ref (ad a1)]) ++ List.replicate (2 - (lg_sl ([.ref (ad 57), .ref (ad a1)])).length) Slot.unset).toArray = ls at hl ⊢
  have hl : lv_has ls 2 [(0, .ref (ad 57)), (1, .ref (ad a1))] := hl
  show W p l e rm_X0_keep s m _ below meth c s.heap [] 0 0 _ _
  unfold wp_X0_keep at h
  refine lv_aload_n hx hb dX0_keep_0 rfl (lv_at hl 0 rfl) ?_
  refine x_getH C w (k := 1) (v := .int (μ 57 1)) (by decide) rfl mf_History_18 dX0_keep_1 ?_
  refine lv_bipush (v := 6) hx hb dX0_keep_4 (by decide) ?_
  refine lv_icmp_ne (tgt := 13) hx hb dX0_keep_6 (by decide) (fun c_1 => ?_) (fun c_1 => ?_)
  · have h := h.1 c_1
    exact t_X0_keep_B13 C k1 μ _ _ _ h w (lv_sub hl [0, 1] rfl)
  · have h := h.2 c_1
    refine lv_aload_n hx hb dX0_keep_9 rfl (lv_at hl 0 rfl) ?_
    refine x_callv C w (x_runV (i := 57) (As := []) (rest := []) C w (rfl : kd 57 = 1) (by decide) (ci := 0) rfl rfl rfl me_X0_dropOldest ml_History_22 (c_X0_dropOldest l g ad μ _  h) ⟨rfl, rfl⟩ ⟨Nat.le_of_ble_eq_true rfl, Nat.le_of_ble_eq_true rfl⟩ rfl hl.1 rfl (Nat.le_of_ble_eq_true rfl) dX0_keep_10 ⟨Nat.le_of_ble_eq_true rfl, Nat.le_of_ble_eq_true rfl⟩) (fun m_8 h H locs w => ?_)
    exact t_X0_keep_B13 C k1 m_8 _ _ _ h w (lv_sub hl [0, 1] rfl)
abbrev rm_X1_charactersIn : Room := { frames := 0, cells := 0, slots := 0, locals := 0 }
noncomputable def wp_X1_charactersIn_L4 (K : Int32 → Mem → Prop) (n : Nat) : Int32 → Int64 → Mem → Prop :=
  Nat.rec (motive := fun _ => Int32 → Int64 → Mem → Prop) (fun _ _ _ => False) (fun _ ih v2 v3 μ =>
    (((lg_cmp v3 0) = 0 → K v2 μ) ∧ (¬ (lg_cmp v3 0) = 0 → ((8 ≤ v2 → K v2 μ) ∧ (¬ 8 ≤ v2 → (((lg_cmp (v3 &&& 255) 33) < 0 → K 0 μ) ∧ (¬ (lg_cmp (v3 &&& 255) 33) < 0 → (((lg_cmp (v3 &&& 255) 126) ≤ 0 → ih (v2 + 1) (lsr v3 8) μ) ∧ (¬ (lg_cmp (v3 &&& 255) 126) ≤ 0 → K 0 μ))))))))) n
theorem wp_X1_charactersIn_L4_s (K : Int32 → Mem → Prop) (n : Nat) (v2 : Int32) (v3 : Int64) (μ : Mem) : wp_X1_charactersIn_L4 K (n + 1) v2 v3 μ = (
    let ih := wp_X1_charactersIn_L4 K n
    (((lg_cmp v3 0) = 0 → K v2 μ) ∧ (¬ (lg_cmp v3 0) = 0 → ((8 ≤ v2 → K v2 μ) ∧ (¬ 8 ≤ v2 → (((lg_cmp (v3 &&& 255) 33) < 0 → K 0 μ) ∧ (¬ (lg_cmp (v3 &&& 255) 33) < 0 → (((lg_cmp (v3 &&& 255) 126) ≤ 0 → ih (v2 + 1) (lsr v3 8) μ) ∧ (¬ (lg_cmp (v3 &&& 255) 126) ≤ 0 → K 0 μ))))))))) := rfl
noncomputable def wp_X1_charactersIn (a0 : Int64) (μ : Mem) (K : Int32 → Mem → Prop) : Prop :=
    (∃ n, wp_X1_charactersIn_L4 K n 0 a0 μ)
set_option maxHeartbeats 4000000 in
set_option maxRecDepth 100000 in
theorem t_X1_charactersIn_L4 {g : Gv} {ad : Nat → Nat} {l : Launch} {p : Program} {e : Env} {s : State} {m : MethodId} {args : Array Value} {below : List Frame} {meth : Method} {c : Code} (C : Cx g p s m args meth c "StairBows$Pad" cX1_charactersIn 7 (some .int))   {K : Int32 → Mem → Prop}    : ∀ (n : Nat) (v2 : Int32) (v3 : Int64) (μ : Mem) (H : Heap) (locs : List Loc) (ls : Array Slot), wp_X1_charactersIn_L4 K n v2 v3 μ → Wd g ad μ (Aw ad s.heap.size) s H locs → lv_has ls 7 [(2, .int v2), (3, .long v3)] → W p l e rm_X1_charactersIn s m args below meth c H locs 0 0 (MQ below (PostI g ad s.heap.size K) args s 0 0 (Aw ad s.heap.size)) (F0 m 4 ls []) := by
  obtain ⟨hx, hb, hml, -, hts, hown, -, -, hN⟩ := id C
  intro n
  induction n with
  | zero =>
    intro v2 v3 μ H locs ls h w hl
    exact (show False from h).elim
  | succ n ih =>
    intro v2 v3 μ H locs ls h w hl
    rw [wp_X1_charactersIn_L4_s] at h
    dsimp only at h
    refine lv_lload_n hx hb dX1_charactersIn_4 rfl (lv_at hl 1 rfl) ?_
    refine lv_lconst (v := 0) hx hb dX1_charactersIn_5 (by decide) ?_
    refine W.lcmp hx hb dX1_charactersIn_6 ?_
    refine lv_if_eq (tgt := 54) hx hb dX1_charactersIn_7 (by decide) (fun c_1 => ?_) (fun c_1 => ?_)
    · have h := h.1 c_1
      refine lv_iload_n hx hb dX1_charactersIn_54 rfl (lv_at hl 0 rfl) ?_
      exact x_iret C w h dX1_charactersIn_55
    · have h := h.2 c_1
      refine lv_iload_n hx hb dX1_charactersIn_10 rfl (lv_at hl 0 rfl) ?_
      refine lv_bipush (v := 8) hx hb dX1_charactersIn_11 (by decide) ?_
      refine lv_icmp_ge (tgt := 54) hx hb dX1_charactersIn_13 (by decide) (fun c_2 => ?_) (fun c_2 => ?_)
      · have h := h.1 c_2
        refine lv_iload_n hx hb dX1_charactersIn_54 rfl (lv_at hl 0 rfl) ?_
        exact x_iret C w h dX1_charactersIn_55
      · have h := h.2 c_2
        refine lv_lload_n hx hb dX1_charactersIn_16 rfl (lv_at hl 1 rfl) ?_
        refine lv_ldc2 (v := 255) hx hb hown (hts _ mk_Pad_23) dX1_charactersIn_17 ?_
        refine lv_land hx hb dX1_charactersIn_20 ?_
        refine lv_lstore (lv' := [(5, .long (v3 &&& 255)), (2, .int v2), (3, .long v3)]) hx hb dX1_charactersIn_21 hl (by decide) rfl (fun ls hl => ?_)
        refine lv_lload hx hb dX1_charactersIn_23 (lv_at hl 0 rfl) ?_
        refine lv_ldc2 (v := 33) hx hb hown (hts _ mk_Pad_25) dX1_charactersIn_25 ?_
        refine W.lcmp hx hb dX1_charactersIn_28 ?_
        refine lv_if_lt (tgt := 41) hx hb dX1_charactersIn_29 (by decide) (fun c_3 => ?_) (fun c_3 => ?_)
        · have h := h.1 c_3
          refine lv_iconst (v := 0) hx hb dX1_charactersIn_41 (by decide) ?_
          exact x_iret C w h dX1_charactersIn_42
        · have h := h.2 c_3
          refine lv_lload hx hb dX1_charactersIn_32 (lv_at hl 0 rfl) ?_
          refine lv_ldc2 (v := 126) hx hb hown (hts _ mk_Pad_27) dX1_charactersIn_34 ?_
          refine W.lcmp hx hb dX1_charactersIn_37 ?_
          refine lv_if_le (tgt := 43) hx hb dX1_charactersIn_38 (by decide) (fun c_4 => ?_) (fun c_4 => ?_)
          · have h := h.1 c_4
            refine lv_lload_n hx hb dX1_charactersIn_43 rfl (lv_at hl 2 rfl) ?_
            refine lv_bipush (v := 8) hx hb dX1_charactersIn_44 (by decide) ?_
            refine lv_lushr (v := (lsr v3 8)) hx hb dX1_charactersIn_46 rfl ?_
            refine lv_lstore_n (lv' := [(3, .long (lsr v3 8)), (5, .long (v3 &&& 255)), (2, .int v2)]) hx hb dX1_charactersIn_47 rfl hl (by decide) rfl (fun ls hl => ?_)
            refine lv_iinc (v := (v2 + 1)) (lv' := [(2, .int (v2 + 1)), (3, .long (lsr v3 8)), (5, .long (v3 &&& 255))]) hx hb dX1_charactersIn_48 hl (k := 2) rfl rfl (by decide) rfl (fun ls hl => ?_)
            refine lv_goto (tgt := 4) hx hb dX1_charactersIn_51 (by decide) ?_
            exact ih (v2 + 1) (lsr v3 8) μ _ _ _ h w (lv_sub hl [0, 1] rfl)
          · have h := h.2 c_4
            refine lv_iconst (v := 0) hx hb dX1_charactersIn_41 (by decide) ?_
            exact x_iret C w h dX1_charactersIn_42
set_option maxHeartbeats 4000000 in
set_option maxRecDepth 100000 in
theorem c_X1_charactersIn (l : Launch) (g : Gv) (ad : Nat → Nat) (μ : Mem) (sz : Nat) (a0 : Int64) {K : Int32 → Mem → Prop} (h : wp_X1_charactersIn a0 μ K) : Met l yX1_charactersIn (wX yX1_charactersIn cX1_charactersIn 7 (some .int)) rm_X1_charactersIn (Pre g ad μ sz [.long a0]) (PostI g ad sz K) 0 0 (Aw ad sz) := by
  refine Met.ofW (cc := cX1_charactersIn) (maxL := 7) (ret := (some .int)) (by decide) rfl ?_
  intro p e s m args below meth c s₁ B hml hv
  obtain ⟨rfl, rfl, C, w⟩ := x_start B hml hv
  obtain ⟨hx, hb, hml, -, hts, hown, -, -, hN⟩ := id C
  have hl := lv_entry ([.long a0]) (n := 7) (Nat.le_of_ble_eq_true rfl)
  rw [lg_entry_eq]
  generalize (lg_sl ([.long a0]) ++ List.replicate (7 - (lg_sl ([.long a0])).length) Slot.unset).toArray = ls at hl ⊢
  have hl : lv_has ls 7 [(0, .long a0)] := hl
  show W p l e rm_X1_charactersIn s m _ below meth c s.heap [] 0 0 _ _
  unfold wp_X1_charactersIn at h
  refine lv_iconst (v := 0) hx hb dX1_charactersIn_0 (by decide) ?_
  refine lv_istore_n (lv' := [(2, .int 0), (0, .long a0)]) hx hb dX1_charactersIn_1 rfl hl (by decide) rfl (fun ls hl => ?_)
  refine lv_lload_n hx hb dX1_charactersIn_2 rfl (lv_at hl 1 rfl) ?_
  refine lv_lstore_n (lv' := [(3, .long a0), (2, .int 0), (0, .long a0)]) hx hb dX1_charactersIn_3 rfl hl (by decide) rfl (fun ls hl => ?_)
  obtain ⟨n_5, h⟩ := h
  exact t_X1_charactersIn_L4 C n_5 0 a0 μ _ _ _ h w (lv_sub hl [1, 0] rfl)
abbrev rm_X1_append : Room := { frames := 1, cells := 0, slots := 0, locals := 26 }
noncomputable def wp_X1_append_L29 (v1 : Int64) (v3 : Int32) (K : Int32 → Mem → Prop) (n : Nat) : Int32 → Mem → Prop :=
  Nat.rec (motive := fun _ => Int32 → Mem → Prop) (fun _ _ => False) (fun _ ih v4 μ =>
    ((v3 ≤ v4 → (∀ m_6, m_6 = up2 μ 229 1 ((μ 229 1) + v3) → K (m_6 229 1) m_6)) ∧ (¬ v3 ≤ v4 → (vp_in ((((μ 229 1) + v3) - 1) - v4) 60 ∧ (∀ m_8, m_8 = up2 μ 230 (((((μ 229 1) + v3) - 1) - v4).toNatClampNeg) (vp_nar .char ((Int32.toUInt32 (Int64.toInt32 ((lsr v1 (8 * v4)) &&& 255)) % 65536).toInt32)) → ih (v4 + 1) m_8))))) n
theorem wp_X1_append_L29_s (v1 : Int64) (v3 : Int32) (K : Int32 → Mem → Prop) (n : Nat) (v4 : Int32) (μ : Mem) : wp_X1_append_L29 v1 v3 K (n + 1) v4 μ = (
    let ih := wp_X1_append_L29 v1 v3 K n
    ((v3 ≤ v4 → (∀ m_6, m_6 = up2 μ 229 1 ((μ 229 1) + v3) → K (m_6 229 1) m_6)) ∧ (¬ v3 ≤ v4 → (vp_in ((((μ 229 1) + v3) - 1) - v4) 60 ∧ (∀ m_8, m_8 = up2 μ 230 (((((μ 229 1) + v3) - 1) - v4).toNatClampNeg) (vp_nar .char ((Int32.toUInt32 (Int64.toInt32 ((lsr v1 (8 * v4)) &&& 255)) % 65536).toInt32)) → ih (v4 + 1) m_8))))) := rfl
noncomputable def wp_X1_append (a1 : Int64) (μ : Mem) (K : Int32 → Mem → Prop) : Prop :=
    (wp_X1_charactersIn a1 μ (fun r_2 m_1 => ((¬ r_2 = 0 → ((((m_1 229 1) + r_2) ≤ 60 → (∃ n, wp_X1_append_L29 a1 r_2 K n 0 m_1)) ∧ (¬ ((m_1 229 1) + r_2) ≤ 60 → K (-4) m_1))) ∧ (r_2 = 0 → K (-2) m_1))))
set_option maxHeartbeats 4000000 in
set_option maxRecDepth 100000 in
theorem t_X1_append_L29 {g : Gv} {ad : Nat → Nat} {l : Launch} {p : Program} {e : Env} {s : State} {m : MethodId} {args : Array Value} {below : List Frame} {meth : Method} {c : Code} (C : Cx g p s m args meth c "StairBows$Pad" cX1_append 5 (some .int)) {v1 : Int64} {v3 : Int32}  {K : Int32 → Mem → Prop}    : ∀ (n : Nat) (v4 : Int32) (μ : Mem) (H : Heap) (locs : List Loc) (ls : Array Slot), wp_X1_append_L29 v1 v3 K n v4 μ → Wd g ad μ (Aw ad s.heap.size) s H locs → lv_has ls 5 [(0, .ref (ad 229)), (1, .long v1), (3, .int v3), (4, .int v4)] → W p l e rm_X1_append s m args below meth c H locs 0 0 (MQ below (PostI g ad s.heap.size K) args s 0 0 (Aw ad s.heap.size)) (F0 m 29 ls []) := by
  obtain ⟨hx, hb, hml, -, hts, hown, -, -, hN⟩ := id C
  intro n
  induction n with
  | zero =>
    intro v4 μ H locs ls h w hl
    exact (show False from h).elim
  | succ n ih =>
    intro v4 μ H locs ls h w hl
    rw [wp_X1_append_L29_s] at h
    dsimp only at h
    refine lv_iload hx hb dX1_append_29 (lv_at hl 3 rfl) ?_
    refine lv_iload_n hx hb dX1_append_31 rfl (lv_at hl 2 rfl) ?_
    refine lv_icmp_ge (tgt := 70) hx hb dX1_append_32 (by decide) (fun c_5 => ?_) (fun c_5 => ?_)
    · have h := h.1 c_5
      refine lv_aload_n hx hb dX1_append_70 rfl (lv_at hl 0 rfl) ?_
      refine lv_dup hx hb dX1_append_71 rfl ?_
      refine x_getD C w (k := 1) (v := .int (μ 229 1)) (by decide) rfl mf_Pad_19 dX1_append_72 ?_
      refine lv_iload_n hx hb dX1_append_75 rfl (lv_at hl 2 rfl) ?_
      refine lv_iadd hx hb dX1_append_76 ?_
      refine x_putD C w mf_Pad_19 dX1_append_77 (fun m_6 e_7 H locs w => ?_)
      have h := h m_6 e_7
      refine lv_aload_n hx hb dX1_append_80 rfl (lv_at hl 0 rfl) ?_
      refine x_getD C w (k := 1) (v := .int (m_6 229 1)) (by decide) rfl mf_Pad_19 dX1_append_81 ?_
      exact x_iret C w h dX1_append_84
    · have h := h.2 c_5
      refine lv_aload_n hx hb dX1_append_35 rfl (lv_at hl 0 rfl) ?_
      refine x_getD C w (k := 0) (v := .ref (ad 230)) (by decide) rfl mf_Pad_9 dX1_append_36 ?_
      refine lv_aload_n hx hb dX1_append_39 rfl (lv_at hl 0 rfl) ?_
      refine x_getD C w (k := 1) (v := .int (μ 229 1)) (by decide) rfl mf_Pad_19 dX1_append_40 ?_
      refine lv_iload_n hx hb dX1_append_43 rfl (lv_at hl 2 rfl) ?_
      refine lv_iadd hx hb dX1_append_44 ?_
      refine lv_iconst (v := 1) hx hb dX1_append_45 (by decide) ?_
      refine lv_isub hx hb dX1_append_46 ?_
      refine lv_iload hx hb dX1_append_47 (lv_at hl 3 rfl) ?_
      refine lv_isub hx hb dX1_append_49 ?_
      refine lv_lload_n hx hb dX1_append_50 rfl (lv_at hl 1 rfl) ?_
      refine lv_bipush (v := 8) hx hb dX1_append_51 (by decide) ?_
      refine lv_iload hx hb dX1_append_53 (lv_at hl 3 rfl) ?_
      refine lv_imul hx hb dX1_append_55 ?_
      refine lv_lushr (v := (lsr v1 (8 * v4))) hx hb dX1_append_56 rfl ?_
      refine lv_ldc2 (v := 255) hx hb hown (hts _ mk_Pad_23) dX1_append_57 ?_
      refine lv_land hx hb dX1_append_60 ?_
      refine lv_l2i (v := (Int64.toInt32 ((lsr v1 (8 * v4)) &&& 255))) hx hb dX1_append_61 rfl ?_
      refine lv_i2c (v := ((Int32.toUInt32 (Int64.toInt32 ((lsr v1 (8 * v4)) &&& 255)) % 65536).toInt32)) hx hb dX1_append_62 rfl ?_
      refine x_cast C w (show vp_in ((((μ 229 1) + v3) - 1) - v4) 60 from h.1) dX1_append_63 (fun m_8 e_9 H locs w => ?_)
      have h := h.2 m_8 e_9
      refine lv_iinc (v := (v4 + 1)) (lv' := [(4, .int (v4 + 1)), (0, .ref (ad 229)), (1, .long v1), (3, .int v3)]) hx hb dX1_append_64 hl (k := 3) rfl rfl (by decide) rfl (fun ls hl => ?_)
      refine lv_goto (tgt := 29) hx hb dX1_append_67 (by decide) ?_
      exact ih (v4 + 1) m_8 _ _ _ h w (lv_sub hl [1, 2, 3, 0] rfl)
set_option maxHeartbeats 4000000 in
set_option maxRecDepth 100000 in
theorem c_X1_append (l : Launch) (g : Gv) (ad : Nat → Nat) (μ : Mem) (sz : Nat) (a1 : Int64) {K : Int32 → Mem → Prop} (h : wp_X1_append a1 μ K) : Met l yX1_append (wX yX1_append cX1_append 5 (some .int)) rm_X1_append (Pre g ad μ sz [.ref (ad 229), .long a1]) (PostI g ad sz K) 0 0 (Aw ad sz) := by
  refine Met.ofW (cc := cX1_append) (maxL := 5) (ret := (some .int)) (by decide) rfl ?_
  intro p e s m args below meth c s₁ B hml hv
  obtain ⟨rfl, rfl, C, w⟩ := x_start B hml hv
  obtain ⟨hx, hb, hml, -, hts, hown, -, -, hN⟩ := id C
  have hl := lv_entry ([.ref (ad 229), .long a1]) (n := 5) (Nat.le_of_ble_eq_true rfl)
  rw [lg_entry_eq]
  generalize (lg_sl ([.ref (ad 229), .long a1]) ++ List.replicate (5 - (lg_sl ([.ref (ad 229), .long a1])).length) Slot.unset).toArray = ls at hl ⊢
  have hl : lv_has ls 5 [(0, .ref (ad 229)), (1, .long a1)] := hl
  show W p l e rm_X1_append s m _ below meth c s.heap [] 0 0 _ _
  unfold wp_X1_append at h
  refine lv_lload_n hx hb dX1_append_0 rfl (lv_at hl 1 rfl) ?_
  refine x_calli C w (x_runS (As := [.long a1]) (rest := []) C w me_X1_charactersIn ml_Pad_15 (c_X1_charactersIn l g ad μ _ a1 h) ⟨rfl, rfl⟩ ⟨Nat.le_of_ble_eq_true rfl, Nat.le_of_ble_eq_true rfl⟩ rfl hl.1 rfl (Nat.le_of_ble_eq_true rfl) dX1_append_1 ⟨Nat.le_of_ble_eq_true rfl, Nat.le_of_ble_eq_true rfl⟩) (fun r_2 m_1 h H locs w => ?_)
  refine lv_istore_n (lv' := [(3, .int r_2), (0, .ref (ad 229)), (1, .long a1)]) hx hb dX1_append_4 rfl hl (by decide) rfl (fun ls hl => ?_)
  refine lv_iload_n hx hb dX1_append_5 rfl (lv_at hl 0 rfl) ?_
  refine lv_if_ne (tgt := 12) hx hb dX1_append_6 (by decide) (fun c_3 => ?_) (fun c_3 => ?_)
  · have h := h.1 c_3
    refine lv_aload_n hx hb dX1_append_12 rfl (lv_at hl 1 rfl) ?_
    refine x_getD C w (k := 1) (v := .int (m_1 229 1)) (by decide) rfl mf_Pad_19 dX1_append_13 ?_
    refine lv_iload_n hx hb dX1_append_16 rfl (lv_at hl 0 rfl) ?_
    refine lv_iadd hx hb dX1_append_17 ?_
    refine lv_bipush (v := 60) hx hb dX1_append_18 (by decide) ?_
    refine lv_icmp_le (tgt := 26) hx hb dX1_append_20 (by decide) (fun c_4 => ?_) (fun c_4 => ?_)
    · have h := h.1 c_4
      refine lv_iconst (v := 0) hx hb dX1_append_26 (by decide) ?_
      refine lv_istore (lv' := [(4, .int 0), (3, .int r_2), (0, .ref (ad 229)), (1, .long a1)]) hx hb dX1_append_27 hl (by decide) rfl (fun ls hl => ?_)
      obtain ⟨n_10, h⟩ := h
      exact t_X1_append_L29 C n_10 0 m_1 _ _ _ h w (lv_sub hl [2, 3, 1, 0] rfl)
    · have h := h.2 c_4
      refine lv_bipush (v := -4) hx hb dX1_append_23 (by decide) ?_
      exact x_iret C w h dX1_append_25
  · have h := h.2 c_3
    refine lv_bipush (v := -2) hx hb dX1_append_9 (by decide) ?_
    exact x_iret C w h dX1_append_11
abbrev rm_X1_canStandAt : Room := { frames := 0, cells := 0, slots := 0, locals := 0 }
noncomputable def wp_X1_canStandAt (a1 : Int32) (μ : Mem) (K : Int32 → Mem → Prop) : Prop :=
    (vp_in a1 60 ∧ ((¬ (a1 - (a1 / 2) * 2) = 0 → (((μ 230 a1.toNatClampNeg) < 49 → K 0 μ) ∧ (¬ (μ 230 a1.toNatClampNeg) < 49 → ((57 < (μ 230 a1.toNatClampNeg) → K 0 μ) ∧ (¬ 57 < (μ 230 a1.toNatClampNeg) → K 1 μ))))) ∧ ((a1 - (a1 / 2) * 2) = 0 → (((μ 230 a1.toNatClampNeg) = 117 → K 1 μ) ∧ (¬ (μ 230 a1.toNatClampNeg) = 117 → ((¬ (μ 230 a1.toNatClampNeg) = 100 → K 0 μ) ∧ ((μ 230 a1.toNatClampNeg) = 100 → K 1 μ)))))))
set_option maxHeartbeats 4000000 in
set_option maxRecDepth 100000 in
theorem c_X1_canStandAt (l : Launch) (g : Gv) (ad : Nat → Nat) (μ : Mem) (sz : Nat) (a1 : Int32) {K : Int32 → Mem → Prop} (h : wp_X1_canStandAt a1 μ K) : Met l yX1_canStandAt (wX yX1_canStandAt cX1_canStandAt 3 (some .boolean)) rm_X1_canStandAt (Pre g ad μ sz [.ref (ad 229), .int a1]) (PostI g ad sz K) 0 0 (Aw ad sz) := by
  refine Met.ofW (cc := cX1_canStandAt) (maxL := 3) (ret := (some .boolean)) (by decide) rfl ?_
  intro p e s m args below meth c s₁ B hml hv
  obtain ⟨rfl, rfl, C, w⟩ := x_start B hml hv
  obtain ⟨hx, hb, hml, -, hts, hown, -, -, hN⟩ := id C
  have hl := lv_entry ([.ref (ad 229), .int a1]) (n := 3) (Nat.le_of_ble_eq_true rfl)
  rw [lg_entry_eq]
  generalize (lg_sl ([.ref (ad 229), .int a1]) ++ List.replicate (3 - (lg_sl ([.ref (ad 229), .int a1])).length) Slot.unset).toArray = ls at hl ⊢
  have hl : lv_has ls 3 [(0, .ref (ad 229)), (1, .int a1)] := hl
  show W p l e rm_X1_canStandAt s m _ below meth c s.heap [] 0 0 _ _
  unfold wp_X1_canStandAt at h
  refine lv_aload_n hx hb dX1_canStandAt_0 rfl (lv_at hl 0 rfl) ?_
  refine x_getD C w (k := 0) (v := .ref (ad 230)) (by decide) rfl mf_Pad_9 dX1_canStandAt_1 ?_
  refine lv_iload_n hx hb dX1_canStandAt_4 rfl (lv_at hl 1 rfl) ?_
  refine x_cald C w (show vp_in a1 60 from h.1) dX1_canStandAt_5 ?_
  have h := h.2
  refine lv_istore_n (lv' := [(2, .int (μ 230 a1.toNatClampNeg)), (0, .ref (ad 229)), (1, .int a1)]) hx hb dX1_canStandAt_6 rfl hl (by decide) rfl (fun ls hl => ?_)
  refine lv_iload_n hx hb dX1_canStandAt_7 rfl (lv_at hl 2 rfl) ?_
  refine lv_iconst (v := 2) hx hb dX1_canStandAt_8 (by decide) ?_
  refine lv_irem hx hb dX1_canStandAt_9 (by decide) ?_
  refine lv_if_ne (tgt := 31) hx hb dX1_canStandAt_10 (by decide) (fun c_1 => ?_) (fun c_1 => ?_)
  · have h := h.1 c_1
    refine lv_iload_n hx hb dX1_canStandAt_31 rfl (lv_at hl 0 rfl) ?_
    refine lv_bipush (v := 49) hx hb dX1_canStandAt_32 (by decide) ?_
    refine lv_icmp_lt (tgt := 47) hx hb dX1_canStandAt_34 (by decide) (fun c_2 => ?_) (fun c_2 => ?_)
    · have h := h.1 c_2
      refine lv_iconst (v := 0) hx hb dX1_canStandAt_47 (by decide) ?_
      exact x_zret C w (show bz 0 from Or.inl rfl) h dX1_canStandAt_48
    · have h := h.2 c_2
      refine lv_iload_n hx hb dX1_canStandAt_37 rfl (lv_at hl 0 rfl) ?_
      refine lv_bipush (v := 57) hx hb dX1_canStandAt_38 (by decide) ?_
      refine lv_icmp_gt (tgt := 47) hx hb dX1_canStandAt_40 (by decide) (fun c_3 => ?_) (fun c_3 => ?_)
      · have h := h.1 c_3
        refine lv_iconst (v := 0) hx hb dX1_canStandAt_47 (by decide) ?_
        exact x_zret C w (show bz 0 from Or.inl rfl) h dX1_canStandAt_48
      · have h := h.2 c_3
        refine lv_iconst (v := 1) hx hb dX1_canStandAt_43 (by decide) ?_
        refine lv_goto (tgt := 48) hx hb dX1_canStandAt_44 (by decide) ?_
        exact x_zret C w (show bz 1 from Or.inr rfl) h dX1_canStandAt_48
  · have h := h.2 c_1
    refine lv_iload_n hx hb dX1_canStandAt_13 rfl (lv_at hl 0 rfl) ?_
    refine lv_bipush (v := 117) hx hb dX1_canStandAt_14 (by decide) ?_
    refine lv_icmp_eq (tgt := 25) hx hb dX1_canStandAt_16 (by decide) (fun c_4 => ?_) (fun c_4 => ?_)
    · have h := h.1 c_4
      refine lv_iconst (v := 1) hx hb dX1_canStandAt_25 (by decide) ?_
      refine lv_goto (tgt := 30) hx hb dX1_canStandAt_26 (by decide) ?_
      exact x_zret C w (show bz 1 from Or.inr rfl) h dX1_canStandAt_30
    · have h := h.2 c_4
      refine lv_iload_n hx hb dX1_canStandAt_19 rfl (lv_at hl 0 rfl) ?_
      refine lv_bipush (v := 100) hx hb dX1_canStandAt_20 (by decide) ?_
      refine lv_icmp_ne (tgt := 29) hx hb dX1_canStandAt_22 (by decide) (fun c_5 => ?_) (fun c_5 => ?_)
      · have h := h.1 c_5
        refine lv_iconst (v := 0) hx hb dX1_canStandAt_29 (by decide) ?_
        exact x_zret C w (show bz 0 from Or.inl rfl) h dX1_canStandAt_30
      · have h := h.2 c_5
        refine lv_iconst (v := 1) hx hb dX1_canStandAt_25 (by decide) ?_
        refine lv_goto (tgt := 30) hx hb dX1_canStandAt_26 (by decide) ?_
        exact x_zret C w (show bz 1 from Or.inr rfl) h dX1_canStandAt_30
abbrev rm_X1_firstFault : Room := { frames := 1, cells := 0, slots := 0, locals := 22 }
noncomputable def wp_X1_firstFault_L2 (K : Int32 → Mem → Prop) (n : Nat) : Int32 → Mem → Prop :=
  Nat.rec (motive := fun _ => Int32 → Mem → Prop) (fun _ _ => False) (fun _ ih v1 μ =>
    (((μ 229 1) ≤ v1 → (((μ 229 1) = 0 → K (μ 229 1) μ) ∧ (¬ (μ 229 1) = 0 → ((¬ ((μ 229 1) - ((μ 229 1) / 2) * 2) = 1 → K (-6) μ) ∧ (((μ 229 1) - ((μ 229 1) / 2) * 2) = 1 → K (μ 229 1) μ))))) ∧ (¬ (μ 229 1) ≤ v1 → (wp_X1_canStandAt v1 μ (fun r_5 m_4 => ((¬ r_5 = 0 → ih (v1 + 1) m_4) ∧ (r_5 = 0 → K v1 m_4))))))) n
theorem wp_X1_firstFault_L2_s (K : Int32 → Mem → Prop) (n : Nat) (v1 : Int32) (μ : Mem) : wp_X1_firstFault_L2 K (n + 1) v1 μ = (
    let ih := wp_X1_firstFault_L2 K n
    (((μ 229 1) ≤ v1 → (((μ 229 1) = 0 → K (μ 229 1) μ) ∧ (¬ (μ 229 1) = 0 → ((¬ ((μ 229 1) - ((μ 229 1) / 2) * 2) = 1 → K (-6) μ) ∧ (((μ 229 1) - ((μ 229 1) / 2) * 2) = 1 → K (μ 229 1) μ))))) ∧ (¬ (μ 229 1) ≤ v1 → (wp_X1_canStandAt v1 μ (fun r_5 m_4 => ((¬ r_5 = 0 → ih (v1 + 1) m_4) ∧ (r_5 = 0 → K v1 m_4))))))) := rfl
noncomputable def wp_X1_firstFault  (μ : Mem) (K : Int32 → Mem → Prop) : Prop :=
    (∃ n, wp_X1_firstFault_L2 K n 0 μ)
set_option maxHeartbeats 4000000 in
set_option maxRecDepth 100000 in
theorem t_X1_firstFault_L2 {g : Gv} {ad : Nat → Nat} {l : Launch} {p : Program} {e : Env} {s : State} {m : MethodId} {args : Array Value} {below : List Frame} {meth : Method} {c : Code} (C : Cx g p s m args meth c "StairBows$Pad" cX1_firstFault 2 (some .int))   {K : Int32 → Mem → Prop}    : ∀ (n : Nat) (v1 : Int32) (μ : Mem) (H : Heap) (locs : List Loc) (ls : Array Slot), wp_X1_firstFault_L2 K n v1 μ → Wd g ad μ (Aw ad s.heap.size) s H locs → lv_has ls 2 [(0, .ref (ad 229)), (1, .int v1)] → W p l e rm_X1_firstFault s m args below meth c H locs 0 0 (MQ below (PostI g ad s.heap.size K) args s 0 0 (Aw ad s.heap.size)) (F0 m 2 ls []) := by
  obtain ⟨hx, hb, hml, -, hts, hown, -, -, hN⟩ := id C
  intro n
  induction n with
  | zero =>
    intro v1 μ H locs ls h w hl
    exact (show False from h).elim
  | succ n ih =>
    intro v1 μ H locs ls h w hl
    rw [wp_X1_firstFault_L2_s] at h
    dsimp only at h
    refine lv_iload_n hx hb dX1_firstFault_2 rfl (lv_at hl 1 rfl) ?_
    refine lv_aload_n hx hb dX1_firstFault_3 rfl (lv_at hl 0 rfl) ?_
    refine x_getD C w (k := 1) (v := .int (μ 229 1)) (by decide) rfl mf_Pad_19 dX1_firstFault_4 ?_
    refine lv_icmp_ge (tgt := 26) hx hb dX1_firstFault_7 (by decide) (fun c_1 => ?_) (fun c_1 => ?_)
    · have h := h.1 c_1
      refine lv_aload_n hx hb dX1_firstFault_26 rfl (lv_at hl 0 rfl) ?_
      refine x_getD C w (k := 1) (v := .int (μ 229 1)) (by decide) rfl mf_Pad_19 dX1_firstFault_27 ?_
      refine lv_if_eq (tgt := 43) hx hb dX1_firstFault_30 (by decide) (fun c_2 => ?_) (fun c_2 => ?_)
      · have h := h.1 c_2
        refine lv_aload_n hx hb dX1_firstFault_43 rfl (lv_at hl 0 rfl) ?_
        refine x_getD C w (k := 1) (v := .int (μ 229 1)) (by decide) rfl mf_Pad_19 dX1_firstFault_44 ?_
        refine lv_goto (tgt := 52) hx hb dX1_firstFault_47 (by decide) ?_
        exact x_iret C w h dX1_firstFault_52
      · have h := h.2 c_2
        refine lv_aload_n hx hb dX1_firstFault_33 rfl (lv_at hl 0 rfl) ?_
        refine x_getD C w (k := 1) (v := .int (μ 229 1)) (by decide) rfl mf_Pad_19 dX1_firstFault_34 ?_
        refine lv_iconst (v := 2) hx hb dX1_firstFault_37 (by decide) ?_
        refine lv_irem hx hb dX1_firstFault_38 (by decide) ?_
        refine lv_iconst (v := 1) hx hb dX1_firstFault_39 (by decide) ?_
        refine lv_icmp_ne (tgt := 50) hx hb dX1_firstFault_40 (by decide) (fun c_3 => ?_) (fun c_3 => ?_)
        · have h := h.1 c_3
          refine lv_bipush (v := -6) hx hb dX1_firstFault_50 (by decide) ?_
          exact x_iret C w h dX1_firstFault_52
        · have h := h.2 c_3
          refine lv_aload_n hx hb dX1_firstFault_43 rfl (lv_at hl 0 rfl) ?_
          refine x_getD C w (k := 1) (v := .int (μ 229 1)) (by decide) rfl mf_Pad_19 dX1_firstFault_44 ?_
          refine lv_goto (tgt := 52) hx hb dX1_firstFault_47 (by decide) ?_
          exact x_iret C w h dX1_firstFault_52
    · have h := h.2 c_1
      refine lv_aload_n hx hb dX1_firstFault_10 rfl (lv_at hl 0 rfl) ?_
      refine lv_iload_n hx hb dX1_firstFault_11 rfl (lv_at hl 1 rfl) ?_
      refine x_calli C w (x_runV (i := 229) (As := [.int v1]) (rest := []) C w (rfl : kd 229 = 5) (by decide) (ci := 1) rfl rfl rfl me_X1_canStandAt ml_Pad_29 (c_X1_canStandAt l g ad μ _ v1 h) ⟨rfl, rfl⟩ ⟨Nat.le_of_ble_eq_true rfl, Nat.le_of_ble_eq_true rfl⟩ rfl hl.1 rfl (Nat.le_of_ble_eq_true rfl) dX1_firstFault_12 ⟨Nat.le_of_ble_eq_true rfl, Nat.le_of_ble_eq_true rfl⟩) (fun r_5 m_4 h H locs w => ?_)
      refine lv_if_ne (tgt := 20) hx hb dX1_firstFault_15 (by decide) (fun c_6 => ?_) (fun c_6 => ?_)
      · have h := h.1 c_6
        refine lv_iinc (v := (v1 + 1)) (lv' := [(1, .int (v1 + 1)), (0, .ref (ad 229))]) hx hb dX1_firstFault_20 hl (k := 1) rfl rfl (by decide) rfl (fun ls hl => ?_)
        refine lv_goto (tgt := 2) hx hb dX1_firstFault_23 (by decide) ?_
        exact ih (v1 + 1) m_4 _ _ _ h w (lv_sub hl [1, 0] rfl)
      · have h := h.2 c_6
        refine lv_iload_n hx hb dX1_firstFault_18 rfl (lv_at hl 1 rfl) ?_
        exact x_iret C w h dX1_firstFault_19
set_option maxHeartbeats 4000000 in
set_option maxRecDepth 100000 in
theorem c_X1_firstFault (l : Launch) (g : Gv) (ad : Nat → Nat) (μ : Mem) (sz : Nat)  {K : Int32 → Mem → Prop} (h : wp_X1_firstFault μ K) : Met l yX1_firstFault (wX yX1_firstFault cX1_firstFault 2 (some .int)) rm_X1_firstFault (Pre g ad μ sz [.ref (ad 229)]) (PostI g ad sz K) 0 0 (Aw ad sz) := by
  refine Met.ofW (cc := cX1_firstFault) (maxL := 2) (ret := (some .int)) (by decide) rfl ?_
  intro p e s m args below meth c s₁ B hml hv
  obtain ⟨rfl, rfl, C, w⟩ := x_start B hml hv
  obtain ⟨hx, hb, hml, -, hts, hown, -, -, hN⟩ := id C
  have hl := lv_entry ([.ref (ad 229)]) (n := 2) (Nat.le_of_ble_eq_true rfl)
  rw [lg_entry_eq]
  generalize (lg_sl ([.ref (ad 229)]) ++ List.replicate (2 - (lg_sl ([.ref (ad 229)])).length) Slot.unset).toArray = ls at hl ⊢
  have hl : lv_has ls 2 [(0, .ref (ad 229))] := hl
  show W p l e rm_X1_firstFault s m _ below meth c s.heap [] 0 0 _ _
  unfold wp_X1_firstFault at h
  refine lv_iconst (v := 0) hx hb dX1_firstFault_0 (by decide) ?_
  refine lv_istore_n (lv' := [(1, .int 0), (0, .ref (ad 229))]) hx hb dX1_firstFault_1 rfl hl (by decide) rfl (fun ls hl => ?_)
  obtain ⟨n_7, h⟩ := h
  exact t_X1_firstFault_L2 C n_7 0 μ _ _ _ h w (lv_sub hl [1, 0] rfl)
abbrev rm_X1_isUp : Room := { frames := 0, cells := 0, slots := 0, locals := 0 }
noncomputable def wp_X1_isUp (a1 : Int32) (μ : Mem) (K : Int32 → Mem → Prop) : Prop :=
    (((2 * a1) < 0 → K 0 μ) ∧ (¬ (2 * a1) < 0 → (((μ 229 1) ≤ (2 * a1) → K 0 μ) ∧ (¬ (μ 229 1) ≤ (2 * a1) → (vp_in (2 * a1) 60 ∧ ((¬ (μ 230 (2 * a1).toNatClampNeg) = 117 → K 0 μ) ∧ ((μ 230 (2 * a1).toNatClampNeg) = 117 → K 1 μ)))))))
set_option maxHeartbeats 4000000 in
set_option maxRecDepth 100000 in
theorem c_X1_isUp (l : Launch) (g : Gv) (ad : Nat → Nat) (μ : Mem) (sz : Nat) (a1 : Int32) {K : Int32 → Mem → Prop} (h : wp_X1_isUp a1 μ K) : Met l yX1_isUp (wX yX1_isUp cX1_isUp 3 (some .boolean)) rm_X1_isUp (Pre g ad μ sz [.ref (ad 229), .int a1]) (PostI g ad sz K) 0 0 (Aw ad sz) := by
  refine Met.ofW (cc := cX1_isUp) (maxL := 3) (ret := (some .boolean)) (by decide) rfl ?_
  intro p e s m args below meth c s₁ B hml hv
  obtain ⟨rfl, rfl, C, w⟩ := x_start B hml hv
  obtain ⟨hx, hb, hml, -, hts, hown, -, -, hN⟩ := id C
  have hl := lv_entry ([.ref (ad 229), .int a1]) (n := 3) (Nat.le_of_ble_eq_true rfl)
  rw [lg_entry_eq]
  generalize (lg_sl ([.ref (ad 229), .int a1]) ++ List.replicate (3 - (lg_sl ([.ref (ad 229), .int a1])).length) Slot.unset).toArray = ls at hl ⊢
  have hl : lv_has ls 3 [(0, .ref (ad 229)), (1, .int a1)] := hl
  show W p l e rm_X1_isUp s m _ below meth c s.heap [] 0 0 _ _
  unfold wp_X1_isUp at h
  refine lv_iconst (v := 2) hx hb dX1_isUp_0 (by decide) ?_
  refine lv_iload_n hx hb dX1_isUp_1 rfl (lv_at hl 1 rfl) ?_
  refine lv_imul hx hb dX1_isUp_2 ?_
  refine lv_istore_n (lv' := [(2, .int (2 * a1)), (0, .ref (ad 229)), (1, .int a1)]) hx hb dX1_isUp_3 rfl hl (by decide) rfl (fun ls hl => ?_)
  refine lv_iload_n hx hb dX1_isUp_4 rfl (lv_at hl 0 rfl) ?_
  refine lv_if_lt (tgt := 31) hx hb dX1_isUp_5 (by decide) (fun c_1 => ?_) (fun c_1 => ?_)
  · have h := h.1 c_1
    refine lv_iconst (v := 0) hx hb dX1_isUp_31 (by decide) ?_
    exact x_zret C w (show bz 0 from Or.inl rfl) h dX1_isUp_32
  · have h := h.2 c_1
    refine lv_iload_n hx hb dX1_isUp_8 rfl (lv_at hl 0 rfl) ?_
    refine lv_aload_n hx hb dX1_isUp_9 rfl (lv_at hl 1 rfl) ?_
    refine x_getD C w (k := 1) (v := .int (μ 229 1)) (by decide) rfl mf_Pad_19 dX1_isUp_10 ?_
    refine lv_icmp_ge (tgt := 31) hx hb dX1_isUp_13 (by decide) (fun c_2 => ?_) (fun c_2 => ?_)
    · have h := h.1 c_2
      refine lv_iconst (v := 0) hx hb dX1_isUp_31 (by decide) ?_
      exact x_zret C w (show bz 0 from Or.inl rfl) h dX1_isUp_32
    · have h := h.2 c_2
      refine lv_aload_n hx hb dX1_isUp_16 rfl (lv_at hl 1 rfl) ?_
      refine x_getD C w (k := 0) (v := .ref (ad 230)) (by decide) rfl mf_Pad_9 dX1_isUp_17 ?_
      refine lv_iload_n hx hb dX1_isUp_20 rfl (lv_at hl 0 rfl) ?_
      refine x_cald C w (show vp_in (2 * a1) 60 from h.1) dX1_isUp_21 ?_
      have h := h.2
      refine lv_bipush (v := 117) hx hb dX1_isUp_22 (by decide) ?_
      refine lv_icmp_ne (tgt := 31) hx hb dX1_isUp_24 (by decide) (fun c_3 => ?_) (fun c_3 => ?_)
      · have h := h.1 c_3
        refine lv_iconst (v := 0) hx hb dX1_isUp_31 (by decide) ?_
        exact x_zret C w (show bz 0 from Or.inl rfl) h dX1_isUp_32
      · have h := h.2 c_3
        refine lv_iconst (v := 1) hx hb dX1_isUp_27 (by decide) ?_
        refine lv_goto (tgt := 32) hx hb dX1_isUp_28 (by decide) ?_
        exact x_zret C w (show bz 1 from Or.inr rfl) h dX1_isUp_32
abbrev rm_X1_rankOf : Room := { frames := 0, cells := 0, slots := 0, locals := 0 }
noncomputable def wp_X1_rankOf (a1 : Int32) (μ : Mem) (K : Int32 → Mem → Prop) : Prop :=
    ((((2 * a1) + 1) < 1 → K 1 μ) ∧ (¬ ((2 * a1) + 1) < 1 → (((μ 229 1) ≤ ((2 * a1) + 1) → K 1 μ) ∧ (¬ (μ 229 1) ≤ ((2 * a1) + 1) → (vp_in ((2 * a1) + 1) 60 ∧ K ((μ 230 ((2 * a1) + 1).toNatClampNeg) - 48) μ)))))
set_option maxHeartbeats 4000000 in
set_option maxRecDepth 100000 in
theorem c_X1_rankOf (l : Launch) (g : Gv) (ad : Nat → Nat) (μ : Mem) (sz : Nat) (a1 : Int32) {K : Int32 → Mem → Prop} (h : wp_X1_rankOf a1 μ K) : Met l yX1_rankOf (wX yX1_rankOf cX1_rankOf 3 (some .int)) rm_X1_rankOf (Pre g ad μ sz [.ref (ad 229), .int a1]) (PostI g ad sz K) 0 0 (Aw ad sz) := by
  refine Met.ofW (cc := cX1_rankOf) (maxL := 3) (ret := (some .int)) (by decide) rfl ?_
  intro p e s m args below meth c s₁ B hml hv
  obtain ⟨rfl, rfl, C, w⟩ := x_start B hml hv
  obtain ⟨hx, hb, hml, -, hts, hown, -, -, hN⟩ := id C
  have hl := lv_entry ([.ref (ad 229), .int a1]) (n := 3) (Nat.le_of_ble_eq_true rfl)
  rw [lg_entry_eq]
  generalize (lg_sl ([.ref (ad 229), .int a1]) ++ List.replicate (3 - (lg_sl ([.ref (ad 229), .int a1])).length) Slot.unset).toArray = ls at hl ⊢
  have hl : lv_has ls 3 [(0, .ref (ad 229)), (1, .int a1)] := hl
  show W p l e rm_X1_rankOf s m _ below meth c s.heap [] 0 0 _ _
  unfold wp_X1_rankOf at h
  refine lv_iconst (v := 2) hx hb dX1_rankOf_0 (by decide) ?_
  refine lv_iload_n hx hb dX1_rankOf_1 rfl (lv_at hl 1 rfl) ?_
  refine lv_imul hx hb dX1_rankOf_2 ?_
  refine lv_iconst (v := 1) hx hb dX1_rankOf_3 (by decide) ?_
  refine lv_iadd hx hb dX1_rankOf_4 ?_
  refine lv_istore_n (lv' := [(2, .int ((2 * a1) + 1)), (0, .ref (ad 229)), (1, .int a1)]) hx hb dX1_rankOf_5 rfl hl (by decide) rfl (fun ls hl => ?_)
  refine lv_iload_n hx hb dX1_rankOf_6 rfl (lv_at hl 0 rfl) ?_
  refine lv_iconst (v := 1) hx hb dX1_rankOf_7 (by decide) ?_
  refine lv_icmp_lt (tgt := 31) hx hb dX1_rankOf_8 (by decide) (fun c_1 => ?_) (fun c_1 => ?_)
  · have h := h.1 c_1
    refine lv_iconst (v := 1) hx hb dX1_rankOf_31 (by decide) ?_
    exact x_iret C w h dX1_rankOf_32
  · have h := h.2 c_1
    refine lv_iload_n hx hb dX1_rankOf_11 rfl (lv_at hl 0 rfl) ?_
    refine lv_aload_n hx hb dX1_rankOf_12 rfl (lv_at hl 1 rfl) ?_
    refine x_getD C w (k := 1) (v := .int (μ 229 1)) (by decide) rfl mf_Pad_19 dX1_rankOf_13 ?_
    refine lv_icmp_ge (tgt := 31) hx hb dX1_rankOf_16 (by decide) (fun c_2 => ?_) (fun c_2 => ?_)
    · have h := h.1 c_2
      refine lv_iconst (v := 1) hx hb dX1_rankOf_31 (by decide) ?_
      exact x_iret C w h dX1_rankOf_32
    · have h := h.2 c_2
      refine lv_aload_n hx hb dX1_rankOf_19 rfl (lv_at hl 1 rfl) ?_
      refine x_getD C w (k := 0) (v := .ref (ad 230)) (by decide) rfl mf_Pad_9 dX1_rankOf_20 ?_
      refine lv_iload_n hx hb dX1_rankOf_23 rfl (lv_at hl 0 rfl) ?_
      refine x_cald C w (show vp_in ((2 * a1) + 1) 60 from h.1) dX1_rankOf_24 ?_
      have h := h.2
      refine lv_bipush (v := 48) hx hb dX1_rankOf_25 (by decide) ?_
      refine lv_isub hx hb dX1_rankOf_27 ?_
      refine lv_goto (tgt := 32) hx hb dX1_rankOf_28 (by decide) ?_
      exact x_iret C w h dX1_rankOf_32
end
section
/-! METHODS, by program: conditions and contracts -/
abbrev rm_X4_isSetting : Room := { frames := 0, cells := 0, slots := 0, locals := 0 }
noncomputable def wp_X4_isSetting (a0 : Int32) (μ : Mem) (K : Int32 → Mem → Prop) : Prop :=
    ((a0 < 0 → K 0 μ) ∧ (¬ a0 < 0 → ((2 < a0 → K 0 μ) ∧ (¬ 2 < a0 → K 1 μ))))
set_option maxHeartbeats 4000000 in
set_option maxRecDepth 100000 in
theorem c_X4_isSetting (l : Launch) (g : Gv) (ad : Nat → Nat) (μ : Mem) (sz : Nat) (a0 : Int32) {K : Int32 → Mem → Prop} (h : wp_X4_isSetting a0 μ K) : Met l yX4_isSetting (wX yX4_isSetting cX4_isSetting 1 (some .boolean)) rm_X4_isSetting (Pre g ad μ sz [.int a0]) (PostI g ad sz K) 0 0 (Aw ad sz) := by
  refine Met.ofW (cc := cX4_isSetting) (maxL := 1) (ret := (some .boolean)) (by decide) rfl ?_
  intro p e s m args below meth c s₁ B hml hv
  obtain ⟨rfl, rfl, C, w⟩ := x_start B hml hv
  obtain ⟨hx, hb, hml, -, hts, hown, -, -, hN⟩ := id C
  have hl := lv_entry ([.int a0]) (n := 1) (Nat.le_of_ble_eq_true rfl)
  rw [lg_entry_eq]
  generalize (lg_sl ([.int a0]) ++ List.replicate (1 - (lg_sl ([.int a0])).length) Slot.unset).toArray = ls at hl ⊢
  have hl : lv_has ls 1 [(0, .int a0)] := hl
  show W p l e rm_X4_isSetting s m _ below meth c s.heap [] 0 0 _ _
  unfold wp_X4_isSetting at h
  refine lv_iload_n hx hb dX4_isSetting_0 rfl (lv_at hl 0 rfl) ?_
  refine lv_if_lt (tgt := 13) hx hb dX4_isSetting_1 (by decide) (fun c_1 => ?_) (fun c_1 => ?_)
  · have h := h.1 c_1
    refine lv_iconst (v := 0) hx hb dX4_isSetting_13 (by decide) ?_
    exact x_zret C w (show bz 0 from Or.inl rfl) h dX4_isSetting_14
  · have h := h.2 c_1
    refine lv_iload_n hx hb dX4_isSetting_4 rfl (lv_at hl 0 rfl) ?_
    refine lv_iconst (v := 2) hx hb dX4_isSetting_5 (by decide) ?_
    refine lv_icmp_gt (tgt := 13) hx hb dX4_isSetting_6 (by decide) (fun c_2 => ?_) (fun c_2 => ?_)
    · have h := h.1 c_2
      refine lv_iconst (v := 0) hx hb dX4_isSetting_13 (by decide) ?_
      exact x_zret C w (show bz 0 from Or.inl rfl) h dX4_isSetting_14
    · have h := h.2 c_2
      refine lv_iconst (v := 1) hx hb dX4_isSetting_9 (by decide) ?_
      refine lv_goto (tgt := 14) hx hb dX4_isSetting_10 (by decide) ?_
      exact x_zret C w (show bz 1 from Or.inr rfl) h dX4_isSetting_14
abbrev rm_X4_set : Room := { frames := 3, cells := 0, slots := 0, locals := 73 }
noncomputable def wp_X4_set_B46 (v1 : Int32) (v2 : Int32) (K : Int32 → Mem → Prop) (μ : Mem) : Prop :=
    (wp_X0_keep 1 μ (fun m_7 => (vp_in v1 3 ∧ (vp_in v1 3 ∧ (∀ m_8, m_8 = up2 m_7 2 v1.toNatClampNeg v2 → K (m_7 2 v1.toNatClampNeg) m_8)))))
noncomputable def wp_X4_set (a1 : Int32) (a2 : Int32) (μ : Mem) (K : Int32 → Mem → Prop) : Prop :=
    (wp_X4_isSetting a1 μ (fun r_2 m_1 => ((r_2 = 0 → K (-2) m_1) ∧ (¬ r_2 = 0 → (vp_in a1 3 ∧ ((a2 < (leastV a1.toNatClampNeg) → K (-2) m_1) ∧ (¬ a2 < (leastV a1.toNatClampNeg) → (vp_in a1 3 ∧ ((a2 ≤ (greatV a1.toNatClampNeg) → ((¬ a1 = 0 → wp_X4_set_B46 a1 a2 K m_1) ∧ (a1 = 0 → (wp_X3_greatestCrowd 1 m_1 (fun r_11 m_10 => ((r_11 ≤ a2 → wp_X4_set_B46 a1 a2 K m_10) ∧ (¬ r_11 ≤ a2 → K (-5) m_10))))))) ∧ (¬ a2 ≤ (greatV a1.toNatClampNeg) → K (-2) m_1))))))))))
set_option maxHeartbeats 4000000 in
set_option maxRecDepth 100000 in
theorem t_X4_set_B46 {g : Gv} {ad : Nat → Nat} {l : Launch} {p : Program} {e : Env} {s : State} {m : MethodId} {args : Array Value} {below : List Frame} {meth : Method} {c : Code} (C : Cx g p s m args meth c "StairBows" cX4_set 4 (some .int)) {v1 : Int32} {v2 : Int32}  {K : Int32 → Mem → Prop}    (μ : Mem) (H : Heap) (locs : List Loc) (ls : Array Slot) (h : wp_X4_set_B46 v1 v2 K μ) (w : Wd g ad μ (Aw ad s.heap.size) s H locs) (hl : lv_has ls 4 [(0, .ref (ad 0)), (1, .int v1), (2, .int v2)]) : W p l e rm_X4_set s m args below meth c H locs 0 0 (MQ below (PostI g ad s.heap.size K) args s 0 0 (Aw ad s.heap.size)) (F0 m 46 ls []) := by
  obtain ⟨hx, hb, hml, -, hts, hown, -, -, hN⟩ := id C
  unfold wp_X4_set_B46 at h
  refine lv_aload_n hx hb dX4_set_46 rfl (lv_at hl 0 rfl) ?_
  refine x_getX C w (k := 2) (v := .ref (ad 57)) (by decide) rfl mf_StairBows_22 dX4_set_47 ?_
  refine lv_aload_n hx hb dX4_set_50 rfl (lv_at hl 0 rfl) ?_
  refine x_getX C w (k := 0) (v := .ref (ad 1)) (by decide) rfl mf_StairBows_10 dX4_set_51 ?_
  refine x_callv C w (x_runV (i := 57) (As := [.ref (ad 1)]) (rest := []) C w (rfl : kd 57 = 1) (by decide) (ci := 0) rfl rfl rfl me_X0_keep ml_StairBows_56 (c_X0_keep l g ad μ _ 1 (rfl : kd 1 = 9) h) ⟨rfl, rfl⟩ ⟨Nat.le_of_ble_eq_true rfl, Nat.le_of_ble_eq_true rfl⟩ rfl hl.1 rfl (Nat.le_of_ble_eq_true rfl) dX4_set_54 ⟨Nat.le_of_ble_eq_true rfl, Nat.le_of_ble_eq_true rfl⟩) (fun m_7 h H locs w => ?_)
  refine lv_aload_n hx hb dX4_set_57 rfl (lv_at hl 0 rfl) ?_
  refine x_getX C w (k := 0) (v := .ref (ad 1)) (by decide) rfl mf_StairBows_10 dX4_set_58 ?_
  refine x_getS C w (i := 1) (k := 0) (v := .ref (ad 2)) (rfl : kd 1 = 9) (by decide) rfl mf_StairBows_60 dX4_set_61 ?_
  refine lv_iload_n hx hb dX4_set_64 rfl (lv_at hl 1 rfl) ?_
  refine x_iald C w (i := 2) (K := 10) (j := v1) (n := 3) (jn := v1.toNatClampNeg) rfl (kS1 (rfl : kd 1 = 9)) (by decide) rfl (show vp_in v1 3 from h.1) dX4_set_65 ?_
  have h := h.2
  refine lv_istore_n (lv' := [(3, .int (m_7 2 v1.toNatClampNeg)), (0, .ref (ad 0)), (1, .int v1), (2, .int v2)]) hx hb dX4_set_66 rfl hl (by decide) rfl (fun ls hl => ?_)
  refine lv_aload_n hx hb dX4_set_67 rfl (lv_at hl 1 rfl) ?_
  refine x_getX C w (k := 0) (v := .ref (ad 1)) (by decide) rfl mf_StairBows_10 dX4_set_68 ?_
  refine x_getS C w (i := 1) (k := 0) (v := .ref (ad 2)) (rfl : kd 1 = 9) (by decide) rfl mf_StairBows_60 dX4_set_71 ?_
  refine lv_iload_n hx hb dX4_set_74 rfl (lv_at hl 2 rfl) ?_
  refine lv_iload_n hx hb dX4_set_75 rfl (lv_at hl 3 rfl) ?_
  refine x_iast C w (i := 2) (K := 10) (n := 3) (jn := v1.toNatClampNeg) rfl (kS1 (rfl : kd 1 = 9)) (by decide) (fun _ => rfl) (show vp_in v1 3 from h.1) dX4_set_76 (fun m_8 e_9 H locs w => ?_)
  have h := h.2 m_8 e_9
  refine lv_iload_n hx hb dX4_set_77 rfl (lv_at hl 0 rfl) ?_
  exact x_iret C w h dX4_set_78
set_option maxHeartbeats 4000000 in
set_option maxRecDepth 100000 in
theorem c_X4_set (l : Launch) (g : Gv) (ad : Nat → Nat) (μ : Mem) (sz : Nat) (a1 : Int32) (a2 : Int32) {K : Int32 → Mem → Prop} (h : wp_X4_set a1 a2 μ K) : Met l yX4_set (wX yX4_set cX4_set 4 (some .int)) rm_X4_set (Pre g ad μ sz [.ref (ad 0), .int a1, .int a2]) (PostI g ad sz K) 0 0 (Aw ad sz) := by
  refine Met.ofW (cc := cX4_set) (maxL := 4) (ret := (some .int)) (by decide) rfl ?_
  intro p e s m args below meth c s₁ B hml hv
  obtain ⟨rfl, rfl, C, w⟩ := x_start B hml hv
  obtain ⟨hx, hb, hml, -, hts, hown, -, -, hN⟩ := id C
  have hl := lv_entry ([.ref (ad 0), .int a1, .int a2]) (n := 4) (Nat.le_of_ble_eq_true rfl)
  rw [lg_entry_eq]
  generalize (lg_sl ([.ref (ad 0), .int a1, .int a2]) ++ List.replicate (4 - (lg_sl ([.ref (ad 0), .int a1, .int a2])).length) Slot.unset).toArray = ls at hl ⊢
  have hl : lv_has ls 4 [(0, .ref (ad 0)), (1, .int a1), (2, .int a2)] := hl
  show W p l e rm_X4_set s m _ below meth c s.heap [] 0 0 _ _
  unfold wp_X4_set at h
  refine lv_iload_n hx hb dX4_set_0 rfl (lv_at hl 1 rfl) ?_
  refine x_calli C w (x_runS (As := [.int a1]) (rest := []) C w me_X4_isSetting ml_StairBows_41 (c_X4_isSetting l g ad μ _ a1 h) ⟨rfl, rfl⟩ ⟨Nat.le_of_ble_eq_true rfl, Nat.le_of_ble_eq_true rfl⟩ rfl hl.1 rfl (Nat.le_of_ble_eq_true rfl) dX4_set_1 ⟨Nat.le_of_ble_eq_true rfl, Nat.le_of_ble_eq_true rfl⟩) (fun r_2 m_1 h H locs w => ?_)
  refine lv_if_eq (tgt := 25) hx hb dX4_set_4 (by decide) (fun c_3 => ?_) (fun c_3 => ?_)
  · have h := h.1 c_3
    refine lv_bipush (v := -2) hx hb dX4_set_25 (by decide) ?_
    exact x_iret C w h dX4_set_27
  · have h := h.2 c_3
    refine lv_iload_n hx hb dX4_set_7 rfl (lv_at hl 2 rfl) ?_
    obtain ⟨tF, tL, tG, ⟨hZF, hTF⟩, ⟨hZL, hTL⟩, ⟨hZG, hTG⟩⟩ := w.2.2.2.2
    refine va_gets hx hb hZL w.2.2.1 hown (hts _ mf_StairBows_45) (fun _ h => h) dX4_set_8 ?_
    refine lv_iload_n hx hb dX4_set_11 rfl (lv_at hl 1 rfl) ?_
    refine va_ti (v := .int (leastV a1.toNatClampNeg)) hx hb hTL w.2.2.1 h.1 rfl dX4_set_12 ?_
    have h := h.2
    refine lv_icmp_lt (tgt := 25) hx hb dX4_set_13 (by decide) (fun c_4 => ?_) (fun c_4 => ?_)
    · have h := h.1 c_4
      refine lv_bipush (v := -2) hx hb dX4_set_25 (by decide) ?_
      exact x_iret C w h dX4_set_27
    · have h := h.2 c_4
      refine lv_iload_n hx hb dX4_set_16 rfl (lv_at hl 2 rfl) ?_
      obtain ⟨tF, tL, tG, ⟨hZF, hTF⟩, ⟨hZL, hTL⟩, ⟨hZG, hTG⟩⟩ := w.2.2.2.2
      refine va_gets hx hb hZG w.2.2.1 hown (hts _ mf_StairBows_49) (fun _ h => h) dX4_set_17 ?_
      refine lv_iload_n hx hb dX4_set_20 rfl (lv_at hl 1 rfl) ?_
      refine va_ti (v := .int (greatV a1.toNatClampNeg)) hx hb hTG w.2.2.1 h.1 rfl dX4_set_21 ?_
      have h := h.2
      refine lv_icmp_le (tgt := 28) hx hb dX4_set_22 (by decide) (fun c_5 => ?_) (fun c_5 => ?_)
      · have h := h.1 c_5
        refine lv_iload_n hx hb dX4_set_28 rfl (lv_at hl 1 rfl) ?_
        refine lv_if_ne (tgt := 46) hx hb dX4_set_29 (by decide) (fun c_6 => ?_) (fun c_6 => ?_)
        · have h := h.1 c_6
          exact t_X4_set_B46 C m_1 _ _ _ h w (lv_sub hl [0, 1, 2] rfl)
        · have h := h.2 c_6
          refine lv_aload_n hx hb dX4_set_32 rfl (lv_at hl 0 rfl) ?_
          refine x_getX C w (k := 0) (v := .ref (ad 1)) (by decide) rfl mf_StairBows_10 dX4_set_33 ?_
          refine x_calli C w (x_runV (i := 1) (As := []) (rest := []) C w (rfl : kd 1 = 9) (by decide) (ci := 3) rfl rfl rfl me_X3_greatestCrowd ml_StairBows_52 (c_X3_greatestCrowd l g ad m_1 _ 1 (rfl : kd 1 = 9) h) ⟨rfl, rfl⟩ ⟨Nat.le_of_ble_eq_true rfl, Nat.le_of_ble_eq_true rfl⟩ rfl hl.1 rfl (Nat.le_of_ble_eq_true rfl) dX4_set_36 ⟨Nat.le_of_ble_eq_true rfl, Nat.le_of_ble_eq_true rfl⟩) (fun r_11 m_10 h H locs w => ?_)
          refine lv_iload_n hx hb dX4_set_39 rfl (lv_at hl 2 rfl) ?_
          refine lv_icmp_le (tgt := 46) hx hb dX4_set_40 (by decide) (fun c_12 => ?_) (fun c_12 => ?_)
          · have h := h.1 c_12
            exact t_X4_set_B46 C m_10 _ _ _ h w (lv_sub hl [0, 1, 2] rfl)
          · have h := h.2 c_12
            refine lv_bipush (v := -5) hx hb dX4_set_43 (by decide) ?_
            exact x_iret C w h dX4_set_45
      · have h := h.2 c_5
        refine lv_bipush (v := -2) hx hb dX4_set_25 (by decide) ?_
        exact x_iret C w h dX4_set_27
abbrev rm_X4_landing : Room := { frames := 3, cells := 0, slots := 0, locals := 73 }
noncomputable def wp_X4_landing (a1 : Int32) (a2 : Int32) (μ : Mem) (K : Int32 → Mem → Prop) : Prop :=
    (wp_X4_isStep a1 μ (fun r_2 m_1 => ((¬ r_2 = 0 → (wp_X3_isLanding 1 a1 m_1 (fun r_5 m_4 => ((r_5 = a2 → K (-5) m_4) ∧ (¬ r_5 = a2 → (wp_X3_crowdOn 1 a1 m_4 (fun r_8 m_7 => ((r_8 ≤ 1 → (wp_X0_keep 1 m_7 (fun m_10 => (∀ m_11, m_11 = up2 m_10 1 3 ((m_10 1 3) ^^^ (1 <<< (a1 &&& 31))) → (wp_J6_bitCount_0f7a4 (m_11 1 3) m_11 (fun r_14 m_13 => K r_14 m_13)))))) ∧ (¬ r_8 ≤ 1 → K (-5) m_7))))))))) ∧ (r_2 = 0 → K (-1) m_1))))
set_option maxHeartbeats 4000000 in
set_option maxRecDepth 100000 in
theorem c_X4_landing (l : Launch) (g : Gv) (ad : Nat → Nat) (μ : Mem) (sz : Nat) (a1 : Int32) (a2 : Int32) {K : Int32 → Mem → Prop} (h : wp_X4_landing a1 a2 μ K) : Met l yX4_landing (wX yX4_landing cX4_landing 3 (some .int)) rm_X4_landing (Pre g ad μ sz [.ref (ad 0), .int a1, .int a2]) (PostI g ad sz K) 0 0 (Aw ad sz) := by
  refine Met.ofW (cc := cX4_landing) (maxL := 3) (ret := (some .int)) (by decide) rfl ?_
  intro p e s m args below meth c s₁ B hml hv
  obtain ⟨rfl, rfl, C, w⟩ := x_start B hml hv
  obtain ⟨hx, hb, hml, -, hts, hown, -, -, hN⟩ := id C
  have hl := lv_entry ([.ref (ad 0), .int a1, .int a2]) (n := 3) (Nat.le_of_ble_eq_true rfl)
  rw [lg_entry_eq]
  generalize (lg_sl ([.ref (ad 0), .int a1, .int a2]) ++ List.replicate (3 - (lg_sl ([.ref (ad 0), .int a1, .int a2])).length) Slot.unset).toArray = ls at hl ⊢
  have hl : lv_has ls 3 [(0, .ref (ad 0)), (1, .int a1), (2, .int a2)] := hl
  show W p l e rm_X4_landing s m _ below meth c s.heap [] 0 0 _ _
  unfold wp_X4_landing at h
  refine lv_iload_n hx hb dX4_landing_0 rfl (lv_at hl 1 rfl) ?_
  refine x_calli C w (x_runS (As := [.int a1]) (rest := []) C w me_X4_isStep ml_StairBows_63 (c_X4_isStep l g ad μ _ a1 h) ⟨rfl, rfl⟩ ⟨Nat.le_of_ble_eq_true rfl, Nat.le_of_ble_eq_true rfl⟩ rfl hl.1 rfl (Nat.le_of_ble_eq_true rfl) dX4_landing_1 ⟨Nat.le_of_ble_eq_true rfl, Nat.le_of_ble_eq_true rfl⟩) (fun r_2 m_1 h H locs w => ?_)
  refine lv_if_ne (tgt := 9) hx hb dX4_landing_4 (by decide) (fun c_3 => ?_) (fun c_3 => ?_)
  · have h := h.1 c_3
    refine lv_aload_n hx hb dX4_landing_9 rfl (lv_at hl 0 rfl) ?_
    refine x_getX C w (k := 0) (v := .ref (ad 1)) (by decide) rfl mf_StairBows_10 dX4_landing_10 ?_
    refine lv_iload_n hx hb dX4_landing_13 rfl (lv_at hl 1 rfl) ?_
    refine x_calli C w (x_runV (i := 1) (As := [.int a1]) (rest := []) C w (rfl : kd 1 = 9) (by decide) (ci := 3) rfl rfl rfl me_X3_isLanding ml_StairBows_66 (c_X3_isLanding l g ad m_1 _ 1 (rfl : kd 1 = 9) a1 h) ⟨rfl, rfl⟩ ⟨Nat.le_of_ble_eq_true rfl, Nat.le_of_ble_eq_true rfl⟩ rfl hl.1 rfl (Nat.le_of_ble_eq_true rfl) dX4_landing_14 ⟨Nat.le_of_ble_eq_true rfl, Nat.le_of_ble_eq_true rfl⟩) (fun r_5 m_4 h H locs w => ?_)
    refine lv_iload_n hx hb dX4_landing_17 rfl (lv_at hl 2 rfl) ?_
    refine lv_icmp_eq (tgt := 33) hx hb dX4_landing_18 (by decide) (fun c_6 => ?_) (fun c_6 => ?_)
    · have h := h.1 c_6
      refine lv_bipush (v := -5) hx hb dX4_landing_33 (by decide) ?_
      exact x_iret C w h dX4_landing_35
    · have h := h.2 c_6
      refine lv_aload_n hx hb dX4_landing_21 rfl (lv_at hl 0 rfl) ?_
      refine x_getX C w (k := 0) (v := .ref (ad 1)) (by decide) rfl mf_StairBows_10 dX4_landing_22 ?_
      refine lv_iload_n hx hb dX4_landing_25 rfl (lv_at hl 1 rfl) ?_
      refine x_calli C w (x_runV (i := 1) (As := [.int a1]) (rest := []) C w (rfl : kd 1 = 9) (by decide) (ci := 3) rfl rfl rfl me_X3_crowdOn ml_StairBows_69 (c_X3_crowdOn l g ad m_4 _ 1 (rfl : kd 1 = 9) a1 h) ⟨rfl, rfl⟩ ⟨Nat.le_of_ble_eq_true rfl, Nat.le_of_ble_eq_true rfl⟩ rfl hl.1 rfl (Nat.le_of_ble_eq_true rfl) dX4_landing_26 ⟨Nat.le_of_ble_eq_true rfl, Nat.le_of_ble_eq_true rfl⟩) (fun r_8 m_7 h H locs w => ?_)
      refine lv_iconst (v := 1) hx hb dX4_landing_29 (by decide) ?_
      refine lv_icmp_le (tgt := 36) hx hb dX4_landing_30 (by decide) (fun c_9 => ?_) (fun c_9 => ?_)
      · have h := h.1 c_9
        refine lv_aload_n hx hb dX4_landing_36 rfl (lv_at hl 0 rfl) ?_
        refine x_getX C w (k := 2) (v := .ref (ad 57)) (by decide) rfl mf_StairBows_22 dX4_landing_37 ?_
        refine lv_aload_n hx hb dX4_landing_40 rfl (lv_at hl 0 rfl) ?_
        refine x_getX C w (k := 0) (v := .ref (ad 1)) (by decide) rfl mf_StairBows_10 dX4_landing_41 ?_
        refine x_callv C w (x_runV (i := 57) (As := [.ref (ad 1)]) (rest := []) C w (rfl : kd 57 = 1) (by decide) (ci := 0) rfl rfl rfl me_X0_keep ml_StairBows_56 (c_X0_keep l g ad m_7 _ 1 (rfl : kd 1 = 9) h) ⟨rfl, rfl⟩ ⟨Nat.le_of_ble_eq_true rfl, Nat.le_of_ble_eq_true rfl⟩ rfl hl.1 rfl (Nat.le_of_ble_eq_true rfl) dX4_landing_44 ⟨Nat.le_of_ble_eq_true rfl, Nat.le_of_ble_eq_true rfl⟩) (fun m_10 h H locs w => ?_)
        refine lv_aload_n hx hb dX4_landing_47 rfl (lv_at hl 0 rfl) ?_
        refine x_getX C w (k := 0) (v := .ref (ad 1)) (by decide) rfl mf_StairBows_10 dX4_landing_48 ?_
        refine lv_dup hx hb dX4_landing_51 rfl ?_
        refine x_getS C w (i := 1) (k := 3) (v := .int (m_10 1 3)) (rfl : kd 1 = 9) (by decide) rfl mf_StairBows_73 dX4_landing_52 ?_
        refine lv_iconst (v := 1) hx hb dX4_landing_55 (by decide) ?_
        refine lv_iload_n hx hb dX4_landing_56 rfl (lv_at hl 1 rfl) ?_
        refine lv_ishl hx hb dX4_landing_57 ?_
        refine lv_ixor hx hb dX4_landing_58 ?_
        refine x_putS C w (i := 1) (k := 3) (rfl : kd 1 = 9) (by decide) rfl mf_StairBows_73 rfl rfl dX4_landing_59 (fun m_11 e_12 H locs w => ?_)
        have h := h m_11 e_12
        refine lv_aload_n hx hb dX4_landing_62 rfl (lv_at hl 0 rfl) ?_
        refine x_getX C w (k := 0) (v := .ref (ad 1)) (by decide) rfl mf_StairBows_10 dX4_landing_63 ?_
        refine x_getS C w (i := 1) (k := 3) (v := .int (m_11 1 3)) (rfl : kd 1 = 9) (by decide) rfl mf_StairBows_73 dX4_landing_66 ?_
        refine x_calli C w (x_runS (As := [.int (m_11 1 3)]) (rest := []) C w me_J6_bitCount_0f7a4 ml_StairBows_77 (c_J6_bitCount_0f7a4 l g ad m_11 _ (m_11 1 3) h) ⟨rfl, rfl⟩ ⟨Nat.le_of_ble_eq_true rfl, Nat.le_of_ble_eq_true rfl⟩ rfl hl.1 rfl (Nat.le_of_ble_eq_true rfl) dX4_landing_69 ⟨Nat.le_of_ble_eq_true rfl, Nat.le_of_ble_eq_true rfl⟩) (fun r_14 m_13 h H locs w => ?_)
        exact x_iret C w h dX4_landing_72
      · have h := h.2 c_9
        refine lv_bipush (v := -5) hx hb dX4_landing_33 (by decide) ?_
        exact x_iret C w h dX4_landing_35
  · have h := h.2 c_3
    refine lv_iconst (v := -1) hx hb dX4_landing_7 (by decide) ?_
    exact x_iret C w h dX4_landing_8
abbrev rm_X4_come : Room := { frames := 3, cells := 0, slots := 0, locals := 73 }
noncomputable def wp_X4_come (a1 : Int32) (a2 : Int32) (μ : Mem) (K : Int32 → Mem → Prop) : Prop :=
    ((a1 < 1 → K (-2) μ) ∧ (¬ a1 < 1 → ((a1 ≤ 9 → (((μ 1 4) < 24 → (wp_X0_keep 1 μ (fun m_4 => (wp_X3_admit 1 a1 a2 m_4 (fun m_5 => K ((m_5 1 4) - 1) m_5))))) ∧ (¬ (μ 1 4) < 24 → K (-4) μ))) ∧ (¬ a1 ≤ 9 → K (-2) μ))))
set_option maxHeartbeats 4000000 in
set_option maxRecDepth 100000 in
theorem c_X4_come (l : Launch) (g : Gv) (ad : Nat → Nat) (μ : Mem) (sz : Nat) (a1 : Int32) (a2 : Int32) {K : Int32 → Mem → Prop} (h : wp_X4_come a1 a2 μ K) : Met l yX4_come (wX yX4_come cX4_come 3 (some .int)) rm_X4_come (Pre g ad μ sz [.ref (ad 0), .int a1, .int a2]) (PostI g ad sz K) 0 0 (Aw ad sz) := by
  refine Met.ofW (cc := cX4_come) (maxL := 3) (ret := (some .int)) (by decide) rfl ?_
  intro p e s m args below meth c s₁ B hml hv
  obtain ⟨rfl, rfl, C, w⟩ := x_start B hml hv
  obtain ⟨hx, hb, hml, -, hts, hown, -, -, hN⟩ := id C
  have hl := lv_entry ([.ref (ad 0), .int a1, .int a2]) (n := 3) (Nat.le_of_ble_eq_true rfl)
  rw [lg_entry_eq]
  generalize (lg_sl ([.ref (ad 0), .int a1, .int a2]) ++ List.replicate (3 - (lg_sl ([.ref (ad 0), .int a1, .int a2])).length) Slot.unset).toArray = ls at hl ⊢
  have hl : lv_has ls 3 [(0, .ref (ad 0)), (1, .int a1), (2, .int a2)] := hl
  show W p l e rm_X4_come s m _ below meth c s.heap [] 0 0 _ _
  unfold wp_X4_come at h
  refine lv_iload_n hx hb dX4_come_0 rfl (lv_at hl 1 rfl) ?_
  refine lv_iconst (v := 1) hx hb dX4_come_1 (by decide) ?_
  refine lv_icmp_lt (tgt := 11) hx hb dX4_come_2 (by decide) (fun c_1 => ?_) (fun c_1 => ?_)
  · have h := h.1 c_1
    refine lv_bipush (v := -2) hx hb dX4_come_11 (by decide) ?_
    exact x_iret C w h dX4_come_13
  · have h := h.2 c_1
    refine lv_iload_n hx hb dX4_come_5 rfl (lv_at hl 1 rfl) ?_
    refine lv_bipush (v := 9) hx hb dX4_come_6 (by decide) ?_
    refine lv_icmp_le (tgt := 14) hx hb dX4_come_8 (by decide) (fun c_2 => ?_) (fun c_2 => ?_)
    · have h := h.1 c_2
      refine lv_aload_n hx hb dX4_come_14 rfl (lv_at hl 0 rfl) ?_
      refine x_getX C w (k := 0) (v := .ref (ad 1)) (by decide) rfl mf_StairBows_10 dX4_come_15 ?_
      refine x_getS C w (i := 1) (k := 4) (v := .int (μ 1 4)) (rfl : kd 1 = 9) (by decide) rfl mf_StairBows_82 dX4_come_18 ?_
      refine lv_bipush (v := 24) hx hb dX4_come_21 (by decide) ?_
      refine lv_icmp_lt (tgt := 29) hx hb dX4_come_23 (by decide) (fun c_3 => ?_) (fun c_3 => ?_)
      · have h := h.1 c_3
        refine lv_aload_n hx hb dX4_come_29 rfl (lv_at hl 0 rfl) ?_
        refine x_getX C w (k := 2) (v := .ref (ad 57)) (by decide) rfl mf_StairBows_22 dX4_come_30 ?_
        refine lv_aload_n hx hb dX4_come_33 rfl (lv_at hl 0 rfl) ?_
        refine x_getX C w (k := 0) (v := .ref (ad 1)) (by decide) rfl mf_StairBows_10 dX4_come_34 ?_
        refine x_callv C w (x_runV (i := 57) (As := [.ref (ad 1)]) (rest := []) C w (rfl : kd 57 = 1) (by decide) (ci := 0) rfl rfl rfl me_X0_keep ml_StairBows_56 (c_X0_keep l g ad μ _ 1 (rfl : kd 1 = 9) h) ⟨rfl, rfl⟩ ⟨Nat.le_of_ble_eq_true rfl, Nat.le_of_ble_eq_true rfl⟩ rfl hl.1 rfl (Nat.le_of_ble_eq_true rfl) dX4_come_37 ⟨Nat.le_of_ble_eq_true rfl, Nat.le_of_ble_eq_true rfl⟩) (fun m_4 h H locs w => ?_)
        refine lv_aload_n hx hb dX4_come_40 rfl (lv_at hl 0 rfl) ?_
        refine x_getX C w (k := 0) (v := .ref (ad 1)) (by decide) rfl mf_StairBows_10 dX4_come_41 ?_
        refine lv_iload_n hx hb dX4_come_44 rfl (lv_at hl 1 rfl) ?_
        refine lv_iload_n hx hb dX4_come_45 rfl (lv_at hl 2 rfl) ?_
        refine x_callv C w (x_runV (i := 1) (As := [.int a1, .int a2]) (rest := []) C w (rfl : kd 1 = 9) (by decide) (ci := 3) rfl rfl rfl me_X3_admit ml_StairBows_85 (c_X3_admit l g ad m_4 _ 1 (rfl : kd 1 = 9) a1 a2 h) ⟨rfl, rfl⟩ ⟨Nat.le_of_ble_eq_true rfl, Nat.le_of_ble_eq_true rfl⟩ rfl hl.1 rfl (Nat.le_of_ble_eq_true rfl) dX4_come_46 ⟨Nat.le_of_ble_eq_true rfl, Nat.le_of_ble_eq_true rfl⟩) (fun m_5 h H locs w => ?_)
        refine lv_aload_n hx hb dX4_come_49 rfl (lv_at hl 0 rfl) ?_
        refine x_getX C w (k := 0) (v := .ref (ad 1)) (by decide) rfl mf_StairBows_10 dX4_come_50 ?_
        refine x_getS C w (i := 1) (k := 4) (v := .int (m_5 1 4)) (rfl : kd 1 = 9) (by decide) rfl mf_StairBows_82 dX4_come_53 ?_
        refine lv_iconst (v := 1) hx hb dX4_come_56 (by decide) ?_
        refine lv_isub hx hb dX4_come_57 ?_
        exact x_iret C w h dX4_come_58
      · have h := h.2 c_3
        refine lv_bipush (v := -4) hx hb dX4_come_26 (by decide) ?_
        exact x_iret C w h dX4_come_28
    · have h := h.2 c_2
      refine lv_bipush (v := -2) hx hb dX4_come_11 (by decide) ?_
      exact x_iret C w h dX4_come_13
abbrev rm_X4_read : Room := { frames := 3, cells := 0, slots := 0, locals := 73 }
noncomputable def wp_X4_read_L55 (v1 : Int32) (K : Int32 → Mem → Prop) (n : Nat) : Int32 → Mem → Prop :=
  Nat.rec (motive := fun _ => Int32 → Mem → Prop) (fun _ _ => False) (fun _ ih v2 μ =>
    ((v1 ≤ v2 → (∀ m_7, m_7 = up2 μ 229 1 0 → K (m_7 1 4) m_7)) ∧ (¬ v1 ≤ v2 → (wp_X1_rankOf v2 μ (fun r_10 m_9 => (wp_X1_isUp v2 m_9 (fun r_12 m_11 => (wp_X3_admit 1 r_10 r_12 m_11 (fun m_13 => ih (v2 + 1) m_13))))))))) n
theorem wp_X4_read_L55_s (v1 : Int32) (K : Int32 → Mem → Prop) (n : Nat) (v2 : Int32) (μ : Mem) : wp_X4_read_L55 v1 K (n + 1) v2 μ = (
    let ih := wp_X4_read_L55 v1 K n
    ((v1 ≤ v2 → (∀ m_7, m_7 = up2 μ 229 1 0 → K (m_7 1 4) m_7)) ∧ (¬ v1 ≤ v2 → (wp_X1_rankOf v2 μ (fun r_10 m_9 => (wp_X1_isUp v2 m_9 (fun r_12 m_11 => (wp_X3_admit 1 r_10 r_12 m_11 (fun m_13 => ih (v2 + 1) m_13))))))))) := rfl
noncomputable def wp_X4_read  (μ : Mem) (K : Int32 → Mem → Prop) : Prop :=
    (wp_X1_firstFault μ (fun r_2 m_1 => ((r_2 = (-6) → ((((m_1 1 4) + ((m_1 229 1) / 2)) ≤ 24 → (wp_X0_keep 1 m_1 (fun m_5 => (∃ n, wp_X4_read_L55 ((m_1 229 1) / 2) K n 0 m_5)))) ∧ (¬ ((m_1 1 4) + ((m_1 229 1) / 2)) ≤ 24 → K (-4) m_1))) ∧ (¬ r_2 = (-6) → K (-3) m_1))))
set_option maxHeartbeats 4000000 in
set_option maxRecDepth 100000 in
theorem t_X4_read_L55 {g : Gv} {ad : Nat → Nat} {l : Launch} {p : Program} {e : Env} {s : State} {m : MethodId} {args : Array Value} {below : List Frame} {meth : Method} {c : Code} (C : Cx g p s m args meth c "StairBows" cX4_read 3 (some .int)) {v1 : Int32}  {K : Int32 → Mem → Prop}    : ∀ (n : Nat) (v2 : Int32) (μ : Mem) (H : Heap) (locs : List Loc) (ls : Array Slot), wp_X4_read_L55 v1 K n v2 μ → Wd g ad μ (Aw ad s.heap.size) s H locs → lv_has ls 3 [(0, .ref (ad 0)), (1, .int v1), (2, .int v2)] → W p l e rm_X4_read s m args below meth c H locs 0 0 (MQ below (PostI g ad s.heap.size K) args s 0 0 (Aw ad s.heap.size)) (F0 m 55 ls []) := by
  obtain ⟨hx, hb, hml, -, hts, hown, -, -, hN⟩ := id C
  intro n
  induction n with
  | zero =>
    intro v2 μ H locs ls h w hl
    exact (show False from h).elim
  | succ n ih =>
    intro v2 μ H locs ls h w hl
    rw [wp_X4_read_L55_s] at h
    dsimp only at h
    refine lv_iload_n hx hb dX4_read_55 rfl (lv_at hl 2 rfl) ?_
    refine lv_iload_n hx hb dX4_read_56 rfl (lv_at hl 1 rfl) ?_
    refine lv_icmp_ge (tgt := 89) hx hb dX4_read_57 (by decide) (fun c_6 => ?_) (fun c_6 => ?_)
    · have h := h.1 c_6
      refine lv_aload_n hx hb dX4_read_89 rfl (lv_at hl 0 rfl) ?_
      refine x_getX C w (k := 5) (v := .ref (ad 229)) (by decide) rfl mf_StairBows_37 dX4_read_90 ?_
      refine lv_iconst (v := 0) hx hb dX4_read_93 (by decide) ?_
      refine x_putD C w mf_StairBows_92 dX4_read_94 (fun m_7 e_8 H locs w => ?_)
      have h := h m_7 e_8
      refine lv_aload_n hx hb dX4_read_97 rfl (lv_at hl 0 rfl) ?_
      refine x_getX C w (k := 0) (v := .ref (ad 1)) (by decide) rfl mf_StairBows_10 dX4_read_98 ?_
      refine x_getS C w (i := 1) (k := 4) (v := .int (m_7 1 4)) (rfl : kd 1 = 9) (by decide) rfl mf_StairBows_82 dX4_read_101 ?_
      exact x_iret C w h dX4_read_104
    · have h := h.2 c_6
      refine lv_aload_n hx hb dX4_read_60 rfl (lv_at hl 0 rfl) ?_
      refine x_getX C w (k := 0) (v := .ref (ad 1)) (by decide) rfl mf_StairBows_10 dX4_read_61 ?_
      refine lv_aload_n hx hb dX4_read_64 rfl (lv_at hl 0 rfl) ?_
      refine x_getX C w (k := 5) (v := .ref (ad 229)) (by decide) rfl mf_StairBows_37 dX4_read_65 ?_
      refine lv_iload_n hx hb dX4_read_68 rfl (lv_at hl 2 rfl) ?_
      refine x_calli C w (x_runV (i := 229) (As := [.int v2]) (rest := [.ref (ad 1)]) C w (rfl : kd 229 = 5) (by decide) (ci := 1) rfl rfl rfl me_X1_rankOf ml_StairBows_95 (c_X1_rankOf l g ad μ _ v2 h) ⟨rfl, rfl⟩ ⟨Nat.le_of_ble_eq_true rfl, Nat.le_of_ble_eq_true rfl⟩ rfl hl.1 rfl (Nat.le_of_ble_eq_true rfl) dX4_read_69 ⟨Nat.le_of_ble_eq_true rfl, Nat.le_of_ble_eq_true rfl⟩) (fun r_10 m_9 h H locs w => ?_)
      refine lv_aload_n hx hb dX4_read_72 rfl (lv_at hl 0 rfl) ?_
      refine x_getX C w (k := 5) (v := .ref (ad 229)) (by decide) rfl mf_StairBows_37 dX4_read_73 ?_
      refine lv_iload_n hx hb dX4_read_76 rfl (lv_at hl 2 rfl) ?_
      refine x_calli C w (x_runV (i := 229) (As := [.int v2]) (rest := [.int r_10, .ref (ad 1)]) C w (rfl : kd 229 = 5) (by decide) (ci := 1) rfl rfl rfl me_X1_isUp ml_StairBows_98 (c_X1_isUp l g ad m_9 _ v2 h) ⟨rfl, rfl⟩ ⟨Nat.le_of_ble_eq_true rfl, Nat.le_of_ble_eq_true rfl⟩ rfl hl.1 rfl (Nat.le_of_ble_eq_true rfl) dX4_read_77 ⟨Nat.le_of_ble_eq_true rfl, Nat.le_of_ble_eq_true rfl⟩) (fun r_12 m_11 h H locs w => ?_)
      refine x_callv C w (x_runV (i := 1) (As := [.int r_10, .int r_12]) (rest := []) C w (rfl : kd 1 = 9) (by decide) (ci := 3) rfl rfl rfl me_X3_admit ml_StairBows_85 (c_X3_admit l g ad m_11 _ 1 (rfl : kd 1 = 9) r_10 r_12 h) ⟨rfl, rfl⟩ ⟨Nat.le_of_ble_eq_true rfl, Nat.le_of_ble_eq_true rfl⟩ rfl hl.1 rfl (Nat.le_of_ble_eq_true rfl) dX4_read_80 ⟨Nat.le_of_ble_eq_true rfl, Nat.le_of_ble_eq_true rfl⟩) (fun m_13 h H locs w => ?_)
      refine lv_iinc (v := (v2 + 1)) (lv' := [(2, .int (v2 + 1)), (0, .ref (ad 0)), (1, .int v1)]) hx hb dX4_read_83 hl (k := 2) rfl rfl (by decide) rfl (fun ls hl => ?_)
      refine lv_goto (tgt := 55) hx hb dX4_read_86 (by decide) ?_
      exact ih (v2 + 1) m_13 _ _ _ h w (lv_sub hl [1, 2, 0] rfl)
set_option maxHeartbeats 4000000 in
set_option maxRecDepth 100000 in
theorem c_X4_read (l : Launch) (g : Gv) (ad : Nat → Nat) (μ : Mem) (sz : Nat)  {K : Int32 → Mem → Prop} (h : wp_X4_read μ K) : Met l yX4_read (wX yX4_read cX4_read 3 (some .int)) rm_X4_read (Pre g ad μ sz [.ref (ad 0)]) (PostI g ad sz K) 0 0 (Aw ad sz) := by
  refine Met.ofW (cc := cX4_read) (maxL := 3) (ret := (some .int)) (by decide) rfl ?_
  intro p e s m args below meth c s₁ B hml hv
  obtain ⟨rfl, rfl, C, w⟩ := x_start B hml hv
  obtain ⟨hx, hb, hml, -, hts, hown, -, -, hN⟩ := id C
  have hl := lv_entry ([.ref (ad 0)]) (n := 3) (Nat.le_of_ble_eq_true rfl)
  rw [lg_entry_eq]
  generalize (lg_sl ([.ref (ad 0)]) ++ List.replicate (3 - (lg_sl ([.ref (ad 0)])).length) Slot.unset).toArray = ls at hl ⊢
  have hl : lv_has ls 3 [(0, .ref (ad 0))] := hl
  show W p l e rm_X4_read s m _ below meth c s.heap [] 0 0 _ _
  unfold wp_X4_read at h
  refine lv_aload_n hx hb dX4_read_0 rfl (lv_at hl 0 rfl) ?_
  refine x_getX C w (k := 5) (v := .ref (ad 229)) (by decide) rfl mf_StairBows_37 dX4_read_1 ?_
  refine x_calli C w (x_runV (i := 229) (As := []) (rest := []) C w (rfl : kd 229 = 5) (by decide) (ci := 1) rfl rfl rfl me_X1_firstFault ml_StairBows_89 (c_X1_firstFault l g ad μ _  h) ⟨rfl, rfl⟩ ⟨Nat.le_of_ble_eq_true rfl, Nat.le_of_ble_eq_true rfl⟩ rfl hl.1 rfl (Nat.le_of_ble_eq_true rfl) dX4_read_4 ⟨Nat.le_of_ble_eq_true rfl, Nat.le_of_ble_eq_true rfl⟩) (fun r_2 m_1 h H locs w => ?_)
  refine lv_bipush (v := -6) hx hb dX4_read_7 (by decide) ?_
  refine lv_icmp_eq (tgt := 15) hx hb dX4_read_9 (by decide) (fun c_3 => ?_) (fun c_3 => ?_)
  · have h := h.1 c_3
    refine lv_aload_n hx hb dX4_read_15 rfl (lv_at hl 0 rfl) ?_
    refine x_getX C w (k := 5) (v := .ref (ad 229)) (by decide) rfl mf_StairBows_37 dX4_read_16 ?_
    refine x_getD C w (k := 1) (v := .int (m_1 229 1)) (by decide) rfl mf_StairBows_92 dX4_read_19 ?_
    refine lv_iconst (v := 2) hx hb dX4_read_22 (by decide) ?_
    refine lv_idiv hx hb dX4_read_23 (by decide) ?_
    refine lv_istore_n (lv' := [(1, .int ((m_1 229 1) / 2)), (0, .ref (ad 0))]) hx hb dX4_read_24 rfl hl (by decide) rfl (fun ls hl => ?_)
    refine lv_aload_n hx hb dX4_read_25 rfl (lv_at hl 1 rfl) ?_
    refine x_getX C w (k := 0) (v := .ref (ad 1)) (by decide) rfl mf_StairBows_10 dX4_read_26 ?_
    refine x_getS C w (i := 1) (k := 4) (v := .int (m_1 1 4)) (rfl : kd 1 = 9) (by decide) rfl mf_StairBows_82 dX4_read_29 ?_
    refine lv_iload_n hx hb dX4_read_32 rfl (lv_at hl 0 rfl) ?_
    refine lv_iadd hx hb dX4_read_33 ?_
    refine lv_bipush (v := 24) hx hb dX4_read_34 (by decide) ?_
    refine lv_icmp_le (tgt := 42) hx hb dX4_read_36 (by decide) (fun c_4 => ?_) (fun c_4 => ?_)
    · have h := h.1 c_4
      refine lv_aload_n hx hb dX4_read_42 rfl (lv_at hl 1 rfl) ?_
      refine x_getX C w (k := 2) (v := .ref (ad 57)) (by decide) rfl mf_StairBows_22 dX4_read_43 ?_
      refine lv_aload_n hx hb dX4_read_46 rfl (lv_at hl 1 rfl) ?_
      refine x_getX C w (k := 0) (v := .ref (ad 1)) (by decide) rfl mf_StairBows_10 dX4_read_47 ?_
      refine x_callv C w (x_runV (i := 57) (As := [.ref (ad 1)]) (rest := []) C w (rfl : kd 57 = 1) (by decide) (ci := 0) rfl rfl rfl me_X0_keep ml_StairBows_56 (c_X0_keep l g ad m_1 _ 1 (rfl : kd 1 = 9) h) ⟨rfl, rfl⟩ ⟨Nat.le_of_ble_eq_true rfl, Nat.le_of_ble_eq_true rfl⟩ rfl hl.1 rfl (Nat.le_of_ble_eq_true rfl) dX4_read_50 ⟨Nat.le_of_ble_eq_true rfl, Nat.le_of_ble_eq_true rfl⟩) (fun m_5 h H locs w => ?_)
      refine lv_iconst (v := 0) hx hb dX4_read_53 (by decide) ?_
      refine lv_istore_n (lv' := [(2, .int 0), (1, .int ((m_1 229 1) / 2)), (0, .ref (ad 0))]) hx hb dX4_read_54 rfl hl (by decide) rfl (fun ls hl => ?_)
      obtain ⟨n_14, h⟩ := h
      exact t_X4_read_L55 C n_14 0 m_5 _ _ _ h w (lv_sub hl [2, 1, 0] rfl)
    · have h := h.2 c_4
      refine lv_bipush (v := -4) hx hb dX4_read_39 (by decide) ?_
      exact x_iret C w h dX4_read_41
  · have h := h.2 c_3
    refine lv_bipush (v := -3) hx hb dX4_read_12 (by decide) ?_
    exact x_iret C w h dX4_read_14
abbrev rm_X4_isPerson : Room := { frames := 0, cells := 0, slots := 0, locals := 0 }
noncomputable def wp_X4_isPerson (a1 : Int32) (μ : Mem) (K : Int32 → Mem → Prop) : Prop :=
    ((a1 < 0 → K 0 μ) ∧ (¬ a1 < 0 → (((μ 1 4) ≤ a1 → K 0 μ) ∧ (¬ (μ 1 4) ≤ a1 → K 1 μ))))
set_option maxHeartbeats 4000000 in
set_option maxRecDepth 100000 in
theorem c_X4_isPerson (l : Launch) (g : Gv) (ad : Nat → Nat) (μ : Mem) (sz : Nat) (a1 : Int32) {K : Int32 → Mem → Prop} (h : wp_X4_isPerson a1 μ K) : Met l yX4_isPerson (wX yX4_isPerson cX4_isPerson 2 (some .boolean)) rm_X4_isPerson (Pre g ad μ sz [.ref (ad 0), .int a1]) (PostI g ad sz K) 0 0 (Aw ad sz) := by
  refine Met.ofW (cc := cX4_isPerson) (maxL := 2) (ret := (some .boolean)) (by decide) rfl ?_
  intro p e s m args below meth c s₁ B hml hv
  obtain ⟨rfl, rfl, C, w⟩ := x_start B hml hv
  obtain ⟨hx, hb, hml, -, hts, hown, -, -, hN⟩ := id C
  have hl := lv_entry ([.ref (ad 0), .int a1]) (n := 2) (Nat.le_of_ble_eq_true rfl)
  rw [lg_entry_eq]
  generalize (lg_sl ([.ref (ad 0), .int a1]) ++ List.replicate (2 - (lg_sl ([.ref (ad 0), .int a1])).length) Slot.unset).toArray = ls at hl ⊢
  have hl : lv_has ls 2 [(0, .ref (ad 0)), (1, .int a1)] := hl
  show W p l e rm_X4_isPerson s m _ below meth c s.heap [] 0 0 _ _
  unfold wp_X4_isPerson at h
  refine lv_iload_n hx hb dX4_isPerson_0 rfl (lv_at hl 1 rfl) ?_
  refine lv_if_lt (tgt := 19) hx hb dX4_isPerson_1 (by decide) (fun c_1 => ?_) (fun c_1 => ?_)
  · have h := h.1 c_1
    refine lv_iconst (v := 0) hx hb dX4_isPerson_19 (by decide) ?_
    exact x_zret C w (show bz 0 from Or.inl rfl) h dX4_isPerson_20
  · have h := h.2 c_1
    refine lv_iload_n hx hb dX4_isPerson_4 rfl (lv_at hl 1 rfl) ?_
    refine lv_aload_n hx hb dX4_isPerson_5 rfl (lv_at hl 0 rfl) ?_
    refine x_getX C w (k := 0) (v := .ref (ad 1)) (by decide) rfl mf_StairBows_10 dX4_isPerson_6 ?_
    refine x_getS C w (i := 1) (k := 4) (v := .int (μ 1 4)) (rfl : kd 1 = 9) (by decide) rfl mf_StairBows_82 dX4_isPerson_9 ?_
    refine lv_icmp_ge (tgt := 19) hx hb dX4_isPerson_12 (by decide) (fun c_2 => ?_) (fun c_2 => ?_)
    · have h := h.1 c_2
      refine lv_iconst (v := 0) hx hb dX4_isPerson_19 (by decide) ?_
      exact x_zret C w (show bz 0 from Or.inl rfl) h dX4_isPerson_20
    · have h := h.2 c_2
      refine lv_iconst (v := 1) hx hb dX4_isPerson_15 (by decide) ?_
      refine lv_goto (tgt := 20) hx hb dX4_isPerson_16 (by decide) ?_
      exact x_zret C w (show bz 1 from Or.inr rfl) h dX4_isPerson_20
abbrev rm_X4_turn : Room := { frames := 3, cells := 0, slots := 0, locals := 73 }
noncomputable def wp_X4_turn (a1 : Int32) (μ : Mem) (K : Int32 → Mem → Prop) : Prop :=
    (wp_X4_isPerson a1 μ (fun r_2 m_1 => ((¬ r_2 = 0 → (vp_in a1 24 ∧ (((m_1 (3 + 2 + a1.toNatClampNeg) 2) = 1 → (wp_X0_keep 1 m_1 (fun m_6 => ((¬ (m_6 (3 + 2 + a1.toNatClampNeg) 1) = 0 → (∀ m_8, m_8 = up2 m_6 (3 + 2 + a1.toNatClampNeg) 1 0 → (((m_8 (3 + 2 + a1.toNatClampNeg) 1) = 0 → K 0 m_8) ∧ (¬ (m_8 (3 + 2 + a1.toNatClampNeg) 1) = 0 → K 1 m_8)))) ∧ ((m_6 (3 + 2 + a1.toNatClampNeg) 1) = 0 → (∀ m_11, m_11 = up2 m_6 (3 + 2 + a1.toNatClampNeg) 1 1 → (((m_11 (3 + 2 + a1.toNatClampNeg) 1) = 0 → K 0 m_11) ∧ (¬ (m_11 (3 + 2 + a1.toNatClampNeg) 1) = 0 → K 1 m_11)))))))) ∧ (¬ (m_1 (3 + 2 + a1.toNatClampNeg) 2) = 1 → K (-5) m_1)))) ∧ (r_2 = 0 → K (-1) m_1))))
set_option maxHeartbeats 4000000 in
set_option maxRecDepth 100000 in
theorem c_X4_turn (l : Launch) (g : Gv) (ad : Nat → Nat) (μ : Mem) (sz : Nat) (a1 : Int32) {K : Int32 → Mem → Prop} (h : wp_X4_turn a1 μ K) : Met l yX4_turn (wX yX4_turn cX4_turn 3 (some .int)) rm_X4_turn (Pre g ad μ sz [.ref (ad 0), .int a1]) (PostI g ad sz K) 0 0 (Aw ad sz) := by
  refine Met.ofW (cc := cX4_turn) (maxL := 3) (ret := (some .int)) (by decide) rfl ?_
  intro p e s m args below meth c s₁ B hml hv
  obtain ⟨rfl, rfl, C, w⟩ := x_start B hml hv
  obtain ⟨hx, hb, hml, -, hts, hown, -, -, hN⟩ := id C
  have hl := lv_entry ([.ref (ad 0), .int a1]) (n := 3) (Nat.le_of_ble_eq_true rfl)
  rw [lg_entry_eq]
  generalize (lg_sl ([.ref (ad 0), .int a1]) ++ List.replicate (3 - (lg_sl ([.ref (ad 0), .int a1])).length) Slot.unset).toArray = ls at hl ⊢
  have hl : lv_has ls 3 [(0, .ref (ad 0)), (1, .int a1)] := hl
  show W p l e rm_X4_turn s m _ below meth c s.heap [] 0 0 _ _
  unfold wp_X4_turn at h
  refine lv_aload_n hx hb dX4_turn_0 rfl (lv_at hl 0 rfl) ?_
  refine lv_iload_n hx hb dX4_turn_1 rfl (lv_at hl 1 rfl) ?_
  refine x_calli C w (x_runV (i := 0) (As := [.int a1]) (rest := []) C w (rfl : kd 0 = 0) (by decide) (ci := 4) rfl rfl rfl me_X4_isPerson ml_StairBows_101 (c_X4_isPerson l g ad μ _ a1 h) ⟨rfl, rfl⟩ ⟨Nat.le_of_ble_eq_true rfl, Nat.le_of_ble_eq_true rfl⟩ rfl hl.1 rfl (Nat.le_of_ble_eq_true rfl) dX4_turn_2 ⟨Nat.le_of_ble_eq_true rfl, Nat.le_of_ble_eq_true rfl⟩) (fun r_2 m_1 h H locs w => ?_)
  refine lv_if_ne (tgt := 10) hx hb dX4_turn_5 (by decide) (fun c_3 => ?_) (fun c_3 => ?_)
  · have h := h.1 c_3
    refine lv_aload_n hx hb dX4_turn_10 rfl (lv_at hl 0 rfl) ?_
    refine x_getX C w (k := 0) (v := .ref (ad 1)) (by decide) rfl mf_StairBows_10 dX4_turn_11 ?_
    refine x_getS C w (i := 1) (k := 1) (v := .ref (ad 3)) (rfl : kd 1 = 9) (by decide) rfl mf_StairBows_104 dX4_turn_14 ?_
    refine lv_iload_n hx hb dX4_turn_17 rfl (lv_at hl 1 rfl) ?_
    have hi := h.1
    have h := h.2
    refine x_aldP C w (kS2 (rfl : kd 1 = 9)) hi dX4_turn_18 ?_
    have k_4 := kSP (kS2 (rfl : kd 1 = 9)) hi
    refine lv_astore_n (lv' := [(2, .ref (ad (3 + 2 + a1.toNatClampNeg))), (0, .ref (ad 0)), (1, .int a1)]) hx hb dX4_turn_19 rfl hl (by decide) rfl (fun ls hl => ?_)
    refine lv_aload_n hx hb dX4_turn_20 rfl (lv_at hl 0 rfl) ?_
    refine x_getP C w (i := (3 + 2 + a1.toNatClampNeg)) (k := 2) k_4 (by decide) mf_StairBows_108 dX4_turn_21 ?_
    refine lv_iconst (v := 1) hx hb dX4_turn_24 (by decide) ?_
    refine lv_icmp_eq (tgt := 31) hx hb dX4_turn_25 (by decide) (fun c_5 => ?_) (fun c_5 => ?_)
    · have h := h.1 c_5
      refine lv_aload_n hx hb dX4_turn_31 rfl (lv_at hl 1 rfl) ?_
      refine x_getX C w (k := 2) (v := .ref (ad 57)) (by decide) rfl mf_StairBows_22 dX4_turn_32 ?_
      refine lv_aload_n hx hb dX4_turn_35 rfl (lv_at hl 1 rfl) ?_
      refine x_getX C w (k := 0) (v := .ref (ad 1)) (by decide) rfl mf_StairBows_10 dX4_turn_36 ?_
      refine x_callv C w (x_runV (i := 57) (As := [.ref (ad 1)]) (rest := []) C w (rfl : kd 57 = 1) (by decide) (ci := 0) rfl rfl rfl me_X0_keep ml_StairBows_56 (c_X0_keep l g ad m_1 _ 1 (rfl : kd 1 = 9) h) ⟨rfl, rfl⟩ ⟨Nat.le_of_ble_eq_true rfl, Nat.le_of_ble_eq_true rfl⟩ rfl hl.1 rfl (Nat.le_of_ble_eq_true rfl) dX4_turn_39 ⟨Nat.le_of_ble_eq_true rfl, Nat.le_of_ble_eq_true rfl⟩) (fun m_6 h H locs w => ?_)
      refine lv_aload_n hx hb dX4_turn_42 rfl (lv_at hl 0 rfl) ?_
      refine lv_aload_n hx hb dX4_turn_43 rfl (lv_at hl 0 rfl) ?_
      refine x_getP C w (i := (3 + 2 + a1.toNatClampNeg)) (k := 1) k_4 (by decide) mf_StairBows_113 dX4_turn_44 ?_
      refine lv_if_ne (tgt := 54) hx hb dX4_turn_47 (by decide) (fun c_7 => ?_) (fun c_7 => ?_)
      · have h := h.1 c_7
        refine lv_iconst (v := 0) hx hb dX4_turn_54 (by decide) ?_
        refine x_putP C w (i := (3 + 2 + a1.toNatClampNeg)) (k := 1) k_4 (by decide) mf_StairBows_113 rfl rfl (bz_narrow (show bz 0 from Or.inl rfl)) (bz_fits (show bz 0 from Or.inl rfl)) dX4_turn_55 (fun m_8 e_9 H locs w => ?_)
        have h := h m_8 e_9
        refine lv_aload_n hx hb dX4_turn_58 rfl (lv_at hl 0 rfl) ?_
        refine x_getP C w (i := (3 + 2 + a1.toNatClampNeg)) (k := 1) k_4 (by decide) mf_StairBows_113 dX4_turn_59 ?_
        refine lv_if_eq (tgt := 69) hx hb dX4_turn_62 (by decide) (fun c_10 => ?_) (fun c_10 => ?_)
        · have h := h.1 c_10
          refine lv_iconst (v := 0) hx hb dX4_turn_69 (by decide) ?_
          exact x_iret C w h dX4_turn_70
        · have h := h.2 c_10
          refine lv_iconst (v := 1) hx hb dX4_turn_65 (by decide) ?_
          refine lv_goto (tgt := 70) hx hb dX4_turn_66 (by decide) ?_
          exact x_iret C w h dX4_turn_70
      · have h := h.2 c_7
        refine lv_iconst (v := 1) hx hb dX4_turn_50 (by decide) ?_
        refine lv_goto (tgt := 55) hx hb dX4_turn_51 (by decide) ?_
        refine x_putP C w (i := (3 + 2 + a1.toNatClampNeg)) (k := 1) k_4 (by decide) mf_StairBows_113 rfl rfl (bz_narrow (show bz 1 from Or.inr rfl)) (bz_fits (show bz 1 from Or.inr rfl)) dX4_turn_55 (fun m_11 e_12 H locs w => ?_)
        have h := h m_11 e_12
        refine lv_aload_n hx hb dX4_turn_58 rfl (lv_at hl 0 rfl) ?_
        refine x_getP C w (i := (3 + 2 + a1.toNatClampNeg)) (k := 1) k_4 (by decide) mf_StairBows_113 dX4_turn_59 ?_
        refine lv_if_eq (tgt := 69) hx hb dX4_turn_62 (by decide) (fun c_13 => ?_) (fun c_13 => ?_)
        · have h := h.1 c_13
          refine lv_iconst (v := 0) hx hb dX4_turn_69 (by decide) ?_
          exact x_iret C w h dX4_turn_70
        · have h := h.2 c_13
          refine lv_iconst (v := 1) hx hb dX4_turn_65 (by decide) ?_
          refine lv_goto (tgt := 70) hx hb dX4_turn_66 (by decide) ?_
          exact x_iret C w h dX4_turn_70
    · have h := h.2 c_5
      refine lv_bipush (v := -5) hx hb dX4_turn_28 (by decide) ?_
      exact x_iret C w h dX4_turn_30
  · have h := h.2 c_3
    refine lv_iconst (v := -1) hx hb dX4_turn_8 (by decide) ?_
    exact x_iret C w h dX4_turn_9
abbrev rm_X4_pass : Room := { frames := 6, cells := 0, slots := 0, locals := 131 }
noncomputable def wp_X4_pass_L54 (v1 : Int32) (v2 : Int32) (K : Int32 → Mem → Prop) (n : Nat) : Int32 → Mem → Prop :=
  Nat.rec (motive := fun _ => Int32 → Mem → Prop) (fun _ _ => False) (fun _ ih v3 μ =>
    ((v1 ≤ v3 → (wp_X3_peopleWho 1 2 μ (fun r_9 m_8 => K (r_9 - v2) m_8))) ∧ (¬ v1 ≤ v3 → (wp_X3_tick 1 μ (fun m_10 => ih (v3 + 1) m_10))))) n
theorem wp_X4_pass_L54_s (v1 : Int32) (v2 : Int32) (K : Int32 → Mem → Prop) (n : Nat) (v3 : Int32) (μ : Mem) : wp_X4_pass_L54 v1 v2 K (n + 1) v3 μ = (
    let ih := wp_X4_pass_L54 v1 v2 K n
    ((v1 ≤ v3 → (wp_X3_peopleWho 1 2 μ (fun r_9 m_8 => K (r_9 - v2) m_8))) ∧ (¬ v1 ≤ v3 → (wp_X3_tick 1 μ (fun m_10 => ih (v3 + 1) m_10))))) := rfl
noncomputable def wp_X4_pass (a1 : Int32) (μ : Mem) (K : Int32 → Mem → Prop) : Prop :=
    ((a1 < 1 → K (-2) μ) ∧ (¬ a1 < 1 → ((a1 ≤ 99 → ((((μ 1 5) + a1) ≤ 9999 → (wp_X0_keep 1 μ (fun m_4 => (wp_X3_peopleWho 1 2 m_4 (fun r_6 m_5 => (∃ n, wp_X4_pass_L54 a1 r_6 K n 0 m_5)))))) ∧ (¬ ((μ 1 5) + a1) ≤ 9999 → K (-4) μ))) ∧ (¬ a1 ≤ 99 → K (-2) μ))))
set_option maxHeartbeats 4000000 in
set_option maxRecDepth 100000 in
theorem t_X4_pass_L54 {g : Gv} {ad : Nat → Nat} {l : Launch} {p : Program} {e : Env} {s : State} {m : MethodId} {args : Array Value} {below : List Frame} {meth : Method} {c : Code} (C : Cx g p s m args meth c "StairBows" cX4_pass 4 (some .int)) {v1 : Int32} {v2 : Int32}  {K : Int32 → Mem → Prop}    : ∀ (n : Nat) (v3 : Int32) (μ : Mem) (H : Heap) (locs : List Loc) (ls : Array Slot), wp_X4_pass_L54 v1 v2 K n v3 μ → Wd g ad μ (Aw ad s.heap.size) s H locs → lv_has ls 4 [(0, .ref (ad 0)), (1, .int v1), (2, .int v2), (3, .int v3)] → W p l e rm_X4_pass s m args below meth c H locs 0 0 (MQ below (PostI g ad s.heap.size K) args s 0 0 (Aw ad s.heap.size)) (F0 m 54 ls []) := by
  obtain ⟨hx, hb, hml, -, hts, hown, -, -, hN⟩ := id C
  intro n
  induction n with
  | zero =>
    intro v3 μ H locs ls h w hl
    exact (show False from h).elim
  | succ n ih =>
    intro v3 μ H locs ls h w hl
    rw [wp_X4_pass_L54_s] at h
    dsimp only at h
    refine lv_iload_n hx hb dX4_pass_54 rfl (lv_at hl 3 rfl) ?_
    refine lv_iload_n hx hb dX4_pass_55 rfl (lv_at hl 1 rfl) ?_
    refine lv_icmp_ge (tgt := 72) hx hb dX4_pass_56 (by decide) (fun c_7 => ?_) (fun c_7 => ?_)
    · have h := h.1 c_7
      refine lv_aload_n hx hb dX4_pass_72 rfl (lv_at hl 0 rfl) ?_
      refine x_getX C w (k := 0) (v := .ref (ad 1)) (by decide) rfl mf_StairBows_10 dX4_pass_73 ?_
      refine lv_iconst (v := 2) hx hb dX4_pass_76 (by decide) ?_
      refine x_calli C w (x_runV (i := 1) (As := [.int 2]) (rest := []) C w (rfl : kd 1 = 9) (by decide) (ci := 3) rfl rfl rfl me_X3_peopleWho ml_StairBows_120 (c_X3_peopleWho l g ad μ _ 1 (rfl : kd 1 = 9) 2 h) ⟨rfl, rfl⟩ ⟨Nat.le_of_ble_eq_true rfl, Nat.le_of_ble_eq_true rfl⟩ rfl hl.1 rfl (Nat.le_of_ble_eq_true rfl) dX4_pass_77 ⟨Nat.le_of_ble_eq_true rfl, Nat.le_of_ble_eq_true rfl⟩) (fun r_9 m_8 h H locs w => ?_)
      refine lv_iload_n hx hb dX4_pass_80 rfl (lv_at hl 2 rfl) ?_
      refine lv_isub hx hb dX4_pass_81 ?_
      exact x_iret C w h dX4_pass_82
    · have h := h.2 c_7
      refine lv_aload_n hx hb dX4_pass_59 rfl (lv_at hl 0 rfl) ?_
      refine x_getX C w (k := 0) (v := .ref (ad 1)) (by decide) rfl mf_StairBows_10 dX4_pass_60 ?_
      refine x_callv C w (x_runV (i := 1) (As := []) (rest := []) C w (rfl : kd 1 = 9) (by decide) (ci := 3) rfl rfl rfl me_X3_tick ml_StairBows_123 (c_X3_tick l g ad μ _ 1 (rfl : kd 1 = 9) h) ⟨rfl, rfl⟩ ⟨Nat.le_of_ble_eq_true rfl, Nat.le_of_ble_eq_true rfl⟩ rfl hl.1 rfl (Nat.le_of_ble_eq_true rfl) dX4_pass_63 ⟨Nat.le_of_ble_eq_true rfl, Nat.le_of_ble_eq_true rfl⟩) (fun m_10 h H locs w => ?_)
      refine lv_iinc (v := (v3 + 1)) (lv' := [(3, .int (v3 + 1)), (0, .ref (ad 0)), (1, .int v1), (2, .int v2)]) hx hb dX4_pass_66 hl (k := 3) rfl rfl (by decide) rfl (fun ls hl => ?_)
      refine lv_goto (tgt := 54) hx hb dX4_pass_69 (by decide) ?_
      exact ih (v3 + 1) m_10 _ _ _ h w (lv_sub hl [1, 2, 3, 0] rfl)
set_option maxHeartbeats 4000000 in
set_option maxRecDepth 100000 in
theorem c_X4_pass (l : Launch) (g : Gv) (ad : Nat → Nat) (μ : Mem) (sz : Nat) (a1 : Int32) {K : Int32 → Mem → Prop} (h : wp_X4_pass a1 μ K) : Met l yX4_pass (wX yX4_pass cX4_pass 4 (some .int)) rm_X4_pass (Pre g ad μ sz [.ref (ad 0), .int a1]) (PostI g ad sz K) 0 0 (Aw ad sz) := by
  refine Met.ofW (cc := cX4_pass) (maxL := 4) (ret := (some .int)) (by decide) rfl ?_
  intro p e s m args below meth c s₁ B hml hv
  obtain ⟨rfl, rfl, C, w⟩ := x_start B hml hv
  obtain ⟨hx, hb, hml, -, hts, hown, -, -, hN⟩ := id C
  have hl := lv_entry ([.ref (ad 0), .int a1]) (n := 4) (Nat.le_of_ble_eq_true rfl)
  rw [lg_entry_eq]
  generalize (lg_sl ([.ref (ad 0), .int a1]) ++ List.replicate (4 - (lg_sl ([.ref (ad 0), .int a1])).length) Slot.unset).toArray = ls at hl ⊢
  have hl : lv_has ls 4 [(0, .ref (ad 0)), (1, .int a1)] := hl
  show W p l e rm_X4_pass s m _ below meth c s.heap [] 0 0 _ _
  unfold wp_X4_pass at h
  refine lv_iload_n hx hb dX4_pass_0 rfl (lv_at hl 1 rfl) ?_
  refine lv_iconst (v := 1) hx hb dX4_pass_1 (by decide) ?_
  refine lv_icmp_lt (tgt := 11) hx hb dX4_pass_2 (by decide) (fun c_1 => ?_) (fun c_1 => ?_)
  · have h := h.1 c_1
    refine lv_bipush (v := -2) hx hb dX4_pass_11 (by decide) ?_
    exact x_iret C w h dX4_pass_13
  · have h := h.2 c_1
    refine lv_iload_n hx hb dX4_pass_5 rfl (lv_at hl 1 rfl) ?_
    refine lv_bipush (v := 99) hx hb dX4_pass_6 (by decide) ?_
    refine lv_icmp_le (tgt := 14) hx hb dX4_pass_8 (by decide) (fun c_2 => ?_) (fun c_2 => ?_)
    · have h := h.1 c_2
      refine lv_aload_n hx hb dX4_pass_14 rfl (lv_at hl 0 rfl) ?_
      refine x_getX C w (k := 0) (v := .ref (ad 1)) (by decide) rfl mf_StairBows_10 dX4_pass_15 ?_
      refine x_getS C w (i := 1) (k := 5) (v := .int (μ 1 5)) (rfl : kd 1 = 9) (by decide) rfl mf_StairBows_117 dX4_pass_18 ?_
      refine lv_iload_n hx hb dX4_pass_21 rfl (lv_at hl 1 rfl) ?_
      refine lv_iadd hx hb dX4_pass_22 ?_
      refine lv_sipush (v := 9999) hx hb dX4_pass_23 (by decide) ?_
      refine lv_icmp_le (tgt := 32) hx hb dX4_pass_26 (by decide) (fun c_3 => ?_) (fun c_3 => ?_)
      · have h := h.1 c_3
        refine lv_aload_n hx hb dX4_pass_32 rfl (lv_at hl 0 rfl) ?_
        refine x_getX C w (k := 2) (v := .ref (ad 57)) (by decide) rfl mf_StairBows_22 dX4_pass_33 ?_
        refine lv_aload_n hx hb dX4_pass_36 rfl (lv_at hl 0 rfl) ?_
        refine x_getX C w (k := 0) (v := .ref (ad 1)) (by decide) rfl mf_StairBows_10 dX4_pass_37 ?_
        refine x_callv C w (x_runV (i := 57) (As := [.ref (ad 1)]) (rest := []) C w (rfl : kd 57 = 1) (by decide) (ci := 0) rfl rfl rfl me_X0_keep ml_StairBows_56 (c_X0_keep l g ad μ _ 1 (rfl : kd 1 = 9) h) ⟨rfl, rfl⟩ ⟨Nat.le_of_ble_eq_true rfl, Nat.le_of_ble_eq_true rfl⟩ rfl hl.1 rfl (Nat.le_of_ble_eq_true rfl) dX4_pass_40 ⟨Nat.le_of_ble_eq_true rfl, Nat.le_of_ble_eq_true rfl⟩) (fun m_4 h H locs w => ?_)
        refine lv_aload_n hx hb dX4_pass_43 rfl (lv_at hl 0 rfl) ?_
        refine x_getX C w (k := 0) (v := .ref (ad 1)) (by decide) rfl mf_StairBows_10 dX4_pass_44 ?_
        refine lv_iconst (v := 2) hx hb dX4_pass_47 (by decide) ?_
        refine x_calli C w (x_runV (i := 1) (As := [.int 2]) (rest := []) C w (rfl : kd 1 = 9) (by decide) (ci := 3) rfl rfl rfl me_X3_peopleWho ml_StairBows_120 (c_X3_peopleWho l g ad m_4 _ 1 (rfl : kd 1 = 9) 2 h) ⟨rfl, rfl⟩ ⟨Nat.le_of_ble_eq_true rfl, Nat.le_of_ble_eq_true rfl⟩ rfl hl.1 rfl (Nat.le_of_ble_eq_true rfl) dX4_pass_48 ⟨Nat.le_of_ble_eq_true rfl, Nat.le_of_ble_eq_true rfl⟩) (fun r_6 m_5 h H locs w => ?_)
        refine lv_istore_n (lv' := [(2, .int r_6), (0, .ref (ad 0)), (1, .int a1)]) hx hb dX4_pass_51 rfl hl (by decide) rfl (fun ls hl => ?_)
        refine lv_iconst (v := 0) hx hb dX4_pass_52 (by decide) ?_
        refine lv_istore_n (lv' := [(3, .int 0), (2, .int r_6), (0, .ref (ad 0)), (1, .int a1)]) hx hb dX4_pass_53 rfl hl (by decide) rfl (fun ls hl => ?_)
        obtain ⟨n_11, h⟩ := h
        exact t_X4_pass_L54 C n_11 0 m_5 _ _ _ h w (lv_sub hl [2, 3, 1, 0] rfl)
      · have h := h.2 c_3
        refine lv_bipush (v := -4) hx hb dX4_pass_29 (by decide) ?_
        exact x_iret C w h dX4_pass_31
    · have h := h.2 c_2
      refine lv_bipush (v := -2) hx hb dX4_pass_11 (by decide) ?_
      exact x_iret C w h dX4_pass_13
abbrev rm_X4_person : Room := { frames := 2, cells := 0, slots := 0, locals := 41 }
noncomputable def wp_X4_person (a1 : Int32) (a2 : Int32) (μ : Mem) (K : Int32 → Mem → Prop) : Prop :=
    (wp_X4_isPerson a1 μ (fun r_2 m_1 => ((¬ r_2 = 0 → (vp_in a1 24 ∧ (wp_X2_tell (3 + 2 + a1.toNatClampNeg) a2 m_1 (fun r_6 m_5 => K r_6 m_5)))) ∧ (r_2 = 0 → K (-1) m_1))))
set_option maxHeartbeats 4000000 in
set_option maxRecDepth 100000 in
theorem c_X4_person (l : Launch) (g : Gv) (ad : Nat → Nat) (μ : Mem) (sz : Nat) (a1 : Int32) (a2 : Int32) {K : Int32 → Mem → Prop} (h : wp_X4_person a1 a2 μ K) : Met l yX4_person (wX yX4_person cX4_person 3 (some .int)) rm_X4_person (Pre g ad μ sz [.ref (ad 0), .int a1, .int a2]) (PostI g ad sz K) 0 0 (Aw ad sz) := by
  refine Met.ofW (cc := cX4_person) (maxL := 3) (ret := (some .int)) (by decide) rfl ?_
  intro p e s m args below meth c s₁ B hml hv
  obtain ⟨rfl, rfl, C, w⟩ := x_start B hml hv
  obtain ⟨hx, hb, hml, -, hts, hown, -, -, hN⟩ := id C
  have hl := lv_entry ([.ref (ad 0), .int a1, .int a2]) (n := 3) (Nat.le_of_ble_eq_true rfl)
  rw [lg_entry_eq]
  generalize (lg_sl ([.ref (ad 0), .int a1, .int a2]) ++ List.replicate (3 - (lg_sl ([.ref (ad 0), .int a1, .int a2])).length) Slot.unset).toArray = ls at hl ⊢
  have hl : lv_has ls 3 [(0, .ref (ad 0)), (1, .int a1), (2, .int a2)] := hl
  show W p l e rm_X4_person s m _ below meth c s.heap [] 0 0 _ _
  unfold wp_X4_person at h
  refine lv_aload_n hx hb dX4_person_0 rfl (lv_at hl 0 rfl) ?_
  refine lv_iload_n hx hb dX4_person_1 rfl (lv_at hl 1 rfl) ?_
  refine x_calli C w (x_runV (i := 0) (As := [.int a1]) (rest := []) C w (rfl : kd 0 = 0) (by decide) (ci := 4) rfl rfl rfl me_X4_isPerson ml_StairBows_101 (c_X4_isPerson l g ad μ _ a1 h) ⟨rfl, rfl⟩ ⟨Nat.le_of_ble_eq_true rfl, Nat.le_of_ble_eq_true rfl⟩ rfl hl.1 rfl (Nat.le_of_ble_eq_true rfl) dX4_person_2 ⟨Nat.le_of_ble_eq_true rfl, Nat.le_of_ble_eq_true rfl⟩) (fun r_2 m_1 h H locs w => ?_)
  refine lv_if_ne (tgt := 10) hx hb dX4_person_5 (by decide) (fun c_3 => ?_) (fun c_3 => ?_)
  · have h := h.1 c_3
    refine lv_aload_n hx hb dX4_person_10 rfl (lv_at hl 0 rfl) ?_
    refine x_getX C w (k := 0) (v := .ref (ad 1)) (by decide) rfl mf_StairBows_10 dX4_person_11 ?_
    refine x_getS C w (i := 1) (k := 1) (v := .ref (ad 3)) (rfl : kd 1 = 9) (by decide) rfl mf_StairBows_104 dX4_person_14 ?_
    refine lv_iload_n hx hb dX4_person_17 rfl (lv_at hl 1 rfl) ?_
    have hi := h.1
    have h := h.2
    refine x_aldP C w (kS2 (rfl : kd 1 = 9)) hi dX4_person_18 ?_
    have k_4 := kSP (kS2 (rfl : kd 1 = 9)) hi
    refine lv_iload_n hx hb dX4_person_19 rfl (lv_at hl 2 rfl) ?_
    refine x_calli C w (x_runV (i := (3 + 2 + a1.toNatClampNeg)) (As := [.int a2]) (rest := []) C w k_4 (by decide) (ci := 2) rfl rfl rfl me_X2_tell ml_StairBows_126 (c_X2_tell l g ad m_1 _ (3 + 2 + a1.toNatClampNeg) k_4 a2 h) ⟨rfl, rfl⟩ ⟨Nat.le_of_ble_eq_true rfl, Nat.le_of_ble_eq_true rfl⟩ rfl hl.1 rfl (Nat.le_of_ble_eq_true rfl) dX4_person_20 ⟨Nat.le_of_ble_eq_true rfl, Nat.le_of_ble_eq_true rfl⟩) (fun r_6 m_5 h H locs w => ?_)
    exact x_iret C w h dX4_person_23
  · have h := h.2 c_3
    refine lv_iconst (v := -1) hx hb dX4_person_8 (by decide) ?_
    exact x_iret C w h dX4_person_9
abbrev rm_X4_step : Room := { frames := 3, cells := 0, slots := 0, locals := 62 }
noncomputable def wp_X4_step (a1 : Int32) (a2 : Int32) (μ : Mem) (K : Int32 → Mem → Prop) : Prop :=
    (wp_X4_isStep a1 μ (fun r_2 m_1 => ((¬ r_2 = 0 → (((a2.toInt < 0 ∨ 3 < a2.toInt) → K (-2) m_1) ∧ (a2.toInt = 0 → (wp_X3_isLanding 1 a1 m_1 (fun r_6 m_5 => ((r_6 = 0 → K 0 m_5) ∧ (¬ r_6 = 0 → K 1 m_5))))) ∧ (a2.toInt = 1 → (wp_X3_crowdOn 1 a1 m_1 (fun r_10 m_9 => K r_10 m_9))) ∧ (a2.toInt = 2 → (wp_X3_roomOn 1 a1 m_1 (fun r_13 m_12 => K r_13 m_12))) ∧ (a2.toInt = 3 → (wp_X3_highestOn 1 a1 m_1 (fun r_16 m_15 => K r_16 m_15))))) ∧ (r_2 = 0 → K (-1) m_1))))
set_option maxHeartbeats 4000000 in
set_option maxRecDepth 100000 in
theorem c_X4_step (l : Launch) (g : Gv) (ad : Nat → Nat) (μ : Mem) (sz : Nat) (a1 : Int32) (a2 : Int32) {K : Int32 → Mem → Prop} (h : wp_X4_step a1 a2 μ K) : Met l yX4_step (wX yX4_step cX4_step 3 (some .int)) rm_X4_step (Pre g ad μ sz [.ref (ad 0), .int a1, .int a2]) (PostI g ad sz K) 0 0 (Aw ad sz) := by
  refine Met.ofW (cc := cX4_step) (maxL := 3) (ret := (some .int)) (by decide) rfl ?_
  intro p e s m args below meth c s₁ B hml hv
  obtain ⟨rfl, rfl, C, w⟩ := x_start B hml hv
  obtain ⟨hx, hb, hml, -, hts, hown, -, -, hN⟩ := id C
  have hl := lv_entry ([.ref (ad 0), .int a1, .int a2]) (n := 3) (Nat.le_of_ble_eq_true rfl)
  rw [lg_entry_eq]
  generalize (lg_sl ([.ref (ad 0), .int a1, .int a2]) ++ List.replicate (3 - (lg_sl ([.ref (ad 0), .int a1, .int a2])).length) Slot.unset).toArray = ls at hl ⊢
  have hl : lv_has ls 3 [(0, .ref (ad 0)), (1, .int a1), (2, .int a2)] := hl
  show W p l e rm_X4_step s m _ below meth c s.heap [] 0 0 _ _
  unfold wp_X4_step at h
  refine lv_iload_n hx hb dX4_step_0 rfl (lv_at hl 1 rfl) ?_
  refine x_calli C w (x_runS (As := [.int a1]) (rest := []) C w me_X4_isStep ml_StairBows_63 (c_X4_isStep l g ad μ _ a1 h) ⟨rfl, rfl⟩ ⟨Nat.le_of_ble_eq_true rfl, Nat.le_of_ble_eq_true rfl⟩ rfl hl.1 rfl (Nat.le_of_ble_eq_true rfl) dX4_step_1 ⟨Nat.le_of_ble_eq_true rfl, Nat.le_of_ble_eq_true rfl⟩) (fun r_2 m_1 h H locs w => ?_)
  refine lv_if_ne (tgt := 9) hx hb dX4_step_4 (by decide) (fun c_3 => ?_) (fun c_3 => ?_)
  · have h := h.1 c_3
    refine lv_iload_n hx hb dX4_step_9 rfl (lv_at hl 2 rfl) ?_
    by_cases c_4 : a2.toInt < 0 ∨ 3 < a2.toInt
    · have h := h.1 c_4
      refine lv_tableOut (tgt := 84) hx hb dX4_step_10 c_4 (by decide) ?_
      refine lv_bipush (v := -2) hx hb dX4_step_84 (by decide) ?_
      exact x_iret C w h dX4_step_86
    · by_cases c_8 : a2.toInt = 0
      · have h := h.2.1 c_8
        refine lv_tableIn (off := 30) (tgt := 40) hx hb dX4_step_10 (by omega) (by omega) (by rw [c_8]; rfl) (by decide) ?_
        refine lv_aload_n hx hb dX4_step_40 rfl (lv_at hl 0 rfl) ?_
        refine x_getX C w (k := 0) (v := .ref (ad 1)) (by decide) rfl mf_StairBows_10 dX4_step_41 ?_
        refine lv_iload_n hx hb dX4_step_44 rfl (lv_at hl 1 rfl) ?_
        refine x_calli C w (x_runV (i := 1) (As := [.int a1]) (rest := []) C w (rfl : kd 1 = 9) (by decide) (ci := 3) rfl rfl rfl me_X3_isLanding ml_StairBows_66 (c_X3_isLanding l g ad m_1 _ 1 (rfl : kd 1 = 9) a1 h) ⟨rfl, rfl⟩ ⟨Nat.le_of_ble_eq_true rfl, Nat.le_of_ble_eq_true rfl⟩ rfl hl.1 rfl (Nat.le_of_ble_eq_true rfl) dX4_step_45 ⟨Nat.le_of_ble_eq_true rfl, Nat.le_of_ble_eq_true rfl⟩) (fun r_6 m_5 h H locs w => ?_)
        refine lv_if_eq (tgt := 55) hx hb dX4_step_48 (by decide) (fun c_7 => ?_) (fun c_7 => ?_)
        · have h := h.1 c_7
          refine lv_iconst (v := 0) hx hb dX4_step_55 (by decide) ?_
          exact x_iret C w h dX4_step_56
        · have h := h.2 c_7
          refine lv_iconst (v := 1) hx hb dX4_step_51 (by decide) ?_
          refine lv_goto (tgt := 56) hx hb dX4_step_52 (by decide) ?_
          exact x_iret C w h dX4_step_56
      · by_cases c_11 : a2.toInt = 1
        · have h := h.2.2.1 c_11
          refine lv_tableIn (off := 47) (tgt := 57) hx hb dX4_step_10 (by omega) (by omega) (by rw [c_11]; rfl) (by decide) ?_
          refine lv_aload_n hx hb dX4_step_57 rfl (lv_at hl 0 rfl) ?_
          refine x_getX C w (k := 0) (v := .ref (ad 1)) (by decide) rfl mf_StairBows_10 dX4_step_58 ?_
          refine lv_iload_n hx hb dX4_step_61 rfl (lv_at hl 1 rfl) ?_
          refine x_calli C w (x_runV (i := 1) (As := [.int a1]) (rest := []) C w (rfl : kd 1 = 9) (by decide) (ci := 3) rfl rfl rfl me_X3_crowdOn ml_StairBows_69 (c_X3_crowdOn l g ad m_1 _ 1 (rfl : kd 1 = 9) a1 h) ⟨rfl, rfl⟩ ⟨Nat.le_of_ble_eq_true rfl, Nat.le_of_ble_eq_true rfl⟩ rfl hl.1 rfl (Nat.le_of_ble_eq_true rfl) dX4_step_62 ⟨Nat.le_of_ble_eq_true rfl, Nat.le_of_ble_eq_true rfl⟩) (fun r_10 m_9 h H locs w => ?_)
          exact x_iret C w h dX4_step_65
        · by_cases c_14 : a2.toInt = 2
          · have h := h.2.2.2.1 c_14
            refine lv_tableIn (off := 56) (tgt := 66) hx hb dX4_step_10 (by omega) (by omega) (by rw [c_14]; rfl) (by decide) ?_
            refine lv_aload_n hx hb dX4_step_66 rfl (lv_at hl 0 rfl) ?_
            refine x_getX C w (k := 0) (v := .ref (ad 1)) (by decide) rfl mf_StairBows_10 dX4_step_67 ?_
            refine lv_iload_n hx hb dX4_step_70 rfl (lv_at hl 1 rfl) ?_
            refine x_calli C w (x_runV (i := 1) (As := [.int a1]) (rest := []) C w (rfl : kd 1 = 9) (by decide) (ci := 3) rfl rfl rfl me_X3_roomOn ml_StairBows_129 (c_X3_roomOn l g ad m_1 _ 1 (rfl : kd 1 = 9) a1 h) ⟨rfl, rfl⟩ ⟨Nat.le_of_ble_eq_true rfl, Nat.le_of_ble_eq_true rfl⟩ rfl hl.1 rfl (Nat.le_of_ble_eq_true rfl) dX4_step_71 ⟨Nat.le_of_ble_eq_true rfl, Nat.le_of_ble_eq_true rfl⟩) (fun r_13 m_12 h H locs w => ?_)
            exact x_iret C w h dX4_step_74
          · have c_17 : a2.toInt = 3 := by omega
            have h := h.2.2.2.2 c_17
            refine lv_tableIn (off := 65) (tgt := 75) hx hb dX4_step_10 (by omega) (by omega) (by rw [c_17]; rfl) (by decide) ?_
            refine lv_aload_n hx hb dX4_step_75 rfl (lv_at hl 0 rfl) ?_
            refine x_getX C w (k := 0) (v := .ref (ad 1)) (by decide) rfl mf_StairBows_10 dX4_step_76 ?_
            refine lv_iload_n hx hb dX4_step_79 rfl (lv_at hl 1 rfl) ?_
            refine x_calli C w (x_runV (i := 1) (As := [.int a1]) (rest := []) C w (rfl : kd 1 = 9) (by decide) (ci := 3) rfl rfl rfl me_X3_highestOn ml_StairBows_132 (c_X3_highestOn l g ad m_1 _ 1 (rfl : kd 1 = 9) a1 h) ⟨rfl, rfl⟩ ⟨Nat.le_of_ble_eq_true rfl, Nat.le_of_ble_eq_true rfl⟩ rfl hl.1 rfl (Nat.le_of_ble_eq_true rfl) dX4_step_80 ⟨Nat.le_of_ble_eq_true rfl, Nat.le_of_ble_eq_true rfl⟩) (fun r_16 m_15 h H locs w => ?_)
            exact x_iret C w h dX4_step_83
  · have h := h.2 c_3
    refine lv_iconst (v := -1) hx hb dX4_step_7 (by decide) ?_
    exact x_iret C w h dX4_step_8
abbrev rm_X4_does : Room := { frames := 6, cells := 0, slots := 0, locals := 131 }
noncomputable def wp_X4_does (a1 : Int32) (μ : Mem) (K : Int32 → Mem → Prop) : Prop :=
    (wp_X4_isPerson a1 μ (fun r_2 m_1 => ((¬ r_2 = 0 → (wp_X3_takeFrom 29 1 m_1 (fun m_4 => (wp_X3_tick 29 m_4 (fun m_5 => (vp_in a1 24 ∧ K (m_5 (31 + 2 + a1.toNatClampNeg) 9) m_5)))))) ∧ (r_2 = 0 → K (-1) m_1))))
set_option maxHeartbeats 4000000 in
set_option maxRecDepth 100000 in
theorem c_X4_does (l : Launch) (g : Gv) (ad : Nat → Nat) (μ : Mem) (sz : Nat) (a1 : Int32) {K : Int32 → Mem → Prop} (h : wp_X4_does a1 μ K) : Met l yX4_does (wX yX4_does cX4_does 2 (some .int)) rm_X4_does (Pre g ad μ sz [.ref (ad 0), .int a1]) (PostI g ad sz K) 0 0 (Aw ad sz) := by
  refine Met.ofW (cc := cX4_does) (maxL := 2) (ret := (some .int)) (by decide) rfl ?_
  intro p e s m args below meth c s₁ B hml hv
  obtain ⟨rfl, rfl, C, w⟩ := x_start B hml hv
  obtain ⟨hx, hb, hml, -, hts, hown, -, -, hN⟩ := id C
  have hl := lv_entry ([.ref (ad 0), .int a1]) (n := 2) (Nat.le_of_ble_eq_true rfl)
  rw [lg_entry_eq]
  generalize (lg_sl ([.ref (ad 0), .int a1]) ++ List.replicate (2 - (lg_sl ([.ref (ad 0), .int a1])).length) Slot.unset).toArray = ls at hl ⊢
  have hl : lv_has ls 2 [(0, .ref (ad 0)), (1, .int a1)] := hl
  show W p l e rm_X4_does s m _ below meth c s.heap [] 0 0 _ _
  unfold wp_X4_does at h
  refine lv_aload_n hx hb dX4_does_0 rfl (lv_at hl 0 rfl) ?_
  refine lv_iload_n hx hb dX4_does_1 rfl (lv_at hl 1 rfl) ?_
  refine x_calli C w (x_runV (i := 0) (As := [.int a1]) (rest := []) C w (rfl : kd 0 = 0) (by decide) (ci := 4) rfl rfl rfl me_X4_isPerson ml_StairBows_101 (c_X4_isPerson l g ad μ _ a1 h) ⟨rfl, rfl⟩ ⟨Nat.le_of_ble_eq_true rfl, Nat.le_of_ble_eq_true rfl⟩ rfl hl.1 rfl (Nat.le_of_ble_eq_true rfl) dX4_does_2 ⟨Nat.le_of_ble_eq_true rfl, Nat.le_of_ble_eq_true rfl⟩) (fun r_2 m_1 h H locs w => ?_)
  refine lv_if_ne (tgt := 10) hx hb dX4_does_5 (by decide) (fun c_3 => ?_) (fun c_3 => ?_)
  · have h := h.1 c_3
    refine lv_aload_n hx hb dX4_does_10 rfl (lv_at hl 0 rfl) ?_
    refine x_getX C w (k := 1) (v := .ref (ad 29)) (by decide) rfl mf_StairBows_16 dX4_does_11 ?_
    refine lv_aload_n hx hb dX4_does_14 rfl (lv_at hl 0 rfl) ?_
    refine x_getX C w (k := 0) (v := .ref (ad 1)) (by decide) rfl mf_StairBows_10 dX4_does_15 ?_
    refine x_callv C w (x_runV (i := 29) (As := [.ref (ad 1)]) (rest := []) C w (rfl : kd 29 = 9) (by decide) (ci := 3) rfl rfl rfl me_X3_takeFrom ml_StairBows_135 (c_X3_takeFrom l g ad m_1 _ 29 (rfl : kd 29 = 9) 1 (rfl : kd 1 = 9) h) ⟨rfl, rfl⟩ ⟨Nat.le_of_ble_eq_true rfl, Nat.le_of_ble_eq_true rfl⟩ rfl hl.1 rfl (Nat.le_of_ble_eq_true rfl) dX4_does_18 ⟨Nat.le_of_ble_eq_true rfl, Nat.le_of_ble_eq_true rfl⟩) (fun m_4 h H locs w => ?_)
    refine lv_aload_n hx hb dX4_does_21 rfl (lv_at hl 0 rfl) ?_
    refine x_getX C w (k := 1) (v := .ref (ad 29)) (by decide) rfl mf_StairBows_16 dX4_does_22 ?_
    refine x_callv C w (x_runV (i := 29) (As := []) (rest := []) C w (rfl : kd 29 = 9) (by decide) (ci := 3) rfl rfl rfl me_X3_tick ml_StairBows_123 (c_X3_tick l g ad m_4 _ 29 (rfl : kd 29 = 9) h) ⟨rfl, rfl⟩ ⟨Nat.le_of_ble_eq_true rfl, Nat.le_of_ble_eq_true rfl⟩ rfl hl.1 rfl (Nat.le_of_ble_eq_true rfl) dX4_does_25 ⟨Nat.le_of_ble_eq_true rfl, Nat.le_of_ble_eq_true rfl⟩) (fun m_5 h H locs w => ?_)
    refine lv_aload_n hx hb dX4_does_28 rfl (lv_at hl 0 rfl) ?_
    refine x_getX C w (k := 1) (v := .ref (ad 29)) (by decide) rfl mf_StairBows_16 dX4_does_29 ?_
    refine x_getS C w (i := 29) (k := 1) (v := .ref (ad 31)) (rfl : kd 29 = 9) (by decide) rfl mf_StairBows_104 dX4_does_32 ?_
    refine lv_iload_n hx hb dX4_does_35 rfl (lv_at hl 1 rfl) ?_
    have hi := h.1
    have h := h.2
    refine x_aldP C w (kS2 (rfl : kd 29 = 9)) hi dX4_does_36 ?_
    have k_6 := kSP (kS2 (rfl : kd 29 = 9)) hi
    refine x_getP C w (i := (31 + 2 + a1.toNatClampNeg)) (k := 9) k_6 (by decide) mf_StairBows_138 dX4_does_37 ?_
    exact x_iret C w h dX4_does_40
  · have h := h.2 c_3
    refine lv_iconst (v := -1) hx hb dX4_does_8 (by decide) ?_
    exact x_iret C w h dX4_does_9
abbrev rm_X4_count : Room := { frames := 3, cells := 0, slots := 0, locals := 64 }
noncomputable def wp_X4_count (a1 : Int32) (μ : Mem) (K : Int32 → Mem → Prop) : Prop :=
    (wp_X4_isSetting a1 μ (fun r_2 m_1 => ((r_2 = 0 → (((a1.toInt < 3 ∨ 14 < a1.toInt) → K (-2) m_1) ∧ (a1.toInt = 3 → K (m_1 1 5) m_1) ∧ (a1.toInt = 4 → K (m_1 1 4) m_1) ∧ (a1.toInt = 5 → (wp_X3_peopleWho 1 0 m_1 (fun r_8 m_7 => K r_8 m_7))) ∧ (a1.toInt = 6 → (wp_X3_peopleWho 1 1 m_1 (fun r_11 m_10 => K r_11 m_10))) ∧ (a1.toInt = 7 → (wp_X3_peopleWho 1 2 m_1 (fun r_14 m_13 => K r_14 m_13))) ∧ (a1.toInt = 8 → (wp_X3_peopleWho 1 3 m_1 (fun r_17 m_16 => K r_17 m_16))) ∧ (a1.toInt = 9 → K (m_1 1 3) m_1) ∧ (a1.toInt = 10 → (wp_X3_sumOf 1 6 m_1 (fun r_21 m_20 => K r_21 m_20))) ∧ (a1.toInt = 11 → (wp_X3_sumOf 1 5 m_1 (fun r_24 m_23 => K r_24 m_23))) ∧ (a1.toInt = 12 → (wp_X3_sumOf 1 4 m_1 (fun r_27 m_26 => K r_27 m_26))) ∧ (a1.toInt = 13 → K (m_1 229 1) m_1) ∧ (a1.toInt = 14 → K (m_1 57 1) m_1))) ∧ (¬ r_2 = 0 → (vp_in a1 3 ∧ K (m_1 2 a1.toNatClampNeg) m_1)))))
set_option maxHeartbeats 4000000 in
set_option maxRecDepth 100000 in
theorem c_X4_count (l : Launch) (g : Gv) (ad : Nat → Nat) (μ : Mem) (sz : Nat) (a1 : Int32) {K : Int32 → Mem → Prop} (h : wp_X4_count a1 μ K) : Met l yX4_count (wX yX4_count cX4_count 2 (some .int)) rm_X4_count (Pre g ad μ sz [.ref (ad 0), .int a1]) (PostI g ad sz K) 0 0 (Aw ad sz) := by
  refine Met.ofW (cc := cX4_count) (maxL := 2) (ret := (some .int)) (by decide) rfl ?_
  intro p e s m args below meth c s₁ B hml hv
  obtain ⟨rfl, rfl, C, w⟩ := x_start B hml hv
  obtain ⟨hx, hb, hml, -, hts, hown, -, -, hN⟩ := id C
  have hl := lv_entry ([.ref (ad 0), .int a1]) (n := 2) (Nat.le_of_ble_eq_true rfl)
  rw [lg_entry_eq]
  generalize (lg_sl ([.ref (ad 0), .int a1]) ++ List.replicate (2 - (lg_sl ([.ref (ad 0), .int a1])).length) Slot.unset).toArray = ls at hl ⊢
  have hl : lv_has ls 2 [(0, .ref (ad 0)), (1, .int a1)] := hl
  show W p l e rm_X4_count s m _ below meth c s.heap [] 0 0 _ _
  unfold wp_X4_count at h
  refine lv_iload_n hx hb dX4_count_0 rfl (lv_at hl 1 rfl) ?_
  refine x_calli C w (x_runS (As := [.int a1]) (rest := []) C w me_X4_isSetting ml_StairBows_41 (c_X4_isSetting l g ad μ _ a1 h) ⟨rfl, rfl⟩ ⟨Nat.le_of_ble_eq_true rfl, Nat.le_of_ble_eq_true rfl⟩ rfl hl.1 rfl (Nat.le_of_ble_eq_true rfl) dX4_count_1 ⟨Nat.le_of_ble_eq_true rfl, Nat.le_of_ble_eq_true rfl⟩) (fun r_2 m_1 h H locs w => ?_)
  refine lv_if_eq (tgt := 17) hx hb dX4_count_4 (by decide) (fun c_3 => ?_) (fun c_3 => ?_)
  · have h := h.1 c_3
    refine lv_iload_n hx hb dX4_count_17 rfl (lv_at hl 1 rfl) ?_
    by_cases c_4 : a1.toInt < 3 ∨ 14 < a1.toInt
    · have h := h.1 c_4
      refine lv_tableOut (tgt := 184) hx hb dX4_count_18 c_4 (by decide) ?_
      refine lv_bipush (v := -2) hx hb dX4_count_184 (by decide) ?_
      exact x_iret C w h dX4_count_186
    · by_cases c_5 : a1.toInt = 3
      · have h := h.2.1 c_5
        refine lv_tableIn (off := 62) (tgt := 80) hx hb dX4_count_18 (by omega) (by omega) (by rw [c_5]; rfl) (by decide) ?_
        refine lv_aload_n hx hb dX4_count_80 rfl (lv_at hl 0 rfl) ?_
        refine x_getX C w (k := 0) (v := .ref (ad 1)) (by decide) rfl mf_StairBows_10 dX4_count_81 ?_
        refine x_getS C w (i := 1) (k := 5) (v := .int (m_1 1 5)) (rfl : kd 1 = 9) (by decide) rfl mf_StairBows_117 dX4_count_84 ?_
        exact x_iret C w h dX4_count_87
      · by_cases c_6 : a1.toInt = 4
        · have h := h.2.2.1 c_6
          refine lv_tableIn (off := 70) (tgt := 88) hx hb dX4_count_18 (by omega) (by omega) (by rw [c_6]; rfl) (by decide) ?_
          refine lv_aload_n hx hb dX4_count_88 rfl (lv_at hl 0 rfl) ?_
          refine x_getX C w (k := 0) (v := .ref (ad 1)) (by decide) rfl mf_StairBows_10 dX4_count_89 ?_
          refine x_getS C w (i := 1) (k := 4) (v := .int (m_1 1 4)) (rfl : kd 1 = 9) (by decide) rfl mf_StairBows_82 dX4_count_92 ?_
          exact x_iret C w h dX4_count_95
        · by_cases c_9 : a1.toInt = 5
          · have h := h.2.2.2.1 c_9
            refine lv_tableIn (off := 78) (tgt := 96) hx hb dX4_count_18 (by omega) (by omega) (by rw [c_9]; rfl) (by decide) ?_
            refine lv_aload_n hx hb dX4_count_96 rfl (lv_at hl 0 rfl) ?_
            refine x_getX C w (k := 0) (v := .ref (ad 1)) (by decide) rfl mf_StairBows_10 dX4_count_97 ?_
            refine lv_iconst (v := 0) hx hb dX4_count_100 (by decide) ?_
            refine x_calli C w (x_runV (i := 1) (As := [.int 0]) (rest := []) C w (rfl : kd 1 = 9) (by decide) (ci := 3) rfl rfl rfl me_X3_peopleWho ml_StairBows_120 (c_X3_peopleWho l g ad m_1 _ 1 (rfl : kd 1 = 9) 0 h) ⟨rfl, rfl⟩ ⟨Nat.le_of_ble_eq_true rfl, Nat.le_of_ble_eq_true rfl⟩ rfl hl.1 rfl (Nat.le_of_ble_eq_true rfl) dX4_count_101 ⟨Nat.le_of_ble_eq_true rfl, Nat.le_of_ble_eq_true rfl⟩) (fun r_8 m_7 h H locs w => ?_)
            exact x_iret C w h dX4_count_104
          · by_cases c_12 : a1.toInt = 6
            · have h := h.2.2.2.2.1 c_12
              refine lv_tableIn (off := 87) (tgt := 105) hx hb dX4_count_18 (by omega) (by omega) (by rw [c_12]; rfl) (by decide) ?_
              refine lv_aload_n hx hb dX4_count_105 rfl (lv_at hl 0 rfl) ?_
              refine x_getX C w (k := 0) (v := .ref (ad 1)) (by decide) rfl mf_StairBows_10 dX4_count_106 ?_
              refine lv_iconst (v := 1) hx hb dX4_count_109 (by decide) ?_
              refine x_calli C w (x_runV (i := 1) (As := [.int 1]) (rest := []) C w (rfl : kd 1 = 9) (by decide) (ci := 3) rfl rfl rfl me_X3_peopleWho ml_StairBows_120 (c_X3_peopleWho l g ad m_1 _ 1 (rfl : kd 1 = 9) 1 h) ⟨rfl, rfl⟩ ⟨Nat.le_of_ble_eq_true rfl, Nat.le_of_ble_eq_true rfl⟩ rfl hl.1 rfl (Nat.le_of_ble_eq_true rfl) dX4_count_110 ⟨Nat.le_of_ble_eq_true rfl, Nat.le_of_ble_eq_true rfl⟩) (fun r_11 m_10 h H locs w => ?_)
              exact x_iret C w h dX4_count_113
            · by_cases c_15 : a1.toInt = 7
              · have h := h.2.2.2.2.2.1 c_15
                refine lv_tableIn (off := 96) (tgt := 114) hx hb dX4_count_18 (by omega) (by omega) (by rw [c_15]; rfl) (by decide) ?_
                refine lv_aload_n hx hb dX4_count_114 rfl (lv_at hl 0 rfl) ?_
                refine x_getX C w (k := 0) (v := .ref (ad 1)) (by decide) rfl mf_StairBows_10 dX4_count_115 ?_
                refine lv_iconst (v := 2) hx hb dX4_count_118 (by decide) ?_
                refine x_calli C w (x_runV (i := 1) (As := [.int 2]) (rest := []) C w (rfl : kd 1 = 9) (by decide) (ci := 3) rfl rfl rfl me_X3_peopleWho ml_StairBows_120 (c_X3_peopleWho l g ad m_1 _ 1 (rfl : kd 1 = 9) 2 h) ⟨rfl, rfl⟩ ⟨Nat.le_of_ble_eq_true rfl, Nat.le_of_ble_eq_true rfl⟩ rfl hl.1 rfl (Nat.le_of_ble_eq_true rfl) dX4_count_119 ⟨Nat.le_of_ble_eq_true rfl, Nat.le_of_ble_eq_true rfl⟩) (fun r_14 m_13 h H locs w => ?_)
                exact x_iret C w h dX4_count_122
              · by_cases c_18 : a1.toInt = 8
                · have h := h.2.2.2.2.2.2.1 c_18
                  refine lv_tableIn (off := 105) (tgt := 123) hx hb dX4_count_18 (by omega) (by omega) (by rw [c_18]; rfl) (by decide) ?_
                  refine lv_aload_n hx hb dX4_count_123 rfl (lv_at hl 0 rfl) ?_
                  refine x_getX C w (k := 0) (v := .ref (ad 1)) (by decide) rfl mf_StairBows_10 dX4_count_124 ?_
                  refine lv_iconst (v := 3) hx hb dX4_count_127 (by decide) ?_
                  refine x_calli C w (x_runV (i := 1) (As := [.int 3]) (rest := []) C w (rfl : kd 1 = 9) (by decide) (ci := 3) rfl rfl rfl me_X3_peopleWho ml_StairBows_120 (c_X3_peopleWho l g ad m_1 _ 1 (rfl : kd 1 = 9) 3 h) ⟨rfl, rfl⟩ ⟨Nat.le_of_ble_eq_true rfl, Nat.le_of_ble_eq_true rfl⟩ rfl hl.1 rfl (Nat.le_of_ble_eq_true rfl) dX4_count_128 ⟨Nat.le_of_ble_eq_true rfl, Nat.le_of_ble_eq_true rfl⟩) (fun r_17 m_16 h H locs w => ?_)
                  exact x_iret C w h dX4_count_131
                · by_cases c_19 : a1.toInt = 9
                  · have h := h.2.2.2.2.2.2.2.1 c_19
                    refine lv_tableIn (off := 114) (tgt := 132) hx hb dX4_count_18 (by omega) (by omega) (by rw [c_19]; rfl) (by decide) ?_
                    refine lv_aload_n hx hb dX4_count_132 rfl (lv_at hl 0 rfl) ?_
                    refine x_getX C w (k := 0) (v := .ref (ad 1)) (by decide) rfl mf_StairBows_10 dX4_count_133 ?_
                    refine x_getS C w (i := 1) (k := 3) (v := .int (m_1 1 3)) (rfl : kd 1 = 9) (by decide) rfl mf_StairBows_73 dX4_count_136 ?_
                    exact x_iret C w h dX4_count_139
                  · by_cases c_22 : a1.toInt = 10
                    · have h := h.2.2.2.2.2.2.2.2.1 c_22
                      refine lv_tableIn (off := 122) (tgt := 140) hx hb dX4_count_18 (by omega) (by omega) (by rw [c_22]; rfl) (by decide) ?_
                      refine lv_aload_n hx hb dX4_count_140 rfl (lv_at hl 0 rfl) ?_
                      refine x_getX C w (k := 0) (v := .ref (ad 1)) (by decide) rfl mf_StairBows_10 dX4_count_141 ?_
                      refine lv_bipush (v := 6) hx hb dX4_count_144 (by decide) ?_
                      refine x_calli C w (x_runV (i := 1) (As := [.int 6]) (rest := []) C w (rfl : kd 1 = 9) (by decide) (ci := 3) rfl rfl rfl me_X3_sumOf ml_StairBows_141 (c_X3_sumOf l g ad m_1 _ 1 (rfl : kd 1 = 9) 6 h) ⟨rfl, rfl⟩ ⟨Nat.le_of_ble_eq_true rfl, Nat.le_of_ble_eq_true rfl⟩ rfl hl.1 rfl (Nat.le_of_ble_eq_true rfl) dX4_count_146 ⟨Nat.le_of_ble_eq_true rfl, Nat.le_of_ble_eq_true rfl⟩) (fun r_21 m_20 h H locs w => ?_)
                      exact x_iret C w h dX4_count_149
                    · by_cases c_25 : a1.toInt = 11
                      · have h := h.2.2.2.2.2.2.2.2.2.1 c_25
                        refine lv_tableIn (off := 132) (tgt := 150) hx hb dX4_count_18 (by omega) (by omega) (by rw [c_25]; rfl) (by decide) ?_
                        refine lv_aload_n hx hb dX4_count_150 rfl (lv_at hl 0 rfl) ?_
                        refine x_getX C w (k := 0) (v := .ref (ad 1)) (by decide) rfl mf_StairBows_10 dX4_count_151 ?_
                        refine lv_iconst (v := 5) hx hb dX4_count_154 (by decide) ?_
                        refine x_calli C w (x_runV (i := 1) (As := [.int 5]) (rest := []) C w (rfl : kd 1 = 9) (by decide) (ci := 3) rfl rfl rfl me_X3_sumOf ml_StairBows_141 (c_X3_sumOf l g ad m_1 _ 1 (rfl : kd 1 = 9) 5 h) ⟨rfl, rfl⟩ ⟨Nat.le_of_ble_eq_true rfl, Nat.le_of_ble_eq_true rfl⟩ rfl hl.1 rfl (Nat.le_of_ble_eq_true rfl) dX4_count_155 ⟨Nat.le_of_ble_eq_true rfl, Nat.le_of_ble_eq_true rfl⟩) (fun r_24 m_23 h H locs w => ?_)
                        exact x_iret C w h dX4_count_158
                      · by_cases c_28 : a1.toInt = 12
                        · have h := h.2.2.2.2.2.2.2.2.2.2.1 c_28
                          refine lv_tableIn (off := 141) (tgt := 159) hx hb dX4_count_18 (by omega) (by omega) (by rw [c_28]; rfl) (by decide) ?_
                          refine lv_aload_n hx hb dX4_count_159 rfl (lv_at hl 0 rfl) ?_
                          refine x_getX C w (k := 0) (v := .ref (ad 1)) (by decide) rfl mf_StairBows_10 dX4_count_160 ?_
                          refine lv_iconst (v := 4) hx hb dX4_count_163 (by decide) ?_
                          refine x_calli C w (x_runV (i := 1) (As := [.int 4]) (rest := []) C w (rfl : kd 1 = 9) (by decide) (ci := 3) rfl rfl rfl me_X3_sumOf ml_StairBows_141 (c_X3_sumOf l g ad m_1 _ 1 (rfl : kd 1 = 9) 4 h) ⟨rfl, rfl⟩ ⟨Nat.le_of_ble_eq_true rfl, Nat.le_of_ble_eq_true rfl⟩ rfl hl.1 rfl (Nat.le_of_ble_eq_true rfl) dX4_count_164 ⟨Nat.le_of_ble_eq_true rfl, Nat.le_of_ble_eq_true rfl⟩) (fun r_27 m_26 h H locs w => ?_)
                          exact x_iret C w h dX4_count_167
                        · by_cases c_29 : a1.toInt = 13
                          · have h := h.2.2.2.2.2.2.2.2.2.2.2.1 c_29
                            refine lv_tableIn (off := 150) (tgt := 168) hx hb dX4_count_18 (by omega) (by omega) (by rw [c_29]; rfl) (by decide) ?_
                            refine lv_aload_n hx hb dX4_count_168 rfl (lv_at hl 0 rfl) ?_
                            refine x_getX C w (k := 5) (v := .ref (ad 229)) (by decide) rfl mf_StairBows_37 dX4_count_169 ?_
                            refine x_getD C w (k := 1) (v := .int (m_1 229 1)) (by decide) rfl mf_StairBows_92 dX4_count_172 ?_
                            exact x_iret C w h dX4_count_175
                          · have c_30 : a1.toInt = 14 := by omega
                            have h := h.2.2.2.2.2.2.2.2.2.2.2.2 c_30
                            refine lv_tableIn (off := 158) (tgt := 176) hx hb dX4_count_18 (by omega) (by omega) (by rw [c_30]; rfl) (by decide) ?_
                            refine lv_aload_n hx hb dX4_count_176 rfl (lv_at hl 0 rfl) ?_
                            refine x_getX C w (k := 2) (v := .ref (ad 57)) (by decide) rfl mf_StairBows_22 dX4_count_177 ?_
                            refine x_getH C w (k := 1) (v := .int (m_1 57 1)) (by decide) rfl mf_StairBows_144 dX4_count_180 ?_
                            exact x_iret C w h dX4_count_183
  · have h := h.2 c_3
    refine lv_aload_n hx hb dX4_count_7 rfl (lv_at hl 0 rfl) ?_
    refine x_getX C w (k := 0) (v := .ref (ad 1)) (by decide) rfl mf_StairBows_10 dX4_count_8 ?_
    refine x_getS C w (i := 1) (k := 0) (v := .ref (ad 2)) (rfl : kd 1 = 9) (by decide) rfl mf_StairBows_60 dX4_count_11 ?_
    refine lv_iload_n hx hb dX4_count_14 rfl (lv_at hl 1 rfl) ?_
    refine x_iald C w (i := 2) (K := 10) (j := a1) (n := 3) (jn := a1.toNatClampNeg) rfl (kS1 (rfl : kd 1 = 9)) (by decide) rfl (show vp_in a1 3 from h.1) dX4_count_15 ?_
    have h := h.2
    exact x_iret C w h dX4_count_16
abbrev rm_X4_untilArrived : Room := { frames := 6, cells := 0, slots := 0, locals := 131 }
noncomputable def wp_X4_untilArrived_L33 (v2 : Nat) (K : Int32 → Mem → Prop) (n : Nat) : Int32 → Mem → Prop :=
  Nat.rec (motive := fun _ => Int32 → Mem → Prop) (fun _ _ => False) (fun _ ih v3 μ =>
    ((200 ≤ v3 → ((¬ (μ v2 2) = 2 → K (-6) μ) ∧ ((μ v2 2) = 2 → K v3 μ))) ∧ (¬ 200 ≤ v3 → (wp_X2_isOnWay v2 μ (fun r_9 m_8 => ((r_9 = 0 → ((¬ (m_8 v2 2) = 2 → K (-6) m_8) ∧ ((m_8 v2 2) = 2 → K v3 m_8))) ∧ (¬ r_9 = 0 → (wp_X3_tick 29 m_8 (fun m_12 => ih (v3 + 1) m_12))))))))) n
theorem wp_X4_untilArrived_L33_s (v2 : Nat) (K : Int32 → Mem → Prop) (n : Nat) (v3 : Int32) (μ : Mem) : wp_X4_untilArrived_L33 v2 K (n + 1) v3 μ = (
    let ih := wp_X4_untilArrived_L33 v2 K n
    ((200 ≤ v3 → ((¬ (μ v2 2) = 2 → K (-6) μ) ∧ ((μ v2 2) = 2 → K v3 μ))) ∧ (¬ 200 ≤ v3 → (wp_X2_isOnWay v2 μ (fun r_9 m_8 => ((r_9 = 0 → ((¬ (m_8 v2 2) = 2 → K (-6) m_8) ∧ ((m_8 v2 2) = 2 → K v3 m_8))) ∧ (¬ r_9 = 0 → (wp_X3_tick 29 m_8 (fun m_12 => ih (v3 + 1) m_12))))))))) := rfl
noncomputable def wp_X4_untilArrived (a1 : Int32) (μ : Mem) (K : Int32 → Mem → Prop) : Prop :=
    (wp_X4_isPerson a1 μ (fun r_2 m_1 => ((¬ r_2 = 0 → (wp_X3_takeFrom 29 1 m_1 (fun m_4 => (vp_in a1 24 ∧ (∃ n, wp_X4_untilArrived_L33 (31 + 2 + a1.toNatClampNeg) K n 0 m_4))))) ∧ (r_2 = 0 → K (-1) m_1))))
set_option maxHeartbeats 4000000 in
set_option maxRecDepth 100000 in
theorem t_X4_untilArrived_L33 {g : Gv} {ad : Nat → Nat} {l : Launch} {p : Program} {e : Env} {s : State} {m : MethodId} {args : Array Value} {below : List Frame} {meth : Method} {c : Code} (C : Cx g p s m args meth c "StairBows" cX4_untilArrived 4 (some .int)) {v2 : Nat}  {K : Int32 → Mem → Prop}  (kv2 : kd v2 = 13)  : ∀ (n : Nat) (v3 : Int32) (μ : Mem) (H : Heap) (locs : List Loc) (ls : Array Slot), wp_X4_untilArrived_L33 v2 K n v3 μ → Wd g ad μ (Aw ad s.heap.size) s H locs → lv_has ls 4 [(0, .ref (ad 0)), (2, .ref (ad v2)), (3, .int v3)] → W p l e rm_X4_untilArrived s m args below meth c H locs 0 0 (MQ below (PostI g ad s.heap.size K) args s 0 0 (Aw ad s.heap.size)) (F0 m 33 ls []) := by
  obtain ⟨hx, hb, hml, -, hts, hown, -, -, hN⟩ := id C
  intro n
  induction n with
  | zero =>
    intro v3 μ H locs ls h w hl
    exact (show False from h).elim
  | succ n ih =>
    intro v3 μ H locs ls h w hl
    rw [wp_X4_untilArrived_L33_s] at h
    dsimp only at h
    refine lv_iload_n hx hb dX4_untilArrived_33 rfl (lv_at hl 2 rfl) ?_
    refine lv_sipush (v := 200) hx hb dX4_untilArrived_34 (by decide) ?_
    refine lv_icmp_ge (tgt := 60) hx hb dX4_untilArrived_37 (by decide) (fun c_6 => ?_) (fun c_6 => ?_)
    · have h := h.1 c_6
      refine lv_aload_n hx hb dX4_untilArrived_60 rfl (lv_at hl 1 rfl) ?_
      refine x_getP C w (i := v2) (k := 2) kv2 (by decide) mf_StairBows_108 dX4_untilArrived_61 ?_
      refine lv_iconst (v := 2) hx hb dX4_untilArrived_64 (by decide) ?_
      refine lv_icmp_ne (tgt := 72) hx hb dX4_untilArrived_65 (by decide) (fun c_7 => ?_) (fun c_7 => ?_)
      · have h := h.1 c_7
        refine lv_bipush (v := -6) hx hb dX4_untilArrived_72 (by decide) ?_
        exact x_iret C w h dX4_untilArrived_74
      · have h := h.2 c_7
        refine lv_iload_n hx hb dX4_untilArrived_68 rfl (lv_at hl 2 rfl) ?_
        refine lv_goto (tgt := 74) hx hb dX4_untilArrived_69 (by decide) ?_
        exact x_iret C w h dX4_untilArrived_74
    · have h := h.2 c_6
      refine lv_aload_n hx hb dX4_untilArrived_40 rfl (lv_at hl 1 rfl) ?_
      refine x_calli C w (x_runV (i := v2) (As := []) (rest := []) C w kv2 (by decide) (ci := 2) rfl rfl rfl me_X2_isOnWay ml_StairBows_145 (c_X2_isOnWay l g ad μ _ v2 kv2 h) ⟨rfl, rfl⟩ ⟨Nat.le_of_ble_eq_true rfl, Nat.le_of_ble_eq_true rfl⟩ rfl hl.1 rfl (Nat.le_of_ble_eq_true rfl) dX4_untilArrived_41 ⟨Nat.le_of_ble_eq_true rfl, Nat.le_of_ble_eq_true rfl⟩) (fun r_9 m_8 h H locs w => ?_)
      refine lv_if_eq (tgt := 60) hx hb dX4_untilArrived_44 (by decide) (fun c_10 => ?_) (fun c_10 => ?_)
      · have h := h.1 c_10
        refine lv_aload_n hx hb dX4_untilArrived_60 rfl (lv_at hl 1 rfl) ?_
        refine x_getP C w (i := v2) (k := 2) kv2 (by decide) mf_StairBows_108 dX4_untilArrived_61 ?_
        refine lv_iconst (v := 2) hx hb dX4_untilArrived_64 (by decide) ?_
        refine lv_icmp_ne (tgt := 72) hx hb dX4_untilArrived_65 (by decide) (fun c_11 => ?_) (fun c_11 => ?_)
        · have h := h.1 c_11
          refine lv_bipush (v := -6) hx hb dX4_untilArrived_72 (by decide) ?_
          exact x_iret C w h dX4_untilArrived_74
        · have h := h.2 c_11
          refine lv_iload_n hx hb dX4_untilArrived_68 rfl (lv_at hl 2 rfl) ?_
          refine lv_goto (tgt := 74) hx hb dX4_untilArrived_69 (by decide) ?_
          exact x_iret C w h dX4_untilArrived_74
      · have h := h.2 c_10
        refine lv_aload_n hx hb dX4_untilArrived_47 rfl (lv_at hl 0 rfl) ?_
        refine x_getX C w (k := 1) (v := .ref (ad 29)) (by decide) rfl mf_StairBows_16 dX4_untilArrived_48 ?_
        refine x_callv C w (x_runV (i := 29) (As := []) (rest := []) C w (rfl : kd 29 = 9) (by decide) (ci := 3) rfl rfl rfl me_X3_tick ml_StairBows_123 (c_X3_tick l g ad m_8 _ 29 (rfl : kd 29 = 9) h) ⟨rfl, rfl⟩ ⟨Nat.le_of_ble_eq_true rfl, Nat.le_of_ble_eq_true rfl⟩ rfl hl.1 rfl (Nat.le_of_ble_eq_true rfl) dX4_untilArrived_51 ⟨Nat.le_of_ble_eq_true rfl, Nat.le_of_ble_eq_true rfl⟩) (fun m_12 h H locs w => ?_)
        refine lv_iinc (v := (v3 + 1)) (lv' := [(3, .int (v3 + 1)), (0, .ref (ad 0)), (2, .ref (ad v2))]) hx hb dX4_untilArrived_54 hl (k := 2) rfl rfl (by decide) rfl (fun ls hl => ?_)
        refine lv_goto (tgt := 33) hx hb dX4_untilArrived_57 (by decide) ?_
        exact ih (v3 + 1) m_12 _ _ _ h w (lv_sub hl [1, 2, 0] rfl)
set_option maxHeartbeats 4000000 in
set_option maxRecDepth 100000 in
theorem c_X4_untilArrived (l : Launch) (g : Gv) (ad : Nat → Nat) (μ : Mem) (sz : Nat) (a1 : Int32) {K : Int32 → Mem → Prop} (h : wp_X4_untilArrived a1 μ K) : Met l yX4_untilArrived (wX yX4_untilArrived cX4_untilArrived 4 (some .int)) rm_X4_untilArrived (Pre g ad μ sz [.ref (ad 0), .int a1]) (PostI g ad sz K) 0 0 (Aw ad sz) := by
  refine Met.ofW (cc := cX4_untilArrived) (maxL := 4) (ret := (some .int)) (by decide) rfl ?_
  intro p e s m args below meth c s₁ B hml hv
  obtain ⟨rfl, rfl, C, w⟩ := x_start B hml hv
  obtain ⟨hx, hb, hml, -, hts, hown, -, -, hN⟩ := id C
  have hl := lv_entry ([.ref (ad 0), .int a1]) (n := 4) (Nat.le_of_ble_eq_true rfl)
  rw [lg_entry_eq]
  generalize (lg_sl ([.ref (ad 0), .int a1]) ++ List.replicate (4 - (lg_sl ([.ref (ad 0), .int a1])).length) Slot.unset).toArray = ls at hl ⊢
  have hl : lv_has ls 4 [(0, .ref (ad 0)), (1, .int a1)] := hl
  show W p l e rm_X4_untilArrived s m _ below meth c s.heap [] 0 0 _ _
  unfold wp_X4_untilArrived at h
  refine lv_aload_n hx hb dX4_untilArrived_0 rfl (lv_at hl 0 rfl) ?_
  refine lv_iload_n hx hb dX4_untilArrived_1 rfl (lv_at hl 1 rfl) ?_
  refine x_calli C w (x_runV (i := 0) (As := [.int a1]) (rest := []) C w (rfl : kd 0 = 0) (by decide) (ci := 4) rfl rfl rfl me_X4_isPerson ml_StairBows_101 (c_X4_isPerson l g ad μ _ a1 h) ⟨rfl, rfl⟩ ⟨Nat.le_of_ble_eq_true rfl, Nat.le_of_ble_eq_true rfl⟩ rfl hl.1 rfl (Nat.le_of_ble_eq_true rfl) dX4_untilArrived_2 ⟨Nat.le_of_ble_eq_true rfl, Nat.le_of_ble_eq_true rfl⟩) (fun r_2 m_1 h H locs w => ?_)
  refine lv_if_ne (tgt := 10) hx hb dX4_untilArrived_5 (by decide) (fun c_3 => ?_) (fun c_3 => ?_)
  · have h := h.1 c_3
    refine lv_aload_n hx hb dX4_untilArrived_10 rfl (lv_at hl 0 rfl) ?_
    refine x_getX C w (k := 1) (v := .ref (ad 29)) (by decide) rfl mf_StairBows_16 dX4_untilArrived_11 ?_
    refine lv_aload_n hx hb dX4_untilArrived_14 rfl (lv_at hl 0 rfl) ?_
    refine x_getX C w (k := 0) (v := .ref (ad 1)) (by decide) rfl mf_StairBows_10 dX4_untilArrived_15 ?_
    refine x_callv C w (x_runV (i := 29) (As := [.ref (ad 1)]) (rest := []) C w (rfl : kd 29 = 9) (by decide) (ci := 3) rfl rfl rfl me_X3_takeFrom ml_StairBows_135 (c_X3_takeFrom l g ad m_1 _ 29 (rfl : kd 29 = 9) 1 (rfl : kd 1 = 9) h) ⟨rfl, rfl⟩ ⟨Nat.le_of_ble_eq_true rfl, Nat.le_of_ble_eq_true rfl⟩ rfl hl.1 rfl (Nat.le_of_ble_eq_true rfl) dX4_untilArrived_18 ⟨Nat.le_of_ble_eq_true rfl, Nat.le_of_ble_eq_true rfl⟩) (fun m_4 h H locs w => ?_)
    refine lv_aload_n hx hb dX4_untilArrived_21 rfl (lv_at hl 0 rfl) ?_
    refine x_getX C w (k := 1) (v := .ref (ad 29)) (by decide) rfl mf_StairBows_16 dX4_untilArrived_22 ?_
    refine x_getS C w (i := 29) (k := 1) (v := .ref (ad 31)) (rfl : kd 29 = 9) (by decide) rfl mf_StairBows_104 dX4_untilArrived_25 ?_
    refine lv_iload_n hx hb dX4_untilArrived_28 rfl (lv_at hl 1 rfl) ?_
    have hi := h.1
    have h := h.2
    refine x_aldP C w (kS2 (rfl : kd 29 = 9)) hi dX4_untilArrived_29 ?_
    have k_5 := kSP (kS2 (rfl : kd 29 = 9)) hi
    refine lv_astore_n (lv' := [(2, .ref (ad (31 + 2 + a1.toNatClampNeg))), (0, .ref (ad 0)), (1, .int a1)]) hx hb dX4_untilArrived_30 rfl hl (by decide) rfl (fun ls hl => ?_)
    refine lv_iconst (v := 0) hx hb dX4_untilArrived_31 (by decide) ?_
    refine lv_istore_n (lv' := [(3, .int 0), (2, .ref (ad (31 + 2 + a1.toNatClampNeg))), (0, .ref (ad 0)), (1, .int a1)]) hx hb dX4_untilArrived_32 rfl hl (by decide) rfl (fun ls hl => ?_)
    obtain ⟨n_13, h⟩ := h
    exact t_X4_untilArrived_L33 C k_5 n_13 0 m_4 _ _ _ h w (lv_sub hl [2, 1, 0] rfl)
  · have h := h.2 c_3
    refine lv_iconst (v := -1) hx hb dX4_untilArrived_8 (by decide) ?_
    exact x_iret C w h dX4_untilArrived_9
abbrev rm_X4_tryOut : Room := { frames := 6, cells := 0, slots := 0, locals := 131 }
noncomputable def wp_X4_tryOut_L2 (v1 : Int32) (K : Int32 → Mem → Prop) (n : Nat) : Int32 → Mem → Prop :=
  Nat.rec (motive := fun _ => Int32 → Mem → Prop) (fun _ _ => False) (fun _ ih v2 μ =>
    ((v1 ≤ v2 → K v2 μ) ∧ (¬ v1 ≤ v2 → (wp_X3_isAnybodyOnWay 29 μ (fun r_3 m_2 => ((r_3 = 0 → K v2 m_2) ∧ (¬ r_3 = 0 → (wp_X3_tick 29 m_2 (fun m_5 => ih (v2 + 1) m_5))))))))) n
theorem wp_X4_tryOut_L2_s (v1 : Int32) (K : Int32 → Mem → Prop) (n : Nat) (v2 : Int32) (μ : Mem) : wp_X4_tryOut_L2 v1 K (n + 1) v2 μ = (
    let ih := wp_X4_tryOut_L2 v1 K n
    ((v1 ≤ v2 → K v2 μ) ∧ (¬ v1 ≤ v2 → (wp_X3_isAnybodyOnWay 29 μ (fun r_3 m_2 => ((r_3 = 0 → K v2 m_2) ∧ (¬ r_3 = 0 → (wp_X3_tick 29 m_2 (fun m_5 => ih (v2 + 1) m_5))))))))) := rfl
noncomputable def wp_X4_tryOut (a1 : Int32) (μ : Mem) (K : Int32 → Mem → Prop) : Prop :=
    (∃ n, wp_X4_tryOut_L2 a1 K n 0 μ)
set_option maxHeartbeats 4000000 in
set_option maxRecDepth 100000 in
theorem t_X4_tryOut_L2 {g : Gv} {ad : Nat → Nat} {l : Launch} {p : Program} {e : Env} {s : State} {m : MethodId} {args : Array Value} {below : List Frame} {meth : Method} {c : Code} (C : Cx g p s m args meth c "StairBows" cX4_tryOut 3 (some .int)) {v1 : Int32}  {K : Int32 → Mem → Prop}    : ∀ (n : Nat) (v2 : Int32) (μ : Mem) (H : Heap) (locs : List Loc) (ls : Array Slot), wp_X4_tryOut_L2 v1 K n v2 μ → Wd g ad μ (Aw ad s.heap.size) s H locs → lv_has ls 3 [(0, .ref (ad 0)), (1, .int v1), (2, .int v2)] → W p l e rm_X4_tryOut s m args below meth c H locs 0 0 (MQ below (PostI g ad s.heap.size K) args s 0 0 (Aw ad s.heap.size)) (F0 m 2 ls []) := by
  obtain ⟨hx, hb, hml, -, hts, hown, -, -, hN⟩ := id C
  intro n
  induction n with
  | zero =>
    intro v2 μ H locs ls h w hl
    exact (show False from h).elim
  | succ n ih =>
    intro v2 μ H locs ls h w hl
    rw [wp_X4_tryOut_L2_s] at h
    dsimp only at h
    refine lv_iload_n hx hb dX4_tryOut_2 rfl (lv_at hl 2 rfl) ?_
    refine lv_iload_n hx hb dX4_tryOut_3 rfl (lv_at hl 1 rfl) ?_
    refine lv_icmp_ge (tgt := 30) hx hb dX4_tryOut_4 (by decide) (fun c_1 => ?_) (fun c_1 => ?_)
    · have h := h.1 c_1
      refine lv_iload_n hx hb dX4_tryOut_30 rfl (lv_at hl 2 rfl) ?_
      exact x_iret C w h dX4_tryOut_31
    · have h := h.2 c_1
      refine lv_aload_n hx hb dX4_tryOut_7 rfl (lv_at hl 0 rfl) ?_
      refine x_getX C w (k := 1) (v := .ref (ad 29)) (by decide) rfl mf_StairBows_16 dX4_tryOut_8 ?_
      refine x_calli C w (x_runV (i := 29) (As := []) (rest := []) C w (rfl : kd 29 = 9) (by decide) (ci := 3) rfl rfl rfl me_X3_isAnybodyOnWay ml_StairBows_152 (c_X3_isAnybodyOnWay l g ad μ _ 29 (rfl : kd 29 = 9) h) ⟨rfl, rfl⟩ ⟨Nat.le_of_ble_eq_true rfl, Nat.le_of_ble_eq_true rfl⟩ rfl hl.1 rfl (Nat.le_of_ble_eq_true rfl) dX4_tryOut_11 ⟨Nat.le_of_ble_eq_true rfl, Nat.le_of_ble_eq_true rfl⟩) (fun r_3 m_2 h H locs w => ?_)
      refine lv_if_eq (tgt := 30) hx hb dX4_tryOut_14 (by decide) (fun c_4 => ?_) (fun c_4 => ?_)
      · have h := h.1 c_4
        refine lv_iload_n hx hb dX4_tryOut_30 rfl (lv_at hl 2 rfl) ?_
        exact x_iret C w h dX4_tryOut_31
      · have h := h.2 c_4
        refine lv_aload_n hx hb dX4_tryOut_17 rfl (lv_at hl 0 rfl) ?_
        refine x_getX C w (k := 1) (v := .ref (ad 29)) (by decide) rfl mf_StairBows_16 dX4_tryOut_18 ?_
        refine x_callv C w (x_runV (i := 29) (As := []) (rest := []) C w (rfl : kd 29 = 9) (by decide) (ci := 3) rfl rfl rfl me_X3_tick ml_StairBows_123 (c_X3_tick l g ad m_2 _ 29 (rfl : kd 29 = 9) h) ⟨rfl, rfl⟩ ⟨Nat.le_of_ble_eq_true rfl, Nat.le_of_ble_eq_true rfl⟩ rfl hl.1 rfl (Nat.le_of_ble_eq_true rfl) dX4_tryOut_21 ⟨Nat.le_of_ble_eq_true rfl, Nat.le_of_ble_eq_true rfl⟩) (fun m_5 h H locs w => ?_)
        refine lv_iinc (v := (v2 + 1)) (lv' := [(2, .int (v2 + 1)), (0, .ref (ad 0)), (1, .int v1)]) hx hb dX4_tryOut_24 hl (k := 2) rfl rfl (by decide) rfl (fun ls hl => ?_)
        refine lv_goto (tgt := 2) hx hb dX4_tryOut_27 (by decide) ?_
        exact ih (v2 + 1) m_5 _ _ _ h w (lv_sub hl [1, 2, 0] rfl)
set_option maxHeartbeats 4000000 in
set_option maxRecDepth 100000 in
theorem c_X4_tryOut (l : Launch) (g : Gv) (ad : Nat → Nat) (μ : Mem) (sz : Nat) (a1 : Int32) {K : Int32 → Mem → Prop} (h : wp_X4_tryOut a1 μ K) : Met l yX4_tryOut (wX yX4_tryOut cX4_tryOut 3 (some .int)) rm_X4_tryOut (Pre g ad μ sz [.ref (ad 0), .int a1]) (PostI g ad sz K) 0 0 (Aw ad sz) := by
  refine Met.ofW (cc := cX4_tryOut) (maxL := 3) (ret := (some .int)) (by decide) rfl ?_
  intro p e s m args below meth c s₁ B hml hv
  obtain ⟨rfl, rfl, C, w⟩ := x_start B hml hv
  obtain ⟨hx, hb, hml, -, hts, hown, -, -, hN⟩ := id C
  have hl := lv_entry ([.ref (ad 0), .int a1]) (n := 3) (Nat.le_of_ble_eq_true rfl)
  rw [lg_entry_eq]
  generalize (lg_sl ([.ref (ad 0), .int a1]) ++ List.replicate (3 - (lg_sl ([.ref (ad 0), .int a1])).length) Slot.unset).toArray = ls at hl ⊢
  have hl : lv_has ls 3 [(0, .ref (ad 0)), (1, .int a1)] := hl
  show W p l e rm_X4_tryOut s m _ below meth c s.heap [] 0 0 _ _
  unfold wp_X4_tryOut at h
  refine lv_iconst (v := 0) hx hb dX4_tryOut_0 (by decide) ?_
  refine lv_istore_n (lv' := [(2, .int 0), (0, .ref (ad 0)), (1, .int a1)]) hx hb dX4_tryOut_1 rfl hl (by decide) rfl (fun ls hl => ?_)
  obtain ⟨n_6, h⟩ := h
  exact t_X4_tryOut_L2 C n_6 0 μ _ _ _ h w (lv_sub hl [1, 2, 0] rfl)
abbrev rm_X4_untilEmpty : Room := { frames := 7, cells := 0, slots := 0, locals := 153 }
noncomputable def wp_X4_untilEmpty  (μ : Mem) (K : Int32 → Mem → Prop) : Prop :=
    (wp_X3_takeFrom 29 1 μ (fun m_1 => (wp_X4_tryOut 200 m_1 (fun r_3 m_2 => (wp_X3_isAnybodyOnWay 29 m_2 (fun r_5 m_4 => ((r_5 = 0 → K r_3 m_4) ∧ (¬ r_5 = 0 → K (-6) m_4))))))))
set_option maxHeartbeats 4000000 in
set_option maxRecDepth 100000 in
theorem c_X4_untilEmpty (l : Launch) (g : Gv) (ad : Nat → Nat) (μ : Mem) (sz : Nat)  {K : Int32 → Mem → Prop} (h : wp_X4_untilEmpty μ K) : Met l yX4_untilEmpty (wX yX4_untilEmpty cX4_untilEmpty 2 (some .int)) rm_X4_untilEmpty (Pre g ad μ sz [.ref (ad 0)]) (PostI g ad sz K) 0 0 (Aw ad sz) := by
  refine Met.ofW (cc := cX4_untilEmpty) (maxL := 2) (ret := (some .int)) (by decide) rfl ?_
  intro p e s m args below meth c s₁ B hml hv
  obtain ⟨rfl, rfl, C, w⟩ := x_start B hml hv
  obtain ⟨hx, hb, hml, -, hts, hown, -, -, hN⟩ := id C
  have hl := lv_entry ([.ref (ad 0)]) (n := 2) (Nat.le_of_ble_eq_true rfl)
  rw [lg_entry_eq]
  generalize (lg_sl ([.ref (ad 0)]) ++ List.replicate (2 - (lg_sl ([.ref (ad 0)])).length) Slot.unset).toArray = ls at hl ⊢
  have hl : lv_has ls 2 [(0, .ref (ad 0))] := hl
  show W p l e rm_X4_untilEmpty s m _ below meth c s.heap [] 0 0 _ _
  unfold wp_X4_untilEmpty at h
  refine lv_aload_n hx hb dX4_untilEmpty_0 rfl (lv_at hl 0 rfl) ?_
  refine x_getX C w (k := 1) (v := .ref (ad 29)) (by decide) rfl mf_StairBows_16 dX4_untilEmpty_1 ?_
  refine lv_aload_n hx hb dX4_untilEmpty_4 rfl (lv_at hl 0 rfl) ?_
  refine x_getX C w (k := 0) (v := .ref (ad 1)) (by decide) rfl mf_StairBows_10 dX4_untilEmpty_5 ?_
  refine x_callv C w (x_runV (i := 29) (As := [.ref (ad 1)]) (rest := []) C w (rfl : kd 29 = 9) (by decide) (ci := 3) rfl rfl rfl me_X3_takeFrom ml_StairBows_135 (c_X3_takeFrom l g ad μ _ 29 (rfl : kd 29 = 9) 1 (rfl : kd 1 = 9) h) ⟨rfl, rfl⟩ ⟨Nat.le_of_ble_eq_true rfl, Nat.le_of_ble_eq_true rfl⟩ rfl hl.1 rfl (Nat.le_of_ble_eq_true rfl) dX4_untilEmpty_8 ⟨Nat.le_of_ble_eq_true rfl, Nat.le_of_ble_eq_true rfl⟩) (fun m_1 h H locs w => ?_)
  refine lv_aload_n hx hb dX4_untilEmpty_11 rfl (lv_at hl 0 rfl) ?_
  refine lv_sipush (v := 200) hx hb dX4_untilEmpty_12 (by decide) ?_
  refine x_calli C w (x_runV (i := 0) (As := [.int 200]) (rest := []) C w (rfl : kd 0 = 0) (by decide) (ci := 4) rfl rfl rfl me_X4_tryOut ml_StairBows_149 (c_X4_tryOut l g ad m_1 _ 200 h) ⟨rfl, rfl⟩ ⟨Nat.le_of_ble_eq_true rfl, Nat.le_of_ble_eq_true rfl⟩ rfl hl.1 rfl (Nat.le_of_ble_eq_true rfl) dX4_untilEmpty_15 ⟨Nat.le_of_ble_eq_true rfl, Nat.le_of_ble_eq_true rfl⟩) (fun r_3 m_2 h H locs w => ?_)
  refine lv_istore_n (lv' := [(1, .int r_3), (0, .ref (ad 0))]) hx hb dX4_untilEmpty_18 rfl hl (by decide) rfl (fun ls hl => ?_)
  refine lv_aload_n hx hb dX4_untilEmpty_19 rfl (lv_at hl 1 rfl) ?_
  refine x_getX C w (k := 1) (v := .ref (ad 29)) (by decide) rfl mf_StairBows_16 dX4_untilEmpty_20 ?_
  refine x_calli C w (x_runV (i := 29) (As := []) (rest := []) C w (rfl : kd 29 = 9) (by decide) (ci := 3) rfl rfl rfl me_X3_isAnybodyOnWay ml_StairBows_152 (c_X3_isAnybodyOnWay l g ad m_2 _ 29 (rfl : kd 29 = 9) h) ⟨rfl, rfl⟩ ⟨Nat.le_of_ble_eq_true rfl, Nat.le_of_ble_eq_true rfl⟩ rfl hl.1 rfl (Nat.le_of_ble_eq_true rfl) dX4_untilEmpty_23 ⟨Nat.le_of_ble_eq_true rfl, Nat.le_of_ble_eq_true rfl⟩) (fun r_5 m_4 h H locs w => ?_)
  refine lv_if_eq (tgt := 34) hx hb dX4_untilEmpty_26 (by decide) (fun c_6 => ?_) (fun c_6 => ?_)
  · have h := h.1 c_6
    refine lv_iload_n hx hb dX4_untilEmpty_34 rfl (lv_at hl 0 rfl) ?_
    exact x_iret C w h dX4_untilEmpty_35
  · have h := h.2 c_6
    refine lv_bipush (v := -6) hx hb dX4_untilEmpty_29 (by decide) ?_
    refine lv_goto (tgt := 35) hx hb dX4_untilEmpty_31 (by decide) ?_
    exact x_iret C w h dX4_untilEmpty_35
abbrev rm_X4_ifPassed : Room := { frames := 7, cells := 0, slots := 0, locals := 153 }
noncomputable def wp_X4_ifPassed (a1 : Int32) (a2 : Int32) (μ : Mem) (K : Int32 → Mem → Prop) : Prop :=
    ((a1 < 1 → K (-2) μ) ∧ (¬ a1 < 1 → ((200 < a1 → K (-2) μ) ∧ (¬ 200 < a1 → ((a2 < 0 → K (-2) μ) ∧ (¬ a2 < 0 → ((a2 ≤ 3 → (wp_X3_takeFrom 29 1 μ (fun m_5 => (wp_X4_tryOut a1 m_5 (fun r_7 m_6 => (((a2.toInt < 0 ∨ 2 < a2.toInt) → (wp_X3_sumOf 29 4 m_6 (fun r_10 m_9 => (wp_X3_sumOf 1 4 m_9 (fun r_12 m_11 => K (r_10 - r_12) m_11))))) ∧ (a2.toInt = 0 → (wp_X3_peopleWho 29 2 m_6 (fun r_14 m_13 => (wp_X3_peopleWho 1 2 m_13 (fun r_16 m_15 => K (r_14 - r_16) m_15))))) ∧ (a2.toInt = 1 → (wp_X3_peopleWho 29 3 m_6 (fun r_19 m_18 => (wp_X3_peopleWho 1 3 m_18 (fun r_21 m_20 => K (r_19 - r_21) m_20))))) ∧ (a2.toInt = 2 → (wp_X3_sumOf 29 6 m_6 (fun r_24 m_23 => (wp_X3_sumOf 1 6 m_23 (fun r_26 m_25 => K (r_24 - r_26) m_25))))))))))) ∧ (¬ a2 ≤ 3 → K (-2) μ))))))))
set_option maxHeartbeats 4000000 in
set_option maxRecDepth 100000 in
theorem c_X4_ifPassed (l : Launch) (g : Gv) (ad : Nat → Nat) (μ : Mem) (sz : Nat) (a1 : Int32) (a2 : Int32) {K : Int32 → Mem → Prop} (h : wp_X4_ifPassed a1 a2 μ K) : Met l yX4_ifPassed (wX yX4_ifPassed cX4_ifPassed 3 (some .int)) rm_X4_ifPassed (Pre g ad μ sz [.ref (ad 0), .int a1, .int a2]) (PostI g ad sz K) 0 0 (Aw ad sz) := by
  refine Met.ofW (cc := cX4_ifPassed) (maxL := 3) (ret := (some .int)) (by decide) rfl ?_
  intro p e s m args below meth c s₁ B hml hv
  obtain ⟨rfl, rfl, C, w⟩ := x_start B hml hv
  obtain ⟨hx, hb, hml, -, hts, hown, -, -, hN⟩ := id C
  have hl := lv_entry ([.ref (ad 0), .int a1, .int a2]) (n := 3) (Nat.le_of_ble_eq_true rfl)
  rw [lg_entry_eq]
  generalize (lg_sl ([.ref (ad 0), .int a1, .int a2]) ++ List.replicate (3 - (lg_sl ([.ref (ad 0), .int a1, .int a2])).length) Slot.unset).toArray = ls at hl ⊢
  have hl : lv_has ls 3 [(0, .ref (ad 0)), (1, .int a1), (2, .int a2)] := hl
  show W p l e rm_X4_ifPassed s m _ below meth c s.heap [] 0 0 _ _
  unfold wp_X4_ifPassed at h
  refine lv_iload_n hx hb dX4_ifPassed_0 rfl (lv_at hl 1 rfl) ?_
  refine lv_iconst (v := 1) hx hb dX4_ifPassed_1 (by decide) ?_
  refine lv_icmp_lt (tgt := 21) hx hb dX4_ifPassed_2 (by decide) (fun c_1 => ?_) (fun c_1 => ?_)
  · have h := h.1 c_1
    refine lv_bipush (v := -2) hx hb dX4_ifPassed_21 (by decide) ?_
    exact x_iret C w h dX4_ifPassed_23
  · have h := h.2 c_1
    refine lv_iload_n hx hb dX4_ifPassed_5 rfl (lv_at hl 1 rfl) ?_
    refine lv_sipush (v := 200) hx hb dX4_ifPassed_6 (by decide) ?_
    refine lv_icmp_gt (tgt := 21) hx hb dX4_ifPassed_9 (by decide) (fun c_2 => ?_) (fun c_2 => ?_)
    · have h := h.1 c_2
      refine lv_bipush (v := -2) hx hb dX4_ifPassed_21 (by decide) ?_
      exact x_iret C w h dX4_ifPassed_23
    · have h := h.2 c_2
      refine lv_iload_n hx hb dX4_ifPassed_12 rfl (lv_at hl 2 rfl) ?_
      refine lv_if_lt (tgt := 21) hx hb dX4_ifPassed_13 (by decide) (fun c_3 => ?_) (fun c_3 => ?_)
      · have h := h.1 c_3
        refine lv_bipush (v := -2) hx hb dX4_ifPassed_21 (by decide) ?_
        exact x_iret C w h dX4_ifPassed_23
      · have h := h.2 c_3
        refine lv_iload_n hx hb dX4_ifPassed_16 rfl (lv_at hl 2 rfl) ?_
        refine lv_iconst (v := 3) hx hb dX4_ifPassed_17 (by decide) ?_
        refine lv_icmp_le (tgt := 24) hx hb dX4_ifPassed_18 (by decide) (fun c_4 => ?_) (fun c_4 => ?_)
        · have h := h.1 c_4
          refine lv_aload_n hx hb dX4_ifPassed_24 rfl (lv_at hl 0 rfl) ?_
          refine x_getX C w (k := 1) (v := .ref (ad 29)) (by decide) rfl mf_StairBows_16 dX4_ifPassed_25 ?_
          refine lv_aload_n hx hb dX4_ifPassed_28 rfl (lv_at hl 0 rfl) ?_
          refine x_getX C w (k := 0) (v := .ref (ad 1)) (by decide) rfl mf_StairBows_10 dX4_ifPassed_29 ?_
          refine x_callv C w (x_runV (i := 29) (As := [.ref (ad 1)]) (rest := []) C w (rfl : kd 29 = 9) (by decide) (ci := 3) rfl rfl rfl me_X3_takeFrom ml_StairBows_135 (c_X3_takeFrom l g ad μ _ 29 (rfl : kd 29 = 9) 1 (rfl : kd 1 = 9) h) ⟨rfl, rfl⟩ ⟨Nat.le_of_ble_eq_true rfl, Nat.le_of_ble_eq_true rfl⟩ rfl hl.1 rfl (Nat.le_of_ble_eq_true rfl) dX4_ifPassed_32 ⟨Nat.le_of_ble_eq_true rfl, Nat.le_of_ble_eq_true rfl⟩) (fun m_5 h H locs w => ?_)
          refine lv_aload_n hx hb dX4_ifPassed_35 rfl (lv_at hl 0 rfl) ?_
          refine lv_iload_n hx hb dX4_ifPassed_36 rfl (lv_at hl 1 rfl) ?_
          refine x_calli C w (x_runV (i := 0) (As := [.int a1]) (rest := []) C w (rfl : kd 0 = 0) (by decide) (ci := 4) rfl rfl rfl me_X4_tryOut ml_StairBows_149 (c_X4_tryOut l g ad m_5 _ a1 h) ⟨rfl, rfl⟩ ⟨Nat.le_of_ble_eq_true rfl, Nat.le_of_ble_eq_true rfl⟩ rfl hl.1 rfl (Nat.le_of_ble_eq_true rfl) dX4_ifPassed_37 ⟨Nat.le_of_ble_eq_true rfl, Nat.le_of_ble_eq_true rfl⟩) (fun r_7 m_6 h H locs w => ?_)
          refine lv_pop hx hb dX4_ifPassed_40 rfl ?_
          refine lv_iload_n hx hb dX4_ifPassed_41 rfl (lv_at hl 2 rfl) ?_
          by_cases c_8 : a2.toInt < 0 ∨ 2 < a2.toInt
          · have h := h.1 c_8
            refine lv_tableOut (tgt := 124) hx hb dX4_ifPassed_42 c_8 (by decide) ?_
            refine lv_aload_n hx hb dX4_ifPassed_124 rfl (lv_at hl 0 rfl) ?_
            refine x_getX C w (k := 1) (v := .ref (ad 29)) (by decide) rfl mf_StairBows_16 dX4_ifPassed_125 ?_
            refine lv_iconst (v := 4) hx hb dX4_ifPassed_128 (by decide) ?_
            refine x_calli C w (x_runV (i := 29) (As := [.int 4]) (rest := []) C w (rfl : kd 29 = 9) (by decide) (ci := 3) rfl rfl rfl me_X3_sumOf ml_StairBows_141 (c_X3_sumOf l g ad m_6 _ 29 (rfl : kd 29 = 9) 4 h) ⟨rfl, rfl⟩ ⟨Nat.le_of_ble_eq_true rfl, Nat.le_of_ble_eq_true rfl⟩ rfl hl.1 rfl (Nat.le_of_ble_eq_true rfl) dX4_ifPassed_129 ⟨Nat.le_of_ble_eq_true rfl, Nat.le_of_ble_eq_true rfl⟩) (fun r_10 m_9 h H locs w => ?_)
            refine lv_aload_n hx hb dX4_ifPassed_132 rfl (lv_at hl 0 rfl) ?_
            refine x_getX C w (k := 0) (v := .ref (ad 1)) (by decide) rfl mf_StairBows_10 dX4_ifPassed_133 ?_
            refine lv_iconst (v := 4) hx hb dX4_ifPassed_136 (by decide) ?_
            refine x_calli C w (x_runV (i := 1) (As := [.int 4]) (rest := [.int r_10]) C w (rfl : kd 1 = 9) (by decide) (ci := 3) rfl rfl rfl me_X3_sumOf ml_StairBows_141 (c_X3_sumOf l g ad m_9 _ 1 (rfl : kd 1 = 9) 4 h) ⟨rfl, rfl⟩ ⟨Nat.le_of_ble_eq_true rfl, Nat.le_of_ble_eq_true rfl⟩ rfl hl.1 rfl (Nat.le_of_ble_eq_true rfl) dX4_ifPassed_137 ⟨Nat.le_of_ble_eq_true rfl, Nat.le_of_ble_eq_true rfl⟩) (fun r_12 m_11 h H locs w => ?_)
            refine lv_isub hx hb dX4_ifPassed_140 ?_
            exact x_iret C w h dX4_ifPassed_141
          · by_cases c_17 : a2.toInt = 0
            · have h := h.2.1 c_17
              refine lv_tableIn (off := 26) (tgt := 68) hx hb dX4_ifPassed_42 (by omega) (by omega) (by rw [c_17]; rfl) (by decide) ?_
              refine lv_aload_n hx hb dX4_ifPassed_68 rfl (lv_at hl 0 rfl) ?_
              refine x_getX C w (k := 1) (v := .ref (ad 29)) (by decide) rfl mf_StairBows_16 dX4_ifPassed_69 ?_
              refine lv_iconst (v := 2) hx hb dX4_ifPassed_72 (by decide) ?_
              refine x_calli C w (x_runV (i := 29) (As := [.int 2]) (rest := []) C w (rfl : kd 29 = 9) (by decide) (ci := 3) rfl rfl rfl me_X3_peopleWho ml_StairBows_120 (c_X3_peopleWho l g ad m_6 _ 29 (rfl : kd 29 = 9) 2 h) ⟨rfl, rfl⟩ ⟨Nat.le_of_ble_eq_true rfl, Nat.le_of_ble_eq_true rfl⟩ rfl hl.1 rfl (Nat.le_of_ble_eq_true rfl) dX4_ifPassed_73 ⟨Nat.le_of_ble_eq_true rfl, Nat.le_of_ble_eq_true rfl⟩) (fun r_14 m_13 h H locs w => ?_)
              refine lv_aload_n hx hb dX4_ifPassed_76 rfl (lv_at hl 0 rfl) ?_
              refine x_getX C w (k := 0) (v := .ref (ad 1)) (by decide) rfl mf_StairBows_10 dX4_ifPassed_77 ?_
              refine lv_iconst (v := 2) hx hb dX4_ifPassed_80 (by decide) ?_
              refine x_calli C w (x_runV (i := 1) (As := [.int 2]) (rest := [.int r_14]) C w (rfl : kd 1 = 9) (by decide) (ci := 3) rfl rfl rfl me_X3_peopleWho ml_StairBows_120 (c_X3_peopleWho l g ad m_13 _ 1 (rfl : kd 1 = 9) 2 h) ⟨rfl, rfl⟩ ⟨Nat.le_of_ble_eq_true rfl, Nat.le_of_ble_eq_true rfl⟩ rfl hl.1 rfl (Nat.le_of_ble_eq_true rfl) dX4_ifPassed_81 ⟨Nat.le_of_ble_eq_true rfl, Nat.le_of_ble_eq_true rfl⟩) (fun r_16 m_15 h H locs w => ?_)
              refine lv_isub hx hb dX4_ifPassed_84 ?_
              exact x_iret C w h dX4_ifPassed_85
            · by_cases c_22 : a2.toInt = 1
              · have h := h.2.2.1 c_22
                refine lv_tableIn (off := 44) (tgt := 86) hx hb dX4_ifPassed_42 (by omega) (by omega) (by rw [c_22]; rfl) (by decide) ?_
                refine lv_aload_n hx hb dX4_ifPassed_86 rfl (lv_at hl 0 rfl) ?_
                refine x_getX C w (k := 1) (v := .ref (ad 29)) (by decide) rfl mf_StairBows_16 dX4_ifPassed_87 ?_
                refine lv_iconst (v := 3) hx hb dX4_ifPassed_90 (by decide) ?_
                refine x_calli C w (x_runV (i := 29) (As := [.int 3]) (rest := []) C w (rfl : kd 29 = 9) (by decide) (ci := 3) rfl rfl rfl me_X3_peopleWho ml_StairBows_120 (c_X3_peopleWho l g ad m_6 _ 29 (rfl : kd 29 = 9) 3 h) ⟨rfl, rfl⟩ ⟨Nat.le_of_ble_eq_true rfl, Nat.le_of_ble_eq_true rfl⟩ rfl hl.1 rfl (Nat.le_of_ble_eq_true rfl) dX4_ifPassed_91 ⟨Nat.le_of_ble_eq_true rfl, Nat.le_of_ble_eq_true rfl⟩) (fun r_19 m_18 h H locs w => ?_)
                refine lv_aload_n hx hb dX4_ifPassed_94 rfl (lv_at hl 0 rfl) ?_
                refine x_getX C w (k := 0) (v := .ref (ad 1)) (by decide) rfl mf_StairBows_10 dX4_ifPassed_95 ?_
                refine lv_iconst (v := 3) hx hb dX4_ifPassed_98 (by decide) ?_
                refine x_calli C w (x_runV (i := 1) (As := [.int 3]) (rest := [.int r_19]) C w (rfl : kd 1 = 9) (by decide) (ci := 3) rfl rfl rfl me_X3_peopleWho ml_StairBows_120 (c_X3_peopleWho l g ad m_18 _ 1 (rfl : kd 1 = 9) 3 h) ⟨rfl, rfl⟩ ⟨Nat.le_of_ble_eq_true rfl, Nat.le_of_ble_eq_true rfl⟩ rfl hl.1 rfl (Nat.le_of_ble_eq_true rfl) dX4_ifPassed_99 ⟨Nat.le_of_ble_eq_true rfl, Nat.le_of_ble_eq_true rfl⟩) (fun r_21 m_20 h H locs w => ?_)
                refine lv_isub hx hb dX4_ifPassed_102 ?_
                exact x_iret C w h dX4_ifPassed_103
              · have c_27 : a2.toInt = 2 := by omega
                have h := h.2.2.2 c_27
                refine lv_tableIn (off := 62) (tgt := 104) hx hb dX4_ifPassed_42 (by omega) (by omega) (by rw [c_27]; rfl) (by decide) ?_
                refine lv_aload_n hx hb dX4_ifPassed_104 rfl (lv_at hl 0 rfl) ?_
                refine x_getX C w (k := 1) (v := .ref (ad 29)) (by decide) rfl mf_StairBows_16 dX4_ifPassed_105 ?_
                refine lv_bipush (v := 6) hx hb dX4_ifPassed_108 (by decide) ?_
                refine x_calli C w (x_runV (i := 29) (As := [.int 6]) (rest := []) C w (rfl : kd 29 = 9) (by decide) (ci := 3) rfl rfl rfl me_X3_sumOf ml_StairBows_141 (c_X3_sumOf l g ad m_6 _ 29 (rfl : kd 29 = 9) 6 h) ⟨rfl, rfl⟩ ⟨Nat.le_of_ble_eq_true rfl, Nat.le_of_ble_eq_true rfl⟩ rfl hl.1 rfl (Nat.le_of_ble_eq_true rfl) dX4_ifPassed_110 ⟨Nat.le_of_ble_eq_true rfl, Nat.le_of_ble_eq_true rfl⟩) (fun r_24 m_23 h H locs w => ?_)
                refine lv_aload_n hx hb dX4_ifPassed_113 rfl (lv_at hl 0 rfl) ?_
                refine x_getX C w (k := 0) (v := .ref (ad 1)) (by decide) rfl mf_StairBows_10 dX4_ifPassed_114 ?_
                refine lv_bipush (v := 6) hx hb dX4_ifPassed_117 (by decide) ?_
                refine x_calli C w (x_runV (i := 1) (As := [.int 6]) (rest := [.int r_24]) C w (rfl : kd 1 = 9) (by decide) (ci := 3) rfl rfl rfl me_X3_sumOf ml_StairBows_141 (c_X3_sumOf l g ad m_23 _ 1 (rfl : kd 1 = 9) 6 h) ⟨rfl, rfl⟩ ⟨Nat.le_of_ble_eq_true rfl, Nat.le_of_ble_eq_true rfl⟩ rfl hl.1 rfl (Nat.le_of_ble_eq_true rfl) dX4_ifPassed_119 ⟨Nat.le_of_ble_eq_true rfl, Nat.le_of_ble_eq_true rfl⟩) (fun r_26 m_25 h H locs w => ?_)
                refine lv_isub hx hb dX4_ifPassed_122 ?_
                exact x_iret C w h dX4_ifPassed_123
        · have h := h.2 c_4
          refine lv_bipush (v := -2) hx hb dX4_ifPassed_21 (by decide) ?_
          exact x_iret C w h dX4_ifPassed_23
abbrev rm_X4_bestLanding : Room := { frames := 7, cells := 0, slots := 0, locals := 153 }
noncomputable def wp_X4_bestLanding_L7 (K : Int32 → Mem → Prop) (n : Nat) : Int32 → Int32 → Int32 → Mem → Prop :=
  Nat.rec (motive := fun _ => Int32 → Int32 → Int32 → Mem → Prop) (fun _ _ _ _ => False) (fun _ ih v1 v2 v3 μ =>
    ((12 ≤ v3 → K v1 μ) ∧ (¬ 12 ≤ v3 → (wp_X3_isLanding 1 v3 μ (fun r_3 m_2 => ((r_3 = 0 → (wp_X3_takeFrom 29 1 m_2 (fun m_5 => (∀ m_6, m_6 = up2 m_5 29 3 ((m_5 29 3) ||| (1 <<< (v3 &&& 31))) → (wp_X4_tryOut 50 m_6 (fun r_9 m_8 => (wp_X3_sumOf 29 6 m_8 (fun r_11 m_10 => ((v1 = (-6) → ih v3 r_11 (v3 + 1) m_10) ∧ (¬ v1 = (-6) → ((v2 ≤ r_11 → ih v1 v2 (v3 + 1) m_10) ∧ (¬ v2 ≤ r_11 → ih v3 r_11 (v3 + 1) m_10)))))))))))) ∧ (¬ r_3 = 0 → ih v1 v2 (v3 + 1) m_2))))))) n
theorem wp_X4_bestLanding_L7_s (K : Int32 → Mem → Prop) (n : Nat) (v1 : Int32) (v2 : Int32) (v3 : Int32) (μ : Mem) : wp_X4_bestLanding_L7 K (n + 1) v1 v2 v3 μ = (
    let ih := wp_X4_bestLanding_L7 K n
    ((12 ≤ v3 → K v1 μ) ∧ (¬ 12 ≤ v3 → (wp_X3_isLanding 1 v3 μ (fun r_3 m_2 => ((r_3 = 0 → (wp_X3_takeFrom 29 1 m_2 (fun m_5 => (∀ m_6, m_6 = up2 m_5 29 3 ((m_5 29 3) ||| (1 <<< (v3 &&& 31))) → (wp_X4_tryOut 50 m_6 (fun r_9 m_8 => (wp_X3_sumOf 29 6 m_8 (fun r_11 m_10 => ((v1 = (-6) → ih v3 r_11 (v3 + 1) m_10) ∧ (¬ v1 = (-6) → ((v2 ≤ r_11 → ih v1 v2 (v3 + 1) m_10) ∧ (¬ v2 ≤ r_11 → ih v3 r_11 (v3 + 1) m_10)))))))))))) ∧ (¬ r_3 = 0 → ih v1 v2 (v3 + 1) m_2))))))) := rfl
noncomputable def wp_X4_bestLanding  (μ : Mem) (K : Int32 → Mem → Prop) : Prop :=
    (∃ n, wp_X4_bestLanding_L7 K n (-6) 0 0 μ)
set_option maxHeartbeats 4000000 in
set_option maxRecDepth 100000 in
theorem t_X4_bestLanding_L7 {g : Gv} {ad : Nat → Nat} {l : Launch} {p : Program} {e : Env} {s : State} {m : MethodId} {args : Array Value} {below : List Frame} {meth : Method} {c : Code} (C : Cx g p s m args meth c "StairBows" cX4_bestLanding 5 (some .int))   {K : Int32 → Mem → Prop}    : ∀ (n : Nat) (v1 : Int32) (v2 : Int32) (v3 : Int32) (μ : Mem) (H : Heap) (locs : List Loc) (ls : Array Slot), wp_X4_bestLanding_L7 K n v1 v2 v3 μ → Wd g ad μ (Aw ad s.heap.size) s H locs → lv_has ls 5 [(0, .ref (ad 0)), (1, .int v1), (2, .int v2), (3, .int v3)] → W p l e rm_X4_bestLanding s m args below meth c H locs 0 0 (MQ below (PostI g ad s.heap.size K) args s 0 0 (Aw ad s.heap.size)) (F0 m 7 ls []) := by
  obtain ⟨hx, hb, hml, -, hts, hown, -, -, hN⟩ := id C
  intro n
  induction n with
  | zero =>
    intro v1 v2 v3 μ H locs ls h w hl
    exact (show False from h).elim
  | succ n ih =>
    intro v1 v2 v3 μ H locs ls h w hl
    rw [wp_X4_bestLanding_L7_s] at h
    dsimp only at h
    refine lv_iload_n hx hb dX4_bestLanding_7 rfl (lv_at hl 3 rfl) ?_
    refine lv_bipush (v := 12) hx hb dX4_bestLanding_8 (by decide) ?_
    refine lv_icmp_ge (tgt := 94) hx hb dX4_bestLanding_10 (by decide) (fun c_1 => ?_) (fun c_1 => ?_)
    · have h := h.1 c_1
      refine lv_iload_n hx hb dX4_bestLanding_94 rfl (lv_at hl 1 rfl) ?_
      exact x_iret C w h dX4_bestLanding_95
    · have h := h.2 c_1
      refine lv_aload_n hx hb dX4_bestLanding_13 rfl (lv_at hl 0 rfl) ?_
      refine x_getX C w (k := 0) (v := .ref (ad 1)) (by decide) rfl mf_StairBows_10 dX4_bestLanding_14 ?_
      refine lv_iload_n hx hb dX4_bestLanding_17 rfl (lv_at hl 3 rfl) ?_
      refine x_calli C w (x_runV (i := 1) (As := [.int v3]) (rest := []) C w (rfl : kd 1 = 9) (by decide) (ci := 3) rfl rfl rfl me_X3_isLanding ml_StairBows_66 (c_X3_isLanding l g ad μ _ 1 (rfl : kd 1 = 9) v3 h) ⟨rfl, rfl⟩ ⟨Nat.le_of_ble_eq_true rfl, Nat.le_of_ble_eq_true rfl⟩ rfl hl.1 rfl (Nat.le_of_ble_eq_true rfl) dX4_bestLanding_18 ⟨Nat.le_of_ble_eq_true rfl, Nat.le_of_ble_eq_true rfl⟩) (fun r_3 m_2 h H locs w => ?_)
      refine lv_if_eq (tgt := 27) hx hb dX4_bestLanding_21 (by decide) (fun c_4 => ?_) (fun c_4 => ?_)
      · have h := h.1 c_4
        refine lv_aload_n hx hb dX4_bestLanding_27 rfl (lv_at hl 0 rfl) ?_
        refine x_getX C w (k := 1) (v := .ref (ad 29)) (by decide) rfl mf_StairBows_16 dX4_bestLanding_28 ?_
        refine lv_aload_n hx hb dX4_bestLanding_31 rfl (lv_at hl 0 rfl) ?_
        refine x_getX C w (k := 0) (v := .ref (ad 1)) (by decide) rfl mf_StairBows_10 dX4_bestLanding_32 ?_
        refine x_callv C w (x_runV (i := 29) (As := [.ref (ad 1)]) (rest := []) C w (rfl : kd 29 = 9) (by decide) (ci := 3) rfl rfl rfl me_X3_takeFrom ml_StairBows_135 (c_X3_takeFrom l g ad m_2 _ 29 (rfl : kd 29 = 9) 1 (rfl : kd 1 = 9) h) ⟨rfl, rfl⟩ ⟨Nat.le_of_ble_eq_true rfl, Nat.le_of_ble_eq_true rfl⟩ rfl hl.1 rfl (Nat.le_of_ble_eq_true rfl) dX4_bestLanding_35 ⟨Nat.le_of_ble_eq_true rfl, Nat.le_of_ble_eq_true rfl⟩) (fun m_5 h H locs w => ?_)
        refine lv_aload_n hx hb dX4_bestLanding_38 rfl (lv_at hl 0 rfl) ?_
        refine x_getX C w (k := 1) (v := .ref (ad 29)) (by decide) rfl mf_StairBows_16 dX4_bestLanding_39 ?_
        refine lv_dup hx hb dX4_bestLanding_42 rfl ?_
        refine x_getS C w (i := 29) (k := 3) (v := .int (m_5 29 3)) (rfl : kd 29 = 9) (by decide) rfl mf_StairBows_73 dX4_bestLanding_43 ?_
        refine lv_iconst (v := 1) hx hb dX4_bestLanding_46 (by decide) ?_
        refine lv_iload_n hx hb dX4_bestLanding_47 rfl (lv_at hl 3 rfl) ?_
        refine lv_ishl hx hb dX4_bestLanding_48 ?_
        refine lv_ior hx hb dX4_bestLanding_49 ?_
        refine x_putS C w (i := 29) (k := 3) (rfl : kd 29 = 9) (by decide) rfl mf_StairBows_73 rfl rfl dX4_bestLanding_50 (fun m_6 e_7 H locs w => ?_)
        have h := h m_6 e_7
        refine lv_aload_n hx hb dX4_bestLanding_53 rfl (lv_at hl 0 rfl) ?_
        refine lv_bipush (v := 50) hx hb dX4_bestLanding_54 (by decide) ?_
        refine x_calli C w (x_runV (i := 0) (As := [.int 50]) (rest := []) C w (rfl : kd 0 = 0) (by decide) (ci := 4) rfl rfl rfl me_X4_tryOut ml_StairBows_149 (c_X4_tryOut l g ad m_6 _ 50 h) ⟨rfl, rfl⟩ ⟨Nat.le_of_ble_eq_true rfl, Nat.le_of_ble_eq_true rfl⟩ rfl hl.1 rfl (Nat.le_of_ble_eq_true rfl) dX4_bestLanding_56 ⟨Nat.le_of_ble_eq_true rfl, Nat.le_of_ble_eq_true rfl⟩) (fun r_9 m_8 h H locs w => ?_)
        refine lv_pop hx hb dX4_bestLanding_59 rfl ?_
        refine lv_aload_n hx hb dX4_bestLanding_60 rfl (lv_at hl 0 rfl) ?_
        refine x_getX C w (k := 1) (v := .ref (ad 29)) (by decide) rfl mf_StairBows_16 dX4_bestLanding_61 ?_
        refine lv_bipush (v := 6) hx hb dX4_bestLanding_64 (by decide) ?_
        refine x_calli C w (x_runV (i := 29) (As := [.int 6]) (rest := []) C w (rfl : kd 29 = 9) (by decide) (ci := 3) rfl rfl rfl me_X3_sumOf ml_StairBows_141 (c_X3_sumOf l g ad m_8 _ 29 (rfl : kd 29 = 9) 6 h) ⟨rfl, rfl⟩ ⟨Nat.le_of_ble_eq_true rfl, Nat.le_of_ble_eq_true rfl⟩ rfl hl.1 rfl (Nat.le_of_ble_eq_true rfl) dX4_bestLanding_66 ⟨Nat.le_of_ble_eq_true rfl, Nat.le_of_ble_eq_true rfl⟩) (fun r_11 m_10 h H locs w => ?_)
        refine lv_istore (lv' := [(4, .int r_11), (0, .ref (ad 0)), (1, .int v1), (2, .int v2), (3, .int v3)]) hx hb dX4_bestLanding_69 hl (by decide) rfl (fun ls hl => ?_)
        refine lv_iload_n hx hb dX4_bestLanding_71 rfl (lv_at hl 2 rfl) ?_
        refine lv_bipush (v := -6) hx hb dX4_bestLanding_72 (by decide) ?_
        refine lv_icmp_eq (tgt := 83) hx hb dX4_bestLanding_74 (by decide) (fun c_12 => ?_) (fun c_12 => ?_)
        · have h := h.1 c_12
          refine lv_iload_n hx hb dX4_bestLanding_83 rfl (lv_at hl 4 rfl) ?_
          refine lv_istore_n (lv' := [(1, .int v3), (4, .int r_11), (0, .ref (ad 0)), (2, .int v2), (3, .int v3)]) hx hb dX4_bestLanding_84 rfl hl (by decide) rfl (fun ls hl => ?_)
          refine lv_iload hx hb dX4_bestLanding_85 (lv_at hl 1 rfl) ?_
          refine lv_istore_n (lv' := [(2, .int r_11), (1, .int v3), (4, .int r_11), (0, .ref (ad 0)), (3, .int v3)]) hx hb dX4_bestLanding_87 rfl hl (by decide) rfl (fun ls hl => ?_)
          refine lv_iinc (v := (v3 + 1)) (lv' := [(3, .int (v3 + 1)), (2, .int r_11), (1, .int v3), (4, .int r_11), (0, .ref (ad 0))]) hx hb dX4_bestLanding_88 hl (k := 4) rfl rfl (by decide) rfl (fun ls hl => ?_)
          refine lv_goto (tgt := 7) hx hb dX4_bestLanding_91 (by decide) ?_
          exact ih v3 r_11 (v3 + 1) m_10 _ _ _ h w (lv_sub hl [4, 2, 1, 0] rfl)
        · have h := h.2 c_12
          refine lv_iload hx hb dX4_bestLanding_77 (lv_at hl 0 rfl) ?_
          refine lv_iload_n hx hb dX4_bestLanding_79 rfl (lv_at hl 3 rfl) ?_
          refine lv_icmp_ge (tgt := 88) hx hb dX4_bestLanding_80 (by decide) (fun c_13 => ?_) (fun c_13 => ?_)
          · have h := h.1 c_13
            refine lv_iinc (v := (v3 + 1)) (lv' := [(3, .int (v3 + 1)), (4, .int r_11), (0, .ref (ad 0)), (1, .int v1), (2, .int v2)]) hx hb dX4_bestLanding_88 hl (k := 4) rfl rfl (by decide) rfl (fun ls hl => ?_)
            refine lv_goto (tgt := 7) hx hb dX4_bestLanding_91 (by decide) ?_
            exact ih v1 v2 (v3 + 1) m_10 _ _ _ h w (lv_sub hl [2, 3, 4, 0] rfl)
          · have h := h.2 c_13
            refine lv_iload_n hx hb dX4_bestLanding_83 rfl (lv_at hl 4 rfl) ?_
            refine lv_istore_n (lv' := [(1, .int v3), (4, .int r_11), (0, .ref (ad 0)), (2, .int v2), (3, .int v3)]) hx hb dX4_bestLanding_84 rfl hl (by decide) rfl (fun ls hl => ?_)
            refine lv_iload hx hb dX4_bestLanding_85 (lv_at hl 1 rfl) ?_
            refine lv_istore_n (lv' := [(2, .int r_11), (1, .int v3), (4, .int r_11), (0, .ref (ad 0)), (3, .int v3)]) hx hb dX4_bestLanding_87 rfl hl (by decide) rfl (fun ls hl => ?_)
            refine lv_iinc (v := (v3 + 1)) (lv' := [(3, .int (v3 + 1)), (2, .int r_11), (1, .int v3), (4, .int r_11), (0, .ref (ad 0))]) hx hb dX4_bestLanding_88 hl (k := 4) rfl rfl (by decide) rfl (fun ls hl => ?_)
            refine lv_goto (tgt := 7) hx hb dX4_bestLanding_91 (by decide) ?_
            exact ih v3 r_11 (v3 + 1) m_10 _ _ _ h w (lv_sub hl [4, 2, 1, 0] rfl)
      · have h := h.2 c_4
        refine lv_goto (tgt := 88) hx hb dX4_bestLanding_24 (by decide) ?_
        refine lv_iinc (v := (v3 + 1)) (lv' := [(3, .int (v3 + 1)), (0, .ref (ad 0)), (1, .int v1), (2, .int v2)]) hx hb dX4_bestLanding_88 hl (k := 3) rfl rfl (by decide) rfl (fun ls hl => ?_)
        refine lv_goto (tgt := 7) hx hb dX4_bestLanding_91 (by decide) ?_
        exact ih v1 v2 (v3 + 1) m_2 _ _ _ h w (lv_sub hl [1, 2, 3, 0] rfl)
set_option maxHeartbeats 4000000 in
set_option maxRecDepth 100000 in
theorem c_X4_bestLanding (l : Launch) (g : Gv) (ad : Nat → Nat) (μ : Mem) (sz : Nat)  {K : Int32 → Mem → Prop} (h : wp_X4_bestLanding μ K) : Met l yX4_bestLanding (wX yX4_bestLanding cX4_bestLanding 5 (some .int)) rm_X4_bestLanding (Pre g ad μ sz [.ref (ad 0)]) (PostI g ad sz K) 0 0 (Aw ad sz) := by
  refine Met.ofW (cc := cX4_bestLanding) (maxL := 5) (ret := (some .int)) (by decide) rfl ?_
  intro p e s m args below meth c s₁ B hml hv
  obtain ⟨rfl, rfl, C, w⟩ := x_start B hml hv
  obtain ⟨hx, hb, hml, -, hts, hown, -, -, hN⟩ := id C
  have hl := lv_entry ([.ref (ad 0)]) (n := 5) (Nat.le_of_ble_eq_true rfl)
  rw [lg_entry_eq]
  generalize (lg_sl ([.ref (ad 0)]) ++ List.replicate (5 - (lg_sl ([.ref (ad 0)])).length) Slot.unset).toArray = ls at hl ⊢
  have hl : lv_has ls 5 [(0, .ref (ad 0))] := hl
  show W p l e rm_X4_bestLanding s m _ below meth c s.heap [] 0 0 _ _
  unfold wp_X4_bestLanding at h
  refine lv_bipush (v := -6) hx hb dX4_bestLanding_0 (by decide) ?_
  refine lv_istore_n (lv' := [(1, .int (-6)), (0, .ref (ad 0))]) hx hb dX4_bestLanding_2 rfl hl (by decide) rfl (fun ls hl => ?_)
  refine lv_iconst (v := 0) hx hb dX4_bestLanding_3 (by decide) ?_
  refine lv_istore_n (lv' := [(2, .int 0), (1, .int (-6)), (0, .ref (ad 0))]) hx hb dX4_bestLanding_4 rfl hl (by decide) rfl (fun ls hl => ?_)
  refine lv_iconst (v := 0) hx hb dX4_bestLanding_5 (by decide) ?_
  refine lv_istore_n (lv' := [(3, .int 0), (2, .int 0), (1, .int (-6)), (0, .ref (ad 0))]) hx hb dX4_bestLanding_6 rfl hl (by decide) rfl (fun ls hl => ?_)
  obtain ⟨n_14, h⟩ := h
  exact t_X4_bestLanding_L7 C n_14 (-6) 0 0 μ _ _ _ h w (lv_sub hl [3, 2, 1, 0] rfl)
abbrev rm_X4_put : Room := { frames := 2, cells := 0, slots := 0, locals := 50 }
noncomputable def wp_X4_put (a1 : Int64) (μ : Mem) (K : Int32 → Mem → Prop) : Prop :=
    (wp_X1_append a1 μ (fun r_2 m_1 => K r_2 m_1))
set_option maxHeartbeats 4000000 in
set_option maxRecDepth 100000 in
theorem c_X4_put (l : Launch) (g : Gv) (ad : Nat → Nat) (μ : Mem) (sz : Nat) (a1 : Int64) {K : Int32 → Mem → Prop} (h : wp_X4_put a1 μ K) : Met l yX4_put (wX yX4_put cX4_put 3 (some .int)) rm_X4_put (Pre g ad μ sz [.ref (ad 0), .long a1]) (PostI g ad sz K) 0 0 (Aw ad sz) := by
  refine Met.ofW (cc := cX4_put) (maxL := 3) (ret := (some .int)) (by decide) rfl ?_
  intro p e s m args below meth c s₁ B hml hv
  obtain ⟨rfl, rfl, C, w⟩ := x_start B hml hv
  obtain ⟨hx, hb, hml, -, hts, hown, -, -, hN⟩ := id C
  have hl := lv_entry ([.ref (ad 0), .long a1]) (n := 3) (Nat.le_of_ble_eq_true rfl)
  rw [lg_entry_eq]
  generalize (lg_sl ([.ref (ad 0), .long a1]) ++ List.replicate (3 - (lg_sl ([.ref (ad 0), .long a1])).length) Slot.unset).toArray = ls at hl ⊢
  have hl : lv_has ls 3 [(0, .ref (ad 0)), (1, .long a1)] := hl
  show W p l e rm_X4_put s m _ below meth c s.heap [] 0 0 _ _
  unfold wp_X4_put at h
  refine lv_aload_n hx hb dX4_put_0 rfl (lv_at hl 0 rfl) ?_
  refine x_getX C w (k := 5) (v := .ref (ad 229)) (by decide) rfl mf_StairBows_37 dX4_put_1 ?_
  refine lv_lload_n hx hb dX4_put_4 rfl (lv_at hl 1 rfl) ?_
  refine x_calli C w (x_runV (i := 229) (As := [.long a1]) (rest := []) C w (rfl : kd 229 = 5) (by decide) (ci := 1) rfl rfl rfl me_X1_append ml_StairBows_155 (c_X1_append l g ad μ _ a1 h) ⟨rfl, rfl⟩ ⟨Nat.le_of_ble_eq_true rfl, Nat.le_of_ble_eq_true rfl⟩ rfl hl.1 rfl (Nat.le_of_ble_eq_true rfl) dX4_put_5 ⟨Nat.le_of_ble_eq_true rfl, Nat.le_of_ble_eq_true rfl⟩) (fun r_2 m_1 h H locs w => ?_)
  exact x_iret C w h dX4_put_8
abbrev rm_X4_wipe : Room := { frames := 0, cells := 0, slots := 0, locals := 0 }
noncomputable def wp_X4_wipe  (μ : Mem) (K : Int32 → Mem → Prop) : Prop :=
    (∀ m_1, m_1 = up2 μ 229 1 0 → K (μ 229 1) m_1)
set_option maxHeartbeats 4000000 in
set_option maxRecDepth 100000 in
theorem c_X4_wipe (l : Launch) (g : Gv) (ad : Nat → Nat) (μ : Mem) (sz : Nat)  {K : Int32 → Mem → Prop} (h : wp_X4_wipe μ K) : Met l yX4_wipe (wX yX4_wipe cX4_wipe 2 (some .int)) rm_X4_wipe (Pre g ad μ sz [.ref (ad 0)]) (PostI g ad sz K) 0 0 (Aw ad sz) := by
  refine Met.ofW (cc := cX4_wipe) (maxL := 2) (ret := (some .int)) (by decide) rfl ?_
  intro p e s m args below meth c s₁ B hml hv
  obtain ⟨rfl, rfl, C, w⟩ := x_start B hml hv
  obtain ⟨hx, hb, hml, -, hts, hown, -, -, hN⟩ := id C
  have hl := lv_entry ([.ref (ad 0)]) (n := 2) (Nat.le_of_ble_eq_true rfl)
  rw [lg_entry_eq]
  generalize (lg_sl ([.ref (ad 0)]) ++ List.replicate (2 - (lg_sl ([.ref (ad 0)])).length) Slot.unset).toArray = ls at hl ⊢
  have hl : lv_has ls 2 [(0, .ref (ad 0))] := hl
  show W p l e rm_X4_wipe s m _ below meth c s.heap [] 0 0 _ _
  unfold wp_X4_wipe at h
  refine lv_aload_n hx hb dX4_wipe_0 rfl (lv_at hl 0 rfl) ?_
  refine x_getX C w (k := 5) (v := .ref (ad 229)) (by decide) rfl mf_StairBows_37 dX4_wipe_1 ?_
  refine x_getD C w (k := 1) (v := .int (μ 229 1)) (by decide) rfl mf_StairBows_92 dX4_wipe_4 ?_
  refine lv_istore_n (lv' := [(1, .int (μ 229 1)), (0, .ref (ad 0))]) hx hb dX4_wipe_7 rfl hl (by decide) rfl (fun ls hl => ?_)
  refine lv_aload_n hx hb dX4_wipe_8 rfl (lv_at hl 1 rfl) ?_
  refine x_getX C w (k := 5) (v := .ref (ad 229)) (by decide) rfl mf_StairBows_37 dX4_wipe_9 ?_
  refine lv_iconst (v := 0) hx hb dX4_wipe_12 (by decide) ?_
  refine x_putD C w mf_StairBows_92 dX4_wipe_13 (fun m_1 e_2 H locs w => ?_)
  have h := h m_1 e_2
  refine lv_iload_n hx hb dX4_wipe_16 rfl (lv_at hl 0 rfl) ?_
  exact x_iret C w h dX4_wipe_17
abbrev rm_X4_isSlot : Room := { frames := 0, cells := 0, slots := 0, locals := 0 }
noncomputable def wp_X4_isSlot (a0 : Int32) (μ : Mem) (K : Int32 → Mem → Prop) : Prop :=
    ((a0 < 0 → K 0 μ) ∧ (¬ a0 < 0 → ((2 ≤ a0 → K 0 μ) ∧ (¬ 2 ≤ a0 → K 1 μ))))
set_option maxHeartbeats 4000000 in
set_option maxRecDepth 100000 in
theorem c_X4_isSlot (l : Launch) (g : Gv) (ad : Nat → Nat) (μ : Mem) (sz : Nat) (a0 : Int32) {K : Int32 → Mem → Prop} (h : wp_X4_isSlot a0 μ K) : Met l yX4_isSlot (wX yX4_isSlot cX4_isSlot 1 (some .boolean)) rm_X4_isSlot (Pre g ad μ sz [.int a0]) (PostI g ad sz K) 0 0 (Aw ad sz) := by
  refine Met.ofW (cc := cX4_isSlot) (maxL := 1) (ret := (some .boolean)) (by decide) rfl ?_
  intro p e s m args below meth c s₁ B hml hv
  obtain ⟨rfl, rfl, C, w⟩ := x_start B hml hv
  obtain ⟨hx, hb, hml, -, hts, hown, -, -, hN⟩ := id C
  have hl := lv_entry ([.int a0]) (n := 1) (Nat.le_of_ble_eq_true rfl)
  rw [lg_entry_eq]
  generalize (lg_sl ([.int a0]) ++ List.replicate (1 - (lg_sl ([.int a0])).length) Slot.unset).toArray = ls at hl ⊢
  have hl : lv_has ls 1 [(0, .int a0)] := hl
  show W p l e rm_X4_isSlot s m _ below meth c s.heap [] 0 0 _ _
  unfold wp_X4_isSlot at h
  refine lv_iload_n hx hb dX4_isSlot_0 rfl (lv_at hl 0 rfl) ?_
  refine lv_if_lt (tgt := 13) hx hb dX4_isSlot_1 (by decide) (fun c_1 => ?_) (fun c_1 => ?_)
  · have h := h.1 c_1
    refine lv_iconst (v := 0) hx hb dX4_isSlot_13 (by decide) ?_
    exact x_zret C w (show bz 0 from Or.inl rfl) h dX4_isSlot_14
  · have h := h.2 c_1
    refine lv_iload_n hx hb dX4_isSlot_4 rfl (lv_at hl 0 rfl) ?_
    refine lv_iconst (v := 2) hx hb dX4_isSlot_5 (by decide) ?_
    refine lv_icmp_ge (tgt := 13) hx hb dX4_isSlot_6 (by decide) (fun c_2 => ?_) (fun c_2 => ?_)
    · have h := h.1 c_2
      refine lv_iconst (v := 0) hx hb dX4_isSlot_13 (by decide) ?_
      exact x_zret C w (show bz 0 from Or.inl rfl) h dX4_isSlot_14
    · have h := h.2 c_2
      refine lv_iconst (v := 1) hx hb dX4_isSlot_9 (by decide) ?_
      refine lv_goto (tgt := 14) hx hb dX4_isSlot_10 (by decide) ?_
      exact x_zret C w (show bz 1 from Or.inr rfl) h dX4_isSlot_14
abbrev rm_X4_save : Room := { frames := 2, cells := 0, slots := 0, locals := 52 }
noncomputable def wp_X4_save (a1 : Int32) (μ : Mem) (K : Int32 → Mem → Prop) : Prop :=
    (wp_X4_isSlot a1 μ (fun r_2 m_1 => ((¬ r_2 = 0 → (vp_in a1 2 ∧ (wp_X3_takeFrom (231 + 28 * a1.toNatClampNeg) 1 m_1 (fun m_5 => (vp_in a1 2 ∧ (∀ m_6, m_6 = up2 m_5 228 a1.toNatClampNeg 1 → K (m_6 1 5) m_6)))))) ∧ (r_2 = 0 → K (-2) m_1))))
set_option maxHeartbeats 4000000 in
set_option maxRecDepth 100000 in
theorem c_X4_save (l : Launch) (g : Gv) (ad : Nat → Nat) (μ : Mem) (sz : Nat) (a1 : Int32) {K : Int32 → Mem → Prop} (h : wp_X4_save a1 μ K) : Met l yX4_save (wX yX4_save cX4_save 2 (some .int)) rm_X4_save (Pre g ad μ sz [.ref (ad 0), .int a1]) (PostI g ad sz K) 0 0 (Aw ad sz) := by
  refine Met.ofW (cc := cX4_save) (maxL := 2) (ret := (some .int)) (by decide) rfl ?_
  intro p e s m args below meth c s₁ B hml hv
  obtain ⟨rfl, rfl, C, w⟩ := x_start B hml hv
  obtain ⟨hx, hb, hml, -, hts, hown, -, -, hN⟩ := id C
  have hl := lv_entry ([.ref (ad 0), .int a1]) (n := 2) (Nat.le_of_ble_eq_true rfl)
  rw [lg_entry_eq]
  generalize (lg_sl ([.ref (ad 0), .int a1]) ++ List.replicate (2 - (lg_sl ([.ref (ad 0), .int a1])).length) Slot.unset).toArray = ls at hl ⊢
  have hl : lv_has ls 2 [(0, .ref (ad 0)), (1, .int a1)] := hl
  show W p l e rm_X4_save s m _ below meth c s.heap [] 0 0 _ _
  unfold wp_X4_save at h
  refine lv_iload_n hx hb dX4_save_0 rfl (lv_at hl 1 rfl) ?_
  refine x_calli C w (x_runS (As := [.int a1]) (rest := []) C w me_X4_isSlot ml_StairBows_162 (c_X4_isSlot l g ad μ _ a1 h) ⟨rfl, rfl⟩ ⟨Nat.le_of_ble_eq_true rfl, Nat.le_of_ble_eq_true rfl⟩ rfl hl.1 rfl (Nat.le_of_ble_eq_true rfl) dX4_save_1 ⟨Nat.le_of_ble_eq_true rfl, Nat.le_of_ble_eq_true rfl⟩) (fun r_2 m_1 h H locs w => ?_)
  refine lv_if_ne (tgt := 10) hx hb dX4_save_4 (by decide) (fun c_3 => ?_) (fun c_3 => ?_)
  · have h := h.1 c_3
    refine lv_aload_n hx hb dX4_save_10 rfl (lv_at hl 0 rfl) ?_
    refine x_getX C w (k := 3) (v := .ref (ad 227)) (by decide) rfl mf_StairBows_26 dX4_save_11 ?_
    refine lv_iload_n hx hb dX4_save_14 rfl (lv_at hl 1 rfl) ?_
    have hi := h.1
    have h := h.2
    have k_4 := kd_L _ (vp_lt hi)
    refine x_aldL C w hi dX4_save_15 ?_
    refine lv_aload_n hx hb dX4_save_16 rfl (lv_at hl 0 rfl) ?_
    refine x_getX C w (k := 0) (v := .ref (ad 1)) (by decide) rfl mf_StairBows_10 dX4_save_17 ?_
    refine x_callv C w (x_runV (i := (231 + 28 * a1.toNatClampNeg)) (As := [.ref (ad 1)]) (rest := []) C w k_4 (by decide) (ci := 3) rfl rfl rfl me_X3_takeFrom ml_StairBows_135 (c_X3_takeFrom l g ad m_1 _ (231 + 28 * a1.toNatClampNeg) k_4 1 (rfl : kd 1 = 9) h) ⟨rfl, rfl⟩ ⟨Nat.le_of_ble_eq_true rfl, Nat.le_of_ble_eq_true rfl⟩ rfl hl.1 rfl (Nat.le_of_ble_eq_true rfl) dX4_save_20 ⟨Nat.le_of_ble_eq_true rfl, Nat.le_of_ble_eq_true rfl⟩) (fun m_5 h H locs w => ?_)
    refine lv_aload_n hx hb dX4_save_23 rfl (lv_at hl 0 rfl) ?_
    refine x_getX C w (k := 4) (v := .ref (ad 228)) (by decide) rfl mf_StairBows_30 dX4_save_24 ?_
    refine lv_iload_n hx hb dX4_save_27 rfl (lv_at hl 1 rfl) ?_
    refine lv_iconst (v := 1) hx hb dX4_save_28 (by decide) ?_
    refine x_zast C w (show bz 1 from Or.inr rfl) (show vp_in a1 2 from h.1) dX4_save_29 (fun m_6 e_7 H locs w => ?_)
    have h := h.2 m_6 e_7
    refine lv_aload_n hx hb dX4_save_30 rfl (lv_at hl 0 rfl) ?_
    refine x_getX C w (k := 0) (v := .ref (ad 1)) (by decide) rfl mf_StairBows_10 dX4_save_31 ?_
    refine x_getS C w (i := 1) (k := 5) (v := .int (m_6 1 5)) (rfl : kd 1 = 9) (by decide) rfl mf_StairBows_117 dX4_save_34 ?_
    exact x_iret C w h dX4_save_37
  · have h := h.2 c_3
    refine lv_bipush (v := -2) hx hb dX4_save_7 (by decide) ?_
    exact x_iret C w h dX4_save_9
abbrev rm_X4_restore : Room := { frames := 3, cells := 0, slots := 0, locals := 73 }
noncomputable def wp_X4_restore (a1 : Int32) (μ : Mem) (K : Int32 → Mem → Prop) : Prop :=
    (wp_X4_isSlot a1 μ (fun r_2 m_1 => ((¬ r_2 = 0 → (vp_in a1 2 ∧ ((¬ (m_1 228 a1.toNatClampNeg) = 0 → (wp_X0_keep 1 m_1 (fun m_5 => (vp_in a1 2 ∧ (wp_X3_takeFrom 1 (231 + 28 * a1.toNatClampNeg) m_5 (fun m_7 => K (m_7 1 5) m_7)))))) ∧ ((m_1 228 a1.toNatClampNeg) = 0 → K (-5) m_1)))) ∧ (r_2 = 0 → K (-2) m_1))))
set_option maxHeartbeats 4000000 in
set_option maxRecDepth 100000 in
theorem c_X4_restore (l : Launch) (g : Gv) (ad : Nat → Nat) (μ : Mem) (sz : Nat) (a1 : Int32) {K : Int32 → Mem → Prop} (h : wp_X4_restore a1 μ K) : Met l yX4_restore (wX yX4_restore cX4_restore 2 (some .int)) rm_X4_restore (Pre g ad μ sz [.ref (ad 0), .int a1]) (PostI g ad sz K) 0 0 (Aw ad sz) := by
  refine Met.ofW (cc := cX4_restore) (maxL := 2) (ret := (some .int)) (by decide) rfl ?_
  intro p e s m args below meth c s₁ B hml hv
  obtain ⟨rfl, rfl, C, w⟩ := x_start B hml hv
  obtain ⟨hx, hb, hml, -, hts, hown, -, -, hN⟩ := id C
  have hl := lv_entry ([.ref (ad 0), .int a1]) (n := 2) (Nat.le_of_ble_eq_true rfl)
  rw [lg_entry_eq]
  generalize (lg_sl ([.ref (ad 0), .int a1]) ++ List.replicate (2 - (lg_sl ([.ref (ad 0), .int a1])).length) Slot.unset).toArray = ls at hl ⊢
  have hl : lv_has ls 2 [(0, .ref (ad 0)), (1, .int a1)] := hl
  show W p l e rm_X4_restore s m _ below meth c s.heap [] 0 0 _ _
  unfold wp_X4_restore at h
  refine lv_iload_n hx hb dX4_restore_0 rfl (lv_at hl 1 rfl) ?_
  refine x_calli C w (x_runS (As := [.int a1]) (rest := []) C w me_X4_isSlot ml_StairBows_162 (c_X4_isSlot l g ad μ _ a1 h) ⟨rfl, rfl⟩ ⟨Nat.le_of_ble_eq_true rfl, Nat.le_of_ble_eq_true rfl⟩ rfl hl.1 rfl (Nat.le_of_ble_eq_true rfl) dX4_restore_1 ⟨Nat.le_of_ble_eq_true rfl, Nat.le_of_ble_eq_true rfl⟩) (fun r_2 m_1 h H locs w => ?_)
  refine lv_if_ne (tgt := 10) hx hb dX4_restore_4 (by decide) (fun c_3 => ?_) (fun c_3 => ?_)
  · have h := h.1 c_3
    refine lv_aload_n hx hb dX4_restore_10 rfl (lv_at hl 0 rfl) ?_
    refine x_getX C w (k := 4) (v := .ref (ad 228)) (by decide) rfl mf_StairBows_30 dX4_restore_11 ?_
    refine lv_iload_n hx hb dX4_restore_14 rfl (lv_at hl 1 rfl) ?_
    refine x_zald C w (show vp_in a1 2 from h.1) dX4_restore_15 ?_
    have h := h.2
    refine lv_if_ne (tgt := 22) hx hb dX4_restore_16 (by decide) (fun c_4 => ?_) (fun c_4 => ?_)
    · have h := h.1 c_4
      refine lv_aload_n hx hb dX4_restore_22 rfl (lv_at hl 0 rfl) ?_
      refine x_getX C w (k := 2) (v := .ref (ad 57)) (by decide) rfl mf_StairBows_22 dX4_restore_23 ?_
      refine lv_aload_n hx hb dX4_restore_26 rfl (lv_at hl 0 rfl) ?_
      refine x_getX C w (k := 0) (v := .ref (ad 1)) (by decide) rfl mf_StairBows_10 dX4_restore_27 ?_
      refine x_callv C w (x_runV (i := 57) (As := [.ref (ad 1)]) (rest := []) C w (rfl : kd 57 = 1) (by decide) (ci := 0) rfl rfl rfl me_X0_keep ml_StairBows_56 (c_X0_keep l g ad m_1 _ 1 (rfl : kd 1 = 9) h) ⟨rfl, rfl⟩ ⟨Nat.le_of_ble_eq_true rfl, Nat.le_of_ble_eq_true rfl⟩ rfl hl.1 rfl (Nat.le_of_ble_eq_true rfl) dX4_restore_30 ⟨Nat.le_of_ble_eq_true rfl, Nat.le_of_ble_eq_true rfl⟩) (fun m_5 h H locs w => ?_)
      refine lv_aload_n hx hb dX4_restore_33 rfl (lv_at hl 0 rfl) ?_
      refine x_getX C w (k := 0) (v := .ref (ad 1)) (by decide) rfl mf_StairBows_10 dX4_restore_34 ?_
      refine lv_aload_n hx hb dX4_restore_37 rfl (lv_at hl 0 rfl) ?_
      refine x_getX C w (k := 3) (v := .ref (ad 227)) (by decide) rfl mf_StairBows_26 dX4_restore_38 ?_
      refine lv_iload_n hx hb dX4_restore_41 rfl (lv_at hl 1 rfl) ?_
      have hi := h.1
      have h := h.2
      have k_6 := kd_L _ (vp_lt hi)
      refine x_aldL C w hi dX4_restore_42 ?_
      refine x_callv C w (x_runV (i := 1) (As := [.ref (ad (231 + 28 * a1.toNatClampNeg))]) (rest := []) C w (rfl : kd 1 = 9) (by decide) (ci := 3) rfl rfl rfl me_X3_takeFrom ml_StairBows_135 (c_X3_takeFrom l g ad m_5 _ 1 (rfl : kd 1 = 9) (231 + 28 * a1.toNatClampNeg) k_6 h) ⟨rfl, rfl⟩ ⟨Nat.le_of_ble_eq_true rfl, Nat.le_of_ble_eq_true rfl⟩ rfl hl.1 rfl (Nat.le_of_ble_eq_true rfl) dX4_restore_43 ⟨Nat.le_of_ble_eq_true rfl, Nat.le_of_ble_eq_true rfl⟩) (fun m_7 h H locs w => ?_)
      refine lv_aload_n hx hb dX4_restore_46 rfl (lv_at hl 0 rfl) ?_
      refine x_getX C w (k := 0) (v := .ref (ad 1)) (by decide) rfl mf_StairBows_10 dX4_restore_47 ?_
      refine x_getS C w (i := 1) (k := 5) (v := .int (m_7 1 5)) (rfl : kd 1 = 9) (by decide) rfl mf_StairBows_117 dX4_restore_50 ?_
      exact x_iret C w h dX4_restore_53
    · have h := h.2 c_4
      refine lv_bipush (v := -5) hx hb dX4_restore_19 (by decide) ?_
      exact x_iret C w h dX4_restore_21
  · have h := h.2 c_3
    refine lv_bipush (v := -2) hx hb dX4_restore_7 (by decide) ?_
    exact x_iret C w h dX4_restore_9
end
section
/-! WHAT A TICK IS, over rows of nine numbers: A 0 the staircase's, A (p + 1) the person p's (9: what it did) -/
theorem fa_lt (a b : Int32) : a < b ↔ a.toInt < b.toInt := Int32.lt_iff_toInt_lt
theorem fa_le (a b : Int32) : a ≤ b ↔ a.toInt ≤ b.toInt := Int32.le_iff_toInt_le
theorem fa_eq (a b : Int32) : a = b ↔ a.toInt = b.toInt := Int32.toInt_inj.symm
theorem fa_lt64 (a b : Int64) : a < b ↔ a.toInt < b.toInt := Int64.lt_iff_toInt_lt
theorem fa_le64 (a b : Int64) : a ≤ b ↔ a.toInt ≤ b.toInt := Int64.le_iff_toInt_le
theorem up2_app (μ : Mem) (i k : Nat) (v : Int32) (a b : Nat) : up2 μ i k v a b = if a = i ∧ b = k then v else μ a b := by
  unfold up2 upd
  by_cases h : a = i
  · subst h
    by_cases h2 : b = k <;> simp [h2]
  · simp [h]
abbrev stp (x : Int32) : Prop := ¬ x < 0 ∧ ¬ 12 ≤ x
def cntA (A : Mem) (s : Int32) : Nat → Nat
  | 0 => 0
  | n + 1 => cntA A s n + (if A (n + 1) 2 = 1 ∧ A (n + 1) 3 = s then 1 else 0)
abbrev lndA (A : Mem) (s : Int32) : Prop := ((A 0 5 >>> (s &&& 31)) &&& 1) = 1
def roomA (A : Mem) (n : Nat) (s : Int32) : Int32 := (if lndA A s then A 0 0 else 1) - nI (cntA A s n)
def wayA (A : Mem) (p : Nat) : Int32 := if A (p + 1) 1 = 1 then 1 else -1
def nextA (A : Mem) (p : Nat) : Int32 := if A (p + 1) 2 = 0 then (if A (p + 1) 1 = 1 then 0 else 11) else A (p + 1) 3 + wayA A p
abbrev yldA (A : Mem) (o p : Nat) : Prop := ¬ A (o + 1) 1 = A (p + 1) 1 ∧ (A (o + 1) 0 < A (p + 1) 0 ∨ (A (o + 1) 0 = A (p + 1) 0 ∧ A (p + 1) 1 = 0)) ∧ ¬ A (p + 1) 8 < A 0 2
def yrP (A : Mem) (n : Nat) : Option Nat → Option Nat
  | none => some n
  | some q => if A (n + 1) 0 < A (q + 1) 0 then some n else some q
def yrA (A : Mem) (s : Int32) (p : Nat) : Nat → Option Nat
  | 0 => none
  | n + 1 => if (A (n + 1) 2 = 1 ∧ A (n + 1) 3 = s) ∧ yldA A n p then yrP A n (yrA A s p n) else yrA A s p n
def oI : Option Nat → Int32
  | none => -6
  | some q => nI q
def endsA (A : Mem) (p : Nat) (w : Int32) : Mem := up2 (up2 (up2 (up2 (up2 A (p + 1) 2 w) (p + 1) 3 (-6)) (p + 1) 7 (A 0 3 + 1)) (p + 1) 8 0) (p + 1) 9 (if w = 2 then 2 else 5)
def goesA (A : Mem) (p : Nat) (s d : Int32) : Mem := up2 (up2 (up2 (up2 A (p + 1) 2 1) (p + 1) 3 s) (p + 1) 8 0) (p + 1) 9 d
def bwA (A : Mem) (o p : Nat) : Int32 := A 0 1 * ((A (p + 1) 0 - A (o + 1) 0) + 1)
def bowA (A : Mem) (o p : Nat) : Mem := up2 (up2 (up2 (up2 A (o + 1) 6 (A (o + 1) 6 + bwA A o p)) (o + 1) 5 (A (o + 1) 5 + 1)) 0 6 (A 0 6 + bwA A o p)) 0 7 (A 0 7 + 1)
def waysA (A : Mem) (o p n : Nat) : Option Mem :=
  if stp (A (o + 1) 3 + wayA A p) then
    (if 0 < roomA A n (A (o + 1) 3 + wayA A p) then some (goesA (bowA A o p) o (A (o + 1) 3 + wayA A p) 4) else none)
  else some (endsA (bowA A o p) o 3)
def staysA (A : Mem) (p : Nat) : Mem := up2 (up2 (up2 (up2 A (p + 1) 4 (A (p + 1) 4 + 1)) (p + 1) 8 (A (p + 1) 8 + 1)) 0 8 (A 0 8 + 1)) (p + 1) 9 3
def wyA (A : Mem) (p : Nat) (nx : Int32) : Option Mem → Mem
  | none => staysA A p
  | some B => goesA B p nx 1
def ylA (A : Mem) (p n : Nat) (nx : Int32) : Option Nat → Mem
  | none => staysA A p
  | some o => wyA A p nx (waysA A o p n)
def actsA (A : Mem) (p n : Nat) : Mem :=
  if stp (nextA A p) then
    (if 0 < roomA A n (nextA A p) then goesA A p (nextA A p) 1 else ylA A p n (nextA A p) (yrA A (nextA A p) p n))
  else endsA A p 2
theorem br_nt {c A B : Prop} (h : ¬ c) (a : A) : (¬ c → A) ∧ (c → B) := ⟨fun _ => a, fun z => absurd z h⟩
theorem br_nf {c A B : Prop} (h : c) (b : B) : (¬ c → A) ∧ (c → B) := ⟨fun z => absurd h z, fun _ => b⟩
def stepA (A : Mem) (r : Int32) (p n : Nat) : Mem := if A (p + 1) 0 = r ∧ A (p + 1) 2 < 2 ∧ A (p + 1) 9 = 0 then actsA A p n else A
def rowsA (A : Mem) (r : Int32) (n : Nat) : Nat → Mem
  | 0 => A
  | p + 1 => stepA (rowsA A r n p) r p n
def ranksA (A : Mem) (n : Nat) : Nat → Mem
  | 0 => A
  | k + 1 => rowsA (ranksA A n k) (nI (9 - k)) n n
def clearA (A : Mem) : Mem := fun i k => if k = 9 ∧ 1 ≤ i ∧ i ≤ 24 then 0 else A i k
def tickA (A : Mem) (n : Nat) : Mem := up2 (ranksA (clearA A) n 9) 0 3 (ranksA (clearA A) n 9 0 3 + 1)
/-! ===== the reference's memory holds A ===== -/
def rowA (A : Mem) : Nat → Int32 := fun j => A (j / 9) (j % 9)
def didA (A : Mem) : Nat → Int32 := fun p => A (p + 1) 9
theorem rowA_at (A : Mem) (i k : Nat) (hk : k < 9) : rowA A (9 * i + k) = A i k := by
  unfold rowA
  rw [show (9 * i + k) / 9 = i by omega, show (9 * i + k) % 9 = k by omega]
theorem lt12 (x : Int32) : 11 < x ↔ 12 ≤ x := by
  rw [fa_lt, fa_le]
  show (11 : Int) < _ ↔ (12 : Int) ≤ _
  omega
theorem ixA {p k : Nat} {a1 a2 : Int32} (h1 : a1 = nI p) (h2 : a2 = nI k) : (9 + (9 * a1)) + a2 = nI (9 * (p + 1) + k) := by
  subst h1 h2
  show (nI 9 + (nI 9 * nI p)) + nI k = _
  rw [pk_mul, nI_add, nI_add, show 9 + 9 * p + k = 9 * (p + 1) + k by omega]
theorem nI_addz (c : Nat) : nI c + 0 = nI c := by rw [show (0 : Int32) = nI 0 from rfl, nI_add, Nat.add_zero]
theorem yrA_lt {A : Mem} {s : Int32} {p : Nat} : ∀ {n q : Nat}, yrA A s p n = some q → q < n ∧ (A (q + 1) 2 = 1 ∧ A (q + 1) 3 = s) ∧ yldA A q p
  | 0, q, h => by simp [yrA] at h
  | n + 1, q, h => by
    unfold yrA at h
    split at h
    · rename_i hc
      cases hy : yrA A s p n with
      | none =>
        rw [hy] at h
        simp only [yrP, Option.some.injEq] at h
        subst h
        exact ⟨by omega, hc⟩
      | some q2 =>
        rw [hy] at h
        simp only [yrP] at h
        split at h
        · simp only [Option.some.injEq] at h
          subst h
          exact ⟨by omega, hc⟩
        · simp only [Option.some.injEq] at h
          subst h
          have := yrA_lt hy
          exact ⟨by omega, this.2⟩
    · have := yrA_lt h
      exact ⟨by omega, this.2⟩
theorem oI_ne {q : Nat} (h : q < 24) : ¬ nI q = (-6 : Int32) := by
  intro e
  have h1 : (nI q).toInt = (-6 : Int32).toInt := by rw [e]
  rw [nI_toInt (by omega)] at h1
  have h2 : (-6 : Int32).toInt = -6 := by decide
  omega
theorem n_le0 {x : Int32} (h : 0 < x) : ¬ x ≤ 0 := by rw [fa_lt] at h; rw [fa_le]; omega
theorem n_lt0 {x : Int32} (h : ¬ 0 < x) : x ≤ 0 := by rw [fa_lt] at h; rw [fa_le]; omega
/-- the number of people stays through a deed -/
theorem keep04_up {A : Mem} {i k : Nat} {v : Int32} (h : ¬ (0 = i ∧ 4 = k)) : up2 A i k v 0 4 = A 0 4 := by rw [up2_app, if_neg h]
theorem goesA_04 (A : Mem) (p : Nat) (s d : Int32) : goesA A p s d 0 4 = A 0 4 := by simp [goesA, up2_app]
theorem endsA_04 (A : Mem) (p : Nat) (w : Int32) : endsA A p w 0 4 = A 0 4 := by simp [endsA, up2_app]
theorem bowA_04 (A : Mem) (o p : Nat) : bowA A o p 0 4 = A 0 4 := by simp [bowA, up2_app]
theorem staysA_04 (A : Mem) (p : Nat) : staysA A p 0 4 = A 0 4 := by simp [staysA, up2_app]
theorem waysA_04 {A B : Mem} {o p n : Nat} (h : waysA A o p n = some B) : B 0 4 = A 0 4 := by
  unfold waysA at h
  split at h
  · split at h
    · cases h; rw [goesA_04, bowA_04]
    · cases h
  · cases h; rw [endsA_04, bowA_04]
theorem actsA_04 (A : Mem) (p n : Nat) : actsA A p n 0 4 = A 0 4 := by
  unfold actsA
  split
  · split
    · rw [goesA_04]
    · cases hy : yrA A (nextA A p) p n with
      | none => simp only [ylA]; rw [staysA_04]
      | some o =>
        simp only [ylA]
        cases hw : waysA A o p n with
        | none => simp only [wyA]; rw [staysA_04]
        | some B => simp only [wyA]; rw [goesA_04, waysA_04 hw]
  · rw [endsA_04]
theorem stepA_04 (A : Mem) (r : Int32) (p n : Nat) : stepA A r p n 0 4 = A 0 4 := by
  unfold stepA
  split
  · rw [actsA_04]
  · rfl
theorem rowsA_04 (A : Mem) (r : Int32) (n : Nat) : ∀ p, rowsA A r n p 0 4 = A 0 4
  | 0 => rfl
  | p + 1 => by rw [rowsA, stepA_04, rowsA_04]
theorem ranksA_04 (A : Mem) (n : Nat) : ∀ k, ranksA A n k 0 4 = A 0 4
  | 0 => rfl
  | k + 1 => by rw [ranksA, rowsA_04, ranksA_04]
theorem clearA_04 (A : Mem) : clearA A 0 4 = A 0 4 := by simp [clearA]
theorem tickA_04 (A : Mem) (n : Nat) : tickA A n 0 4 = A 0 4 := by simp [tickA, up2_app, ranksA_04, clearA_04]
theorem lt2 (x : Int32) : ¬ 2 ≤ x ↔ x < 2 := by rw [fa_le, fa_lt]; omega
def clrA (A : Mem) (j : Nat) : Mem := fun i k => if k = 9 ∧ 1 ≤ i ∧ i ≤ j then 0 else A i k
theorem clrA_s (A : Mem) (j : Nat) : up2 (clrA A j) (j + 1) 9 0 = clrA A (j + 1) := by
  funext a b
  rw [up2_app]
  unfold clrA
  by_cases h : a = j + 1 ∧ b = 9
  · rw [if_pos h, if_pos ⟨h.2, by omega, by omega⟩]
  · rw [if_neg h]
    by_cases h2 : b = 9 ∧ 1 ≤ a ∧ a ≤ j
    · rw [if_pos h2, if_pos ⟨h2.1, h2.2.1, by omega⟩]
    · rw [if_neg h2, if_neg (by omega)]
end
section
/-! THE CLASS'S STAIRCASE at place b: its 28 rows S -/
def getS (b : Nat) (μ : Mem) : Mem := fun o => μ (b + o)
def putS (b : Nat) (S μ : Mem) : Mem := fun a => if b ≤ a ∧ a < b + 28 then S (a - b) else μ a
theorem putS_at (b : Nat) (S μ : Mem) {o : Nat} (h : o < 28) : putS b S μ (b + o) = S o := by
  unfold putS
  rw [if_pos ⟨by omega, by omega⟩, show b + o - b = o by omega]
theorem putS_b (b : Nat) (S μ : Mem) : putS b S μ b = S 0 := putS_at b S μ (o := 0) (by omega)
theorem putS_P (b : Nat) (S μ : Mem) {p : Nat} (h : p < 24) : putS b S μ (b + 2 + 2 + p) = S (4 + p) := by
  rw [show b + 2 + 2 + p = b + (4 + p) by omega]
  exact putS_at b S μ (by omega)
theorem putS_ne (b : Nat) (S μ : Mem) {a : Nat} (h : ¬ (b ≤ a ∧ a < b + 28)) : putS b S μ a = μ a := by unfold putS; rw [if_neg h]
theorem putS_R (b : Nat) (S μ : Mem) {o : Nat} (h : o < 28) (f : Nat → Int32) : upR (putS b S μ) (b + o) f = putS b (upR S o f) μ := by
  funext a
  unfold upR putS
  by_cases ha : a = b + o
  · subst ha
    rw [if_pos rfl, if_pos ⟨by omega, by omega⟩]
    dsimp only
    rw [if_pos (by omega)]
  · rw [if_neg ha]
    by_cases h2 : b ≤ a ∧ a < b + 28
    · rw [if_pos h2, if_pos h2]
      dsimp only
      rw [if_neg (by omega)]
    · rw [if_neg h2, if_neg h2]
theorem putS_up (b : Nat) (S μ : Mem) {o : Nat} (h : o < 28) (k : Nat) (v : Int32) : up2 (putS b S μ) (b + o) k v = putS b (up2 S o k v) μ := by
  have h1 := putS_R b S μ h (upd (S o) k v)
  have e1 : up2 (putS b S μ) (b + o) k v = upR (putS b S μ) (b + o) (upd (S o) k v) := by
    unfold up2 upR
    rw [putS_at b S μ h]
  rw [e1, h1]
  rfl
theorem putS_up0 (b : Nat) (S μ : Mem) (k : Nat) (v : Int32) : up2 (putS b S μ) b k v = putS b (up2 S 0 k v) μ := putS_up b S μ (o := 0) (by omega) k v
theorem putS_upP (b : Nat) (S μ : Mem) {p : Nat} (h : p < 24) (k : Nat) (v : Int32) : up2 (putS b S μ) (b + 2 + 2 + p) k v = putS b (up2 S (4 + p) k v) μ := by
  rw [show b + 2 + 2 + p = b + (4 + p) by omega]
  exact putS_up b S μ (by omega) k v
theorem putS_get (b : Nat) (μ : Mem) : putS b (getS b μ) μ = μ := by
  funext a
  unfold putS getS
  by_cases h2 : b ≤ a ∧ a < b + 28
  · rw [if_pos h2, show b + (a - b) = a by omega]
  · rw [if_neg h2]
theorem getS_put (b : Nat) (S μ : Mem) {o : Nat} (h : o < 28) : getS b (putS b S μ) o = S o := putS_at b S μ h
theorem putS_put (b : Nat) (S T μ : Mem) : putS b S (putS b T μ) = putS b S μ := by
  funext a
  unfold putS
  by_cases h2 : b ≤ a ∧ a < b + 28
  · rw [if_pos h2, if_pos h2]
  · rw [if_neg h2, if_neg h2, if_neg h2]
/-- a person's row in the class, and in A -/
def RelP (f a : Nat → Int32) : Prop :=
  (f 0 = a 0 ∧ f 1 = a 1 ∧ f 2 = a 2 ∧ f 4 = a 4 ∧ f 5 = a 5 ∧ f 6 = a 6 ∧ f 8 = a 8) ∧ (a 2 = 1 → f 3 = a 3) ∧ (¬ a 2 = 1 → a 3 = -6) ∧ (a 2 = 0 → f 3 = if a 1 = 1 then -1 else 12) ∧ ((a 2 = 0 ∨ a 2 = 1) → a 7 = -6) ∧ (¬ (a 2 = 0 ∨ a 2 = 1) → f 7 = a 7)
def OkP (a : Nat → Int32) : Prop := (a 1 = 0 ∨ a 1 = 1) ∧ (∃ r : Nat, 1 ≤ r ∧ r ≤ 9 ∧ a 0 = nI r) ∧ (a 2 = 0 ∨ a 2 = 1 ∨ a 2 = 2 ∨ a 2 = 3) ∧ (a 2 = 1 → ∃ s : Nat, s < 12 ∧ a 3 = nI s)
def RelC (S A : Mem) (n : Nat) : Prop :=
  n ≤ 24 ∧ A 0 4 = nI n ∧ S 0 4 = nI n ∧ S 0 3 = A 0 5 ∧ S 0 5 = A 0 3 ∧ (∀ k, k < 3 → S 1 k = A 0 k) ∧ (∀ s, s < 12 → S 3 s = nI (cntA A (nI s) n)) ∧ ∀ p, p < n → RelP (S (4 + p)) (A (p + 1))
def RelD (S A : Mem) (n : Nat) : Prop := ∀ p, p < n → S (4 + p) 9 = A (p + 1) 9
def OkA (A : Mem) (n : Nat) : Prop := ∀ p, p < n → OkP (A (p + 1))
theorem stp_of {s : Nat} (h : s < 12) : stp (nI s) := ⟨nI_pos (by omega), nI_ge (b := 12) (by omega) (by omega)⟩
theorem stp_ex {x : Int32} (h : stp x) : ∃ s : Nat, s < 12 ∧ x = nI s := by
  obtain ⟨j, hj, rfl⟩ := nI_of h.1
  refine ⟨j, ?_, rfl⟩
  rcases Nat.lt_or_ge j 12 with q | q
  · exact q
  · exact absurd (nI_le (a := 12) q hj) h.2
theorem stp_in {x : Int32} (h : stp x) : vp_in x 12 := by
  obtain ⟨s, hs, rfl⟩ := stp_ex h
  exact vp_in_nI hs (by omega)
theorem nstp_1 : ¬ stp (-1) := by decide
theorem nstp_12 : ¬ stp 12 := by decide
/-! ===== small methods ===== -/
theorem c_isStep {x : Int32} {μ : Mem} {K : Int32 → Mem → Prop} (h1 : stp x → K 1 μ) (h0 : ¬ stp x → K 0 μ) : wp_X4_isStep x μ K := by
  unfold wp_X4_isStep
  exact ⟨fun q => h0 (fun z => z.1 q), fun q => ⟨fun q2 => h0 (fun z => z.2 q2), fun q2 => h1 ⟨q, q2⟩⟩⟩
theorem c_isLanding {b : Nat} {x : Int32} {S μ A : Mem} {K : Int32 → Mem → Prop} (hL : S 0 3 = A 0 5) (h1 : lndA A x → K 1 (putS b S μ)) (h0 : ¬ lndA A x → K 0 (putS b S μ)) : wp_X3_isLanding b x (putS b S μ) K := by
  unfold wp_X3_isLanding
  rw [putS_b, hL]
  exact ⟨h0, h1⟩
theorem c_crowdOn {b n : Nat} {x : Int32} {S μ A : Mem} {K : Int32 → Mem → Prop} (hR : RelC S A n) (hx : stp x) (h : K (nI (cntA A x n)) (putS b S μ)) : wp_X3_crowdOn b x (putS b S μ) K := by
  unfold wp_X3_crowdOn
  refine c_isStep (fun _ => br_f (by decide) ⟨stp_in hx, ?_⟩) (fun z => absurd hx z)
  obtain ⟨s, hs, rfl⟩ := stp_ex hx
  rw [putS_at b S μ (by omega), nI_clamp (by omega), hR.2.2.2.2.2.2.1 s hs]
  exact h
theorem c_roomOn {b n : Nat} {x : Int32} {S μ A : Mem} {K : Int32 → Mem → Prop} (hR : RelC S A n) (hx : stp x) (h : K (roomA A n x) (putS b S μ)) : wp_X3_roomOn b x (putS b S μ) K := by
  unfold wp_X3_roomOn
  unfold roomA at h
  refine c_isLanding hR.2.2.2.1 (fun q => br_f (by decide) ?_) (fun q => br_t rfl ?_)
  · rw [if_pos q] at h
    refine c_crowdOn hR hx ?_
    rw [putS_at b S μ (by omega), hR.2.2.2.2.2.1 0 (by omega)]
    exact h
  · rw [if_neg q] at h
    exact c_crowdOn hR hx h
theorem c_isOnWay {q : Nat} {μ : Mem} {K : Int32 → Mem → Prop} (h1 : (μ q 2 = 0 ∨ μ q 2 = 1) → K 1 μ) (h0 : ¬ (μ q 2 = 0 ∨ μ q 2 = 1) → K 0 μ) : wp_X2_isOnWay q μ K := by
  unfold wp_X2_isOnWay
  exact ⟨fun z => h1 (Or.inl z), fun z => ⟨fun z2 => h0 (fun y => y.elim z z2), fun z2 => h1 (Or.inr z2)⟩⟩
theorem c_standsOn {q : Nat} {x : Int32} {μ : Mem} {K : Int32 → Mem → Prop} (h1 : (μ q 2 = 1 ∧ μ q 3 = x) → K 1 μ) (h0 : ¬ (μ q 2 = 1 ∧ μ q 3 = x) → K 0 μ) : wp_X2_standsOn q x μ K := by
  unfold wp_X2_standsOn
  exact ⟨fun z => h0 (fun y => z y.1), fun z => ⟨fun z2 => h0 (fun y => z2 y.2), fun z2 => h1 ⟨z, z2⟩⟩⟩
/-- on a step x: in the class as in A -/
theorem at_iff {f a : Nat → Int32} {x : Int32} (h : RelP f a) : (f 2 = 1 ∧ f 3 = x) ↔ (a 2 = 1 ∧ a 3 = x) := by
  rw [h.1.2.2.1]
  exact ⟨fun z => ⟨z.1, by rw [← h.2.1 z.1]; exact z.2⟩, fun z => ⟨z.1, by rw [h.2.1 z.1]; exact z.2⟩⟩
theorem c_nextStep {b n p : Nat} {S μ A : Mem} {K : Int32 → Mem → Prop} (hR : RelC S A n) (hO : OkA A n) (hp : p < n) (hw : A (p + 1) 2 = 0 ∨ A (p + 1) 2 = 1) (h : K (nextA A p) (putS b S μ)) : wp_X2_nextStep (b + 2 + 2 + p) (putS b S μ) K := by
  have hn := hR.1
  obtain ⟨⟨-, f1, -⟩, g1, -, g3, -⟩ := hR.2.2.2.2.2.2.2 p hp
  unfold wp_X2_nextStep
  rw [putS_P b S μ (by omega), f1]
  unfold nextA wayA at h
  rcases (hO p hp).1 with hu | hu
  · refine br_t hu ?_
    have hu1 : ¬ A (p + 1) 1 = 1 := by rw [hu]; decide
    rcases hw with hw | hw
    · rw [if_pos hw, if_neg hu1] at h
      rw [g3 hw, if_neg hu1, show (12 : Int32) - 1 = 11 by decide]
      exact h
    · rw [if_neg (by rw [hw]; decide), if_neg hu1] at h
      rw [g1 hw, Int32.sub_eq_add_neg]
      exact h
  · refine br_f (by rw [hu]; decide) ?_
    rcases hw with hw | hw
    · rw [if_pos hw, if_pos hu] at h
      rw [g3 hw, if_pos hu, show (-1 : Int32) + 1 = 0 by decide]
      exact h
    · rw [if_neg (by rw [hw]; decide), if_pos hu] at h
      rw [g1 hw]
      exact h
/-- a step against the own way is a step on the other's way -/
theorem c_stepBehind {b n o p : Nat} {S μ A : Mem} {K : Int32 → Mem → Prop} (hR : RelC S A n) (hO : OkA A n) (ho : o < n) (hp : p < n) (hw : A (o + 1) 2 = 1) (hne : ¬ A (o + 1) 1 = A (p + 1) 1) (h : K (A (o + 1) 3 + wayA A p) (putS b S μ)) : wp_X2_stepBehind (b + 2 + 2 + o) (putS b S μ) K := by
  have hn := hR.1
  obtain ⟨⟨-, f1, -⟩, g1, -⟩ := hR.2.2.2.2.2.2.2 o ho
  unfold wp_X2_stepBehind
  rw [putS_P b S μ (by omega), f1, g1 hw]
  unfold wayA at h
  rcases (hO o ho).1 with hu | hu <;> rcases (hO p hp).1 with hv | hv
  · exact absurd (hu.trans hv.symm) hne
  · rw [if_pos hv] at h
    exact br_t hu h
  · rw [if_neg (by rw [hv]; decide)] at h
    refine br_f (by rw [hu]; decide) ?_
    rw [Int32.sub_eq_add_neg]
    exact h
  · exact absurd (hu.trans hv.symm) hne
/-! ===== counting ===== -/
abbrev a1A (A : Mem) (p : Nat) (s : Int32) : Nat := if A (p + 1) 2 = 1 ∧ A (p + 1) 3 = s then 1 else 0
theorem cnt_congr {A B : Mem} {s : Int32} : ∀ {n : Nat}, (∀ q, q < n → B (q + 1) 2 = A (q + 1) 2 ∧ B (q + 1) 3 = A (q + 1) 3) → cntA B s n = cntA A s n
  | 0, _ => rfl
  | n + 1, h => by
    unfold cntA
    rw [cnt_congr (n := n) (fun q hq => h q (by omega)), (h n (by omega)).1, (h n (by omega)).2]
theorem cnt_mod {A B : Mem} {s : Int32} {p : Nat} : ∀ {n : Nat}, p < n → (∀ q, q < n → q ≠ p → B (q + 1) 2 = A (q + 1) 2 ∧ B (q + 1) 3 = A (q + 1) 3) → cntA B s n + a1A A p s = cntA A s n + a1A B p s
  | 0, h, _ => by omega
  | n + 1, h, hq => by
    by_cases hp : p = n
    · subst hp
      unfold cntA
      rw [cnt_congr (A := A) (B := B) (n := p) (fun q h2 => hq q (by omega) (by omega))]
      unfold a1A
      omega
    · have ih := cnt_mod (A := A) (B := B) (s := s) (p := p) (n := n) (by omega) (fun q h2 h3 => hq q (by omega) h3)
      unfold cntA
      rw [(hq n (by omega) (by omega)).1, (hq n (by omega) (by omega)).2]
      unfold a1A at ih ⊢
      omega
theorem cnt_pos {A : Mem} {s : Int32} {p : Nat} : ∀ {n : Nat}, p < n → a1A A p s ≤ cntA A s n
  | 0, h => by omega
  | n + 1, h => by
    unfold cntA
    by_cases hp : p = n
    · subst hp
      unfold a1A
      omega
    · have ih := cnt_pos (A := A) (s := s) (p := p) (n := n) (by omega)
      omega
theorem cnt_le {A : Mem} {s : Int32} : ∀ n : Nat, cntA A s n ≤ n
  | 0 => Nat.le_refl 0
  | n + 1 => by
    have ih := cnt_le (A := A) (s := s) n
    unfold cntA
    split <;> omega
/-! ===== bring ===== -/
def decS (S : Mem) (p : Nat) : Mem := if stp (S (4 + p) 3) then up2 S 3 (S (4 + p) 3).toNatClampNeg (S 3 (S (4 + p) 3).toNatClampNeg - 1) else S
def incS (S : Mem) (p : Nat) (to : Int32) : Mem := if stp to then up2 S 3 to.toNatClampNeg (S 3 to.toNatClampNeg + 1) else up2 S (4 + p) 7 (S 0 5 + 1)
def setS (S : Mem) (p : Nat) (to pl d : Int32) : Mem := up2 (up2 (up2 (up2 S (4 + p) 3 to) (4 + p) 2 pl) (4 + p) 9 d) (4 + p) 8 0
def bringS (S : Mem) (p : Nat) (to pl d : Int32) : Mem := setS (incS (decS S p) p to) p to pl d
theorem c_bring23 {b p : Nat} {to pl d : Int32} {S μ : Mem} {K : Mem → Prop} (hp : p < 24) (h : K (putS b (setS (incS S p to) p to pl d) μ)) : wp_X3_bring_B23 b (b + 2 + 2 + p) to pl d K (putS b S μ) := by
  unfold wp_X3_bring_B23
  unfold incS at h
  refine c_isStep (fun q => br_f (by decide) ?_) (fun q => br_t rfl ?_)
  · rw [if_pos q] at h
    refine ⟨stp_in q, stp_in q, nm_e ?_⟩
    rw [putS_at b S μ (by omega), putS_up b S μ (by omega)]
    refine nm_e ?_
    rw [putS_upP b _ μ hp]
    refine nm_e ?_
    rw [putS_upP b _ μ hp]
    refine nm_e ?_
    rw [putS_upP b _ μ hp]
    refine nm_e ?_
    rw [putS_upP b _ μ hp]
    exact h
  · rw [if_neg q] at h
    refine nm_e ?_
    rw [putS_b, putS_upP b _ μ hp]
    refine nm_e ?_
    rw [putS_upP b _ μ hp]
    refine nm_e ?_
    rw [putS_upP b _ μ hp]
    refine nm_e ?_
    rw [putS_upP b _ μ hp]
    refine nm_e ?_
    rw [putS_upP b _ μ hp]
    exact h
theorem c_bring {b p : Nat} {to pl d : Int32} {S μ : Mem} {K : Mem → Prop} (hp : p < 24) (h : K (putS b (bringS S p to pl d) μ)) : wp_X3_bring b (b + 2 + 2 + p) to pl d (putS b S μ) K := by
  unfold wp_X3_bring
  unfold bringS decS at h
  rw [putS_P b S μ hp]
  refine c_isStep (fun q => br_f (by decide) ?_) (fun q => br_t rfl ?_)
  · rw [if_pos q] at h
    rw [putS_P b S μ hp]
    refine ⟨stp_in q, stp_in q, nm_e ?_⟩
    rw [putS_at b S μ (by omega), putS_up b S μ (by omega)]
    exact c_bring23 hp h
  · rw [if_neg q] at h
    exact c_bring23 hp h
end
section
/-! THE CLASS'S TICK does to its staircase what tickA does to A -/
theorem decS_ne {S : Mem} {p i : Nat} (h : i ≠ 3) : decS S p i = S i := by
  unfold decS
  split
  · exact up2_ne _ _ _ _ h
  · rfl
theorem nI_inj {a b : Nat} (ha : a < 24) (hb : b < 24) (h : nI a = nI b) : a = b := (nI_eq (by omega) (by omega)).mp h
theorem rel_dec {S A : Mem} {n p : Nat} (hR : RelC S A n) (hO : OkA A n) (hp : p < n) (hw : A (p + 1) 2 = 0 ∨ A (p + 1) 2 = 1) : ∀ s, s < 12 → decS S p 3 s = nI (cntA A (nI s) n - a1A A p (nI s)) := by
  intro s hs
  have hn := hR.1
  obtain ⟨-, g1, -, g3, -⟩ := hR.2.2.2.2.2.2.2 p hp
  have hc := hR.2.2.2.2.2.2.1
  unfold decS
  rcases hw with hw | hw
  · have hns : ¬ stp (S (4 + p) 3) := by
      rw [g3 hw]
      split
      · exact nstp_1
      · exact nstp_12
    rw [if_neg hns, hc s hs]
    unfold a1A
    rw [if_neg (by rw [hw]; exact fun z => absurd z.1 (by decide)), Nat.sub_zero]
  · obtain ⟨t, ht, e⟩ := (hO p hp).2.2.2 hw
    rw [g1 hw, e, if_pos (stp_of ht), nI_clamp (by omega), up2_app, hc t ht]
    have hpos := cnt_pos (A := A) (s := nI s) hp
    unfold a1A at hpos ⊢
    by_cases hst : s = t
    · subst hst
      rw [if_pos ⟨rfl, rfl⟩]
      rw [if_pos ⟨hw, e⟩] at hpos ⊢
      rw [show (1 : Int32) = nI 1 from rfl, pk_sub hpos]
    · rw [if_neg (fun z => hst z.2), hc s hs, if_neg (fun z => hst (nI_inj (by omega) (by omega) (z.2.symm.trans e))), Nat.sub_zero]
theorem bring_row {S : Mem} {p i : Nat} {to pl d : Int32} (h3 : i ≠ 3) (hi : i ≠ 4 + p) : bringS S p to pl d i = S i := by
  unfold bringS setS incS
  rw [up2_ne _ _ _ _ hi, up2_ne _ _ _ _ hi, up2_ne _ _ _ _ hi, up2_ne _ _ _ _ hi]
  split
  · rw [up2_ne _ _ _ _ h3, decS_ne h3]
  · rw [up2_ne _ _ _ _ hi, decS_ne h3]
theorem bring_p {S : Mem} {p : Nat} {to pl d : Int32} (k : Nat) : bringS S p to pl d (4 + p) k = if k = 8 then 0 else if k = 9 then d else if k = 2 then pl else if k = 3 then to else if k = 7 then (if stp to then S (4 + p) 7 else S 0 5 + 1) else S (4 + p) k := by
  unfold bringS setS incS
  simp only [up2_app, true_and]
  by_cases h8 : k = 8
  · rw [if_pos h8, if_pos h8]
  · rw [if_neg h8, if_neg h8]
    by_cases h9 : k = 9
    · rw [if_pos h9, if_pos h9]
    · rw [if_neg h9, if_neg h9]
      by_cases h2 : k = 2
      · rw [if_pos h2, if_pos h2]
      · rw [if_neg h2, if_neg h2]
        by_cases h3 : k = 3
        · rw [if_pos h3, if_pos h3]
        · rw [if_neg h3, if_neg h3]
          by_cases hs : stp to
          · rw [if_pos hs, if_pos hs, up2_app, if_neg (by omega), decS_ne (by omega)]
            by_cases h7 : k = 7
            · rw [if_pos h7, h7]
            · rw [if_neg h7]
          · rw [if_neg hs, if_neg hs, up2_app, decS_ne (by omega), decS_ne (by omega)]
            by_cases h7 : k = 7
            · rw [if_pos ⟨rfl, h7⟩, if_pos h7]
            · rw [if_neg (fun z => h7 z.2), if_neg h7]
theorem bring_3 {S : Mem} {p s : Nat} {to pl d : Int32} (hs : s < 12) : bringS S p to pl d 3 s = if to = nI s then decS S p 3 s + 1 else decS S p 3 s := by
  unfold bringS setS incS
  rw [up2_ne _ _ _ _ (by omega), up2_ne _ _ _ _ (by omega), up2_ne _ _ _ _ (by omega), up2_ne _ _ _ _ (by omega)]
  by_cases ht : stp to
  · obtain ⟨t, h12, rfl⟩ := stp_ex ht
    rw [if_pos ht, nI_clamp (by omega), up2_app]
    by_cases h : s = t
    · subst h
      rw [if_pos ⟨rfl, rfl⟩, if_pos rfl]
    · rw [if_neg (fun z => h z.2), if_neg (fun z => h (nI_inj (by omega) (by omega) z).symm)]
  · rw [if_neg ht, up2_ne _ _ _ _ (by omega), if_neg (fun z : to = nI s => ht (by rw [z]; exact stp_of hs))]
/-- a person brought to another place: in the class, and in A -/
theorem rel_bring {S A B : Mem} {n p : Nat} {to pl d : Int32} (hR : RelC S A n) (hO : OkA A n) (hp : p < n) (hw : A (p + 1) 2 = 0 ∨ A (p + 1) 2 = 1) (h0 : ∀ k, k < 6 → B 0 k = A 0 k) (hq : ∀ q, q ≠ p → B (q + 1) = A (q + 1))
    (h2 : B (p + 1) 2 = pl) (h3 : B (p + 1) 3 = if pl = 1 then to else -6) (hpl : pl = 1 ∧ stp to ∨ (pl = 2 ∨ pl = 3) ∧ ¬ stp to) (h7 : B (p + 1) 7 = if pl = 1 then A (p + 1) 7 else A 0 3 + 1) (h8 : B (p + 1) 8 = 0) (hk : ∀ k, k < 7 → k ≠ 2 → k ≠ 3 → B (p + 1) k = A (p + 1) k) : RelC (bringS S p to pl d) B n := by
  obtain ⟨hn, r4, s4, s3, s5, rs, rc, rp⟩ := id hR
  refine ⟨hn, by rw [h0 4 (by omega), r4], by rw [bring_row (by omega) (by omega), s4], by rw [bring_row (by omega) (by omega), s3, h0 5 (by omega)], by rw [bring_row (by omega) (by omega), s5, h0 3 (by omega)], fun k hk3 => by rw [bring_row (by omega) (by omega), rs k hk3, h0 k (by omega)], fun s hs => ?_, fun q hqn => ?_⟩
  · rw [bring_3 hs, rel_dec hR hO hp hw s hs]
    have hm := cnt_mod (A := A) (B := B) (s := nI s) (p := p) hp (fun q _ hne => by rw [hq q hne]; exact ⟨rfl, rfl⟩)
    have hpos := cnt_pos (A := A) (s := nI s) hp
    have hb : a1A B p (nI s) = if to = nI s then 1 else 0 := by
      unfold a1A
      rw [h2, h3]
      rcases hpl with ⟨rfl, _⟩ | ⟨e, hns⟩
      · simp
      · rw [if_neg (fun z : to = nI s => hns (by rw [z]; exact stp_of hs)), if_neg]
        rcases e with rfl | rfl <;> exact fun z => absurd z.1 (by decide)
    rw [hb] at hm
    by_cases ht : to = nI s
    · rw [if_pos ht] at hm ⊢
      rw [nI_1]
      congr 1
      omega
    · rw [if_neg ht] at hm ⊢
      congr 1
      omega
  · by_cases e : q = p
    · subst e
      obtain ⟨⟨f0, f1, f2, f4, f5, f6, f8⟩, g1, g2, g3, g4, g5⟩ := rp q hqn
      refine ⟨⟨?_, ?_, ?_, ?_, ?_, ?_, ?_⟩, ?_, ?_, ?_, ?_, ?_⟩
      · rw [bring_p, hk 0 (by omega) (by omega) (by omega), ← f0]; simp
      · rw [bring_p, hk 1 (by omega) (by omega) (by omega), ← f1]; simp
      · rw [bring_p, h2]; simp
      · rw [bring_p, hk 4 (by omega) (by omega) (by omega), ← f4]; simp
      · rw [bring_p, hk 5 (by omega) (by omega) (by omega), ← f5]; simp
      · rw [bring_p, hk 6 (by omega) (by omega) (by omega), ← f6]; simp
      · rw [bring_p, h8]; simp
      · intro z
        rw [h2] at z
        rw [bring_p, h3, if_pos z]; simp
      · intro z
        rw [h2] at z
        rw [h3, if_neg z]
      · intro z
        rw [h2] at z
        rcases hpl with ⟨e, _⟩ | ⟨e | e, _⟩ <;> rw [e] at z <;> exact absurd z (by decide)
      · intro z
        rw [h2] at z
        rcases hpl with ⟨e, _⟩ | ⟨e | e, _⟩
        · rw [h7, if_pos e, g4 hw]
        · rw [e] at z; exact absurd z (by decide)
        · rw [e] at z; exact absurd z (by decide)
      · intro z
        rw [h2] at z
        rcases hpl with ⟨e, _⟩ | ⟨e, hns⟩
        · exact absurd (Or.inr e) z
        · rw [bring_p, h7, if_neg (fun y => z (Or.inr y)), if_neg hns, ← s5]; simp
    · rw [bring_row (by omega) (by omega), hq q e]
      exact rp q hqn
theorem reld_bring {S A B : Mem} {n p : Nat} {to pl d : Int32} (hD : RelD S A n) (hd : B (p + 1) 9 = d) (hq : ∀ q, q ≠ p → B (q + 1) = A (q + 1)) : RelD (bringS S p to pl d) B n := by
  intro q hqn
  by_cases e : q = p
  · subst e
    rw [bring_p, hd]; simp
  · rw [bring_row (by omega) (by omega), hq q e]
    exact hD q hqn
theorem goesA_ne {A : Mem} {p q : Nat} {s d : Int32} (h : q ≠ p) : goesA A p s d (q + 1) = A (q + 1) := by
  unfold goesA
  rw [up2_ne _ _ _ _ (by omega), up2_ne _ _ _ _ (by omega), up2_ne _ _ _ _ (by omega), up2_ne _ _ _ _ (by omega)]
theorem goesA_0 {A : Mem} {p : Nat} {s d : Int32} : goesA A p s d 0 = A 0 := by
  unfold goesA
  rw [up2_ne _ _ _ _ (by omega), up2_ne _ _ _ _ (by omega), up2_ne _ _ _ _ (by omega), up2_ne _ _ _ _ (by omega)]
theorem endsA_ne {A : Mem} {p q : Nat} {w : Int32} (h : q ≠ p) : endsA A p w (q + 1) = A (q + 1) := by
  unfold endsA
  rw [up2_ne _ _ _ _ (by omega), up2_ne _ _ _ _ (by omega), up2_ne _ _ _ _ (by omega), up2_ne _ _ _ _ (by omega), up2_ne _ _ _ _ (by omega)]
theorem endsA_0 {A : Mem} {p : Nat} {w : Int32} : endsA A p w 0 = A 0 := by
  unfold endsA
  rw [up2_ne _ _ _ _ (by omega), up2_ne _ _ _ _ (by omega), up2_ne _ _ _ _ (by omega), up2_ne _ _ _ _ (by omega), up2_ne _ _ _ _ (by omega)]
theorem rel_goes {S A : Mem} {n p : Nat} {to d : Int32} (hR : RelC S A n) (hO : OkA A n) (hp : p < n) (hw : A (p + 1) 2 = 0 ∨ A (p + 1) 2 = 1) (ht : stp to) : RelC (bringS S p to 1 d) (goesA A p to d) n :=
  rel_bring hR hO hp hw (fun k _ => by rw [goesA_0]) (fun q hq => goesA_ne hq) (by simp [goesA, up2_app]) (by simp [goesA, up2_app]) (Or.inl ⟨rfl, ht⟩) (by simp [goesA, up2_app]) (by simp [goesA, up2_app]) (fun k hk h2 h3 => by simp [goesA, up2_app, h2, h3, show k ≠ 8 by omega, show k ≠ 9 by omega])
theorem rel_ends {S A : Mem} {n p : Nat} {to d w : Int32} (hR : RelC S A n) (hO : OkA A n) (hp : p < n) (hw : A (p + 1) 2 = 0 ∨ A (p + 1) 2 = 1) (ht : ¬ stp to) (h23 : w = 2 ∨ w = 3) : RelC (bringS S p to w d) (endsA A p w) n := by
  have h1 : ¬ w = 1 := by rcases h23 with rfl | rfl <;> decide
  exact rel_bring hR hO hp hw (fun k _ => by rw [endsA_0]) (fun q hq => endsA_ne hq) (by simp [endsA, up2_app]) (by simp [endsA, up2_app, h1]) (Or.inr ⟨h23, ht⟩) (by simp [endsA, up2_app, h1]) (by simp [endsA, up2_app]) (fun k hk h2 h3 => by simp [endsA, up2_app, h2, h3, show k ≠ 7 by omega, show k ≠ 8 by omega, show k ≠ 9 by omega])
theorem reld_goes {S A : Mem} {n p : Nat} {to d : Int32} (hD : RelD S A n) : RelD (bringS S p to 1 d) (goesA A p to d) n := reld_bring hD (by simp [goesA, up2_app]) (fun q hq => goesA_ne hq)
theorem reld_ends {S A : Mem} {n p : Nat} {to w : Int32} (hD : RelD S A n) : RelD (bringS S p to w (if w = 2 then 2 else 5)) (endsA A p w) n := reld_bring hD (by simp [endsA, up2_app]) (fun q hq => endsA_ne hq)
/-! bows and stays -/
def bowS (S : Mem) (o : Nat) (v : Int32) : Mem := up2 (up2 S (4 + o) 5 (S (4 + o) 5 + 1)) (4 + o) 6 (S (4 + o) 6 + v)
theorem c_bow {b o : Nat} {v : Int32} {S μ : Mem} {K : Mem → Prop} (ho : o < 24) (h : K (putS b (bowS S o v) μ)) : wp_X2_bow (b + 2 + 2 + o) v (putS b S μ) K := by
  unfold wp_X2_bow
  refine nm_e ?_
  rw [putS_P b S μ ho, putS_upP b S μ ho]
  refine nm_e ?_
  rw [putS_P b _ μ ho, putS_upP b _ μ ho, up2_app, if_neg (by omega)]
  exact h
theorem rel_bow {S B B' : Mem} {n o : Nat} {v : Int32} (hR : RelC S B n) (ho : o < n) (h1 : ∀ k, k ≠ 5 → k ≠ 6 → B' (o + 1) k = B (o + 1) k) (h5 : B' (o + 1) 5 = B (o + 1) 5 + 1) (h6 : B' (o + 1) 6 = B (o + 1) 6 + v) (hq : ∀ q, q ≠ o → B' (q + 1) = B (q + 1)) (h0 : ∀ k, k < 6 → B' 0 k = B 0 k) : RelC (bowS S o v) B' n := by
  obtain ⟨hn, r4, s4, s3, s5, rs, rc, rp⟩ := id hR
  have hrow : ∀ i, i ≠ 4 + o → bowS S o v i = S i := fun i hi => by unfold bowS; rw [up2_ne _ _ _ _ hi, up2_ne _ _ _ _ hi]
  refine ⟨hn, by rw [h0 4 (by omega), r4], by rw [hrow 0 (by omega), s4], by rw [hrow 0 (by omega), s3, h0 5 (by omega)], by rw [hrow 0 (by omega), s5, h0 3 (by omega)], fun k hk => by rw [hrow 1 (by omega), rs k hk, h0 k (by omega)], fun s hs => ?_, fun q hqn => ?_⟩
  · rw [hrow 3 (by omega), rc s hs, cnt_congr (A := B) (B := B')]
    intro q _
    by_cases e : q = o
    · subst e
      exact ⟨h1 2 (by omega) (by omega), h1 3 (by omega) (by omega)⟩
    · rw [hq q e]
      exact ⟨rfl, rfl⟩
  · by_cases e : q = o
    · subst e
      obtain ⟨⟨f0, f1, f2, f4, f5, f6, f8⟩, g1, g2, g3, g4, g5⟩ := rp q hqn
      have hk : ∀ k, k ≠ 5 → k ≠ 6 → bowS S q v (4 + q) k = S (4 + q) k := fun k a b => by simp [bowS, up2_app, a, b]
      have e2 := h1 2 (by omega) (by omega)
      refine ⟨⟨?_, ?_, ?_, ?_, ?_, ?_, ?_⟩, ?_, ?_, ?_, ?_, ?_⟩
      · rw [hk 0 (by omega) (by omega), h1 0 (by omega) (by omega), f0]
      · rw [hk 1 (by omega) (by omega), h1 1 (by omega) (by omega), f1]
      · rw [hk 2 (by omega) (by omega), h1 2 (by omega) (by omega), f2]
      · rw [hk 4 (by omega) (by omega), h1 4 (by omega) (by omega), f4]
      · rw [h5, ← f5]; simp [bowS, up2_app]
      · rw [h6, ← f6]; simp [bowS, up2_app]
      · rw [hk 8 (by omega) (by omega), h1 8 (by omega) (by omega), f8]
      · intro z
        rw [e2] at z
        rw [hk 3 (by omega) (by omega), h1 3 (by omega) (by omega), g1 z]
      · intro z
        rw [e2] at z
        rw [h1 3 (by omega) (by omega), g2 z]
      · intro z
        rw [e2] at z
        rw [hk 3 (by omega) (by omega), g3 z, h1 1 (by omega) (by omega)]
      · intro z
        rw [e2] at z
        rw [h1 7 (by omega) (by omega), g4 z]
      · intro z
        rw [e2] at z
        rw [hk 7 (by omega) (by omega), h1 7 (by omega) (by omega), g5 z]
    · rw [hrow _ (by omega), hq q e]
      exact rp q hqn
theorem reld_bow {S B B' : Mem} {n o : Nat} {v : Int32} (hD : RelD S B n) (h1 : B' (o + 1) 9 = B (o + 1) 9) (hq : ∀ q, q ≠ o → B' (q + 1) = B (q + 1)) : RelD (bowS S o v) B' n := by
  intro q hqn
  by_cases e : q = o
  · subst e
    rw [h1, ← hD q hqn]; simp [bowS, up2_app]
  · rw [hq q e, ← hD q hqn]
    unfold bowS
    rw [up2_ne _ _ _ _ (by omega), up2_ne _ _ _ _ (by omega)]
theorem bowA_ne {A : Mem} {o p q : Nat} (h : q ≠ o) : bowA A o p (q + 1) = A (q + 1) := by
  unfold bowA
  rw [up2_ne _ _ _ _ (by omega), up2_ne _ _ _ _ (by omega), up2_ne _ _ _ _ (by omega), up2_ne _ _ _ _ (by omega)]
def stayS (S : Mem) (p : Nat) : Mem := up2 (up2 (up2 S (4 + p) 9 3) (4 + p) 4 (S (4 + p) 4 + 1)) (4 + p) 8 (S (4 + p) 8 + 1)
theorem c_stay {b p : Nat} {S μ : Mem} {K : Mem → Prop} (hp : p < 24) (h : K (putS b (stayS S p) μ)) : wp_X2_stay (b + 2 + 2 + p) (putS b S μ) K := by
  unfold wp_X2_stay
  refine nm_e ?_
  rw [putS_upP b S μ hp]
  refine nm_e ?_
  rw [putS_P b _ μ hp, putS_upP b _ μ hp, up2_app, if_neg (by omega)]
  refine nm_e ?_
  rw [putS_P b _ μ hp, putS_upP b _ μ hp, up2_app, if_neg (by omega), up2_app, if_neg (by omega)]
  exact h
theorem staysA_ne {A : Mem} {p q : Nat} (h : q ≠ p) : staysA A p (q + 1) = A (q + 1) := by
  unfold staysA
  rw [up2_ne _ _ _ _ (by omega), up2_ne _ _ _ _ (by omega), up2_ne _ _ _ _ (by omega), up2_ne _ _ _ _ (by omega)]
theorem rel_stay {S A : Mem} {n p : Nat} (hR : RelC S A n) (hp : p < n) : RelC (stayS S p) (staysA A p) n := by
  obtain ⟨hn, r4, s4, s3, s5, rs, rc, rp⟩ := id hR
  have hrow : ∀ i, i ≠ 4 + p → stayS S p i = S i := fun i hi => by unfold stayS; rw [up2_ne _ _ _ _ hi, up2_ne _ _ _ _ hi, up2_ne _ _ _ _ hi]
  have h0 : ∀ k, k < 6 → staysA A p 0 k = A 0 k := fun k hk => by simp [staysA, up2_app, show k ≠ 8 by omega]
  have h1 : ∀ k, k ≠ 4 → k ≠ 8 → k ≠ 9 → staysA A p (p + 1) k = A (p + 1) k := fun k a b c => by simp [staysA, up2_app, a, b, c]
  have hk : ∀ k, k ≠ 4 → k ≠ 8 → k ≠ 9 → stayS S p (4 + p) k = S (4 + p) k := fun k a b c => by simp [stayS, up2_app, a, b, c]
  refine ⟨hn, by rw [h0 4 (by omega), r4], by rw [hrow 0 (by omega), s4], by rw [hrow 0 (by omega), s3, h0 5 (by omega)], by rw [hrow 0 (by omega), s5, h0 3 (by omega)], fun k hk => by rw [hrow 1 (by omega), rs k hk, h0 k (by omega)], fun s hs => ?_, fun q hqn => ?_⟩
  · rw [hrow 3 (by omega), rc s hs, cnt_congr (A := A) (B := staysA A p)]
    intro q _
    by_cases e : q = p
    · subst e
      exact ⟨h1 2 (by omega) (by omega) (by omega), h1 3 (by omega) (by omega) (by omega)⟩
    · rw [staysA_ne e]
      exact ⟨rfl, rfl⟩
  · by_cases e : q = p
    · subst e
      obtain ⟨⟨f0, f1, f2, f4, f5, f6, f8⟩, g1, g2, g3, g4, g5⟩ := rp q hqn
      have e2 := h1 2 (by omega) (by omega) (by omega)
      refine ⟨⟨?_, ?_, ?_, ?_, ?_, ?_, ?_⟩, ?_, ?_, ?_, ?_, ?_⟩
      · rw [hk 0 (by omega) (by omega) (by omega), h1 0 (by omega) (by omega) (by omega), f0]
      · rw [hk 1 (by omega) (by omega) (by omega), h1 1 (by omega) (by omega) (by omega), f1]
      · rw [hk 2 (by omega) (by omega) (by omega), h1 2 (by omega) (by omega) (by omega), f2]
      · simp [stayS, staysA, up2_app, f4]
      · rw [hk 5 (by omega) (by omega) (by omega), h1 5 (by omega) (by omega) (by omega), f5]
      · rw [hk 6 (by omega) (by omega) (by omega), h1 6 (by omega) (by omega) (by omega), f6]
      · simp [stayS, staysA, up2_app, f8]
      · intro z
        rw [e2] at z
        rw [hk 3 (by omega) (by omega) (by omega), h1 3 (by omega) (by omega) (by omega), g1 z]
      · intro z
        rw [e2] at z
        rw [h1 3 (by omega) (by omega) (by omega), g2 z]
      · intro z
        rw [e2] at z
        rw [hk 3 (by omega) (by omega) (by omega), g3 z, h1 1 (by omega) (by omega) (by omega)]
      · intro z
        rw [e2] at z
        rw [h1 7 (by omega) (by omega) (by omega), g4 z]
      · intro z
        rw [e2] at z
        rw [hk 7 (by omega) (by omega) (by omega), h1 7 (by omega) (by omega) (by omega), g5 z]
    · rw [hrow _ (by omega), staysA_ne e]
      exact rp q hqn
theorem reld_stay {S A : Mem} {n p : Nat} (hD : RelD S A n) : RelD (stayS S p) (staysA A p) n := by
  intro q hqn
  by_cases e : q = p
  · subst e
    simp [stayS, staysA, up2_app]
  · rw [staysA_ne e, ← hD q hqn]
    unfold stayS
    rw [up2_ne _ _ _ _ (by omega), up2_ne _ _ _ _ (by omega), up2_ne _ _ _ _ (by omega)]
/-! who is all right -/
theorem okp_congr {a c : Nat → Int32} (h : OkP a) (h0 : c 0 = a 0) (h1 : c 1 = a 1) (h2 : c 2 = a 2) (h3 : c 3 = a 3) : OkP c := by
  unfold OkP
  rw [h0, h1, h2, h3]
  exact h
theorem ok_goes {A : Mem} {n p : Nat} {s d : Int32} (h : OkA A n) (hs : stp s) : OkA (goesA A p s d) n := by
  intro q hq
  by_cases e : q = p
  · subst e
    obtain ⟨h1, h2, -, -⟩ := h q hq
    obtain ⟨t, ht, rfl⟩ := stp_ex hs
    refine ⟨?_, ?_, Or.inr (Or.inl (by simp [goesA, up2_app])), fun _ => ⟨t, ht, by simp [goesA, up2_app]⟩⟩
    · simpa [goesA, up2_app] using h1
    · simpa [goesA, up2_app] using h2
  · rw [goesA_ne e]
    exact h q hq
theorem ok_ends {A : Mem} {n p : Nat} {w : Int32} (h : OkA A n) (hw : w = 2 ∨ w = 3) : OkA (endsA A p w) n := by
  intro q hq
  by_cases e : q = p
  · subst e
    obtain ⟨h1, h2, -, -⟩ := h q hq
    have e2 : endsA A q w (q + 1) 2 = w := by simp [endsA, up2_app]
    refine ⟨?_, ?_, ?_, fun z => ?_⟩
    · simpa [endsA, up2_app] using h1
    · simpa [endsA, up2_app] using h2
    · rw [e2]
      rcases hw with rfl | rfl
      · exact Or.inr (Or.inr (Or.inl rfl))
      · exact Or.inr (Or.inr (Or.inr rfl))
    · rw [e2] at z
      rcases hw with rfl | rfl <;> exact absurd z (by decide)
  · rw [endsA_ne e]
    exact h q hq
theorem ok_bow {A : Mem} {n o p : Nat} (h : OkA A n) : OkA (bowA A o p) n := by
  intro q hq
  by_cases e : q = o
  · subst e
    exact okp_congr (h q hq) (by simp [bowA, up2_app]) (by simp [bowA, up2_app]) (by simp [bowA, up2_app]) (by simp [bowA, up2_app])
  · rw [bowA_ne e]
    exact h q hq
theorem ok_stays {A : Mem} {n p : Nat} (h : OkA A n) : OkA (staysA A p) n := by
  intro q hq
  by_cases e : q = p
  · subst e
    exact okp_congr (h q hq) (by simp [staysA, up2_app]) (by simp [staysA, up2_app]) (by simp [staysA, up2_app]) (by simp [staysA, up2_app])
  · rw [staysA_ne e]
    exact h q hq
theorem ok_ways {A B : Mem} {n o p : Nat} (h : OkA A n) (hB : waysA A o p n = some B) : OkA B n := by
  unfold waysA at hB
  split at hB
  · rename_i hs
    split at hB
    · cases hB
      exact ok_goes (ok_bow h) hs
    · cases hB
  · cases hB
    exact ok_ends (ok_bow h) (Or.inr rfl)
theorem ok_acts {A : Mem} {n p : Nat} (h : OkA A n) : OkA (actsA A p n) n := by
  unfold actsA
  split
  · rename_i hs
    split
    · exact ok_goes h hs
    · cases yrA A (nextA A p) p n with
      | none => exact ok_stays h
      | some o =>
        simp only [ylA]
        cases hw : waysA A o p n with
        | none => exact ok_stays h
        | some B => exact ok_goes (ok_ways h hw) hs
  · exact ok_ends h (Or.inl rfl)
end
section
/-! THE CLASS'S TICK, the loops -/
theorem yrA_none {A : Mem} {s : Int32} {p : Nat} (h : A (p + 1) 8 < A 0 2) : ∀ n, yrA A s p n = none
  | 0 => rfl
  | n + 1 => by
    unfold yrA
    rw [if_neg (fun z => z.2.2.2 h)]
    exact yrA_none h n
theorem c_yieldsTo {q1 q2 : Nat} {μ : Mem} {K : Int32 → Mem → Prop} (h1 : (¬ μ q1 1 = μ q2 1 ∧ (μ q1 0 < μ q2 0 ∨ (μ q1 0 = μ q2 0 ∧ μ q2 1 = 0))) → K 1 μ) (h0 : ¬ (¬ μ q1 1 = μ q2 1 ∧ (μ q1 0 < μ q2 0 ∨ (μ q1 0 = μ q2 0 ∧ μ q2 1 = 0))) → K 0 μ) : wp_X2_yieldsTo q1 q2 μ K := by
  unfold wp_X2_yieldsTo
  refine ⟨fun a => h0 (fun z => z.1 a), fun a => ⟨fun b => h1 ⟨a, Or.inl b⟩, fun b => ⟨fun c => h0 (fun z => ?_), fun c => ⟨fun d => h0 (fun z => ?_), fun d => h1 ⟨a, Or.inr ⟨c.symm, d⟩⟩⟩⟩⟩⟩
  · exact z.2.elim b (fun y => c y.1.symm)
  · exact z.2.elim b (fun y => d y.2)
theorem c_yielderOn {b n p : Nat} {x : Int32} {S μ A : Mem} {K : Option Nat → Mem → Prop} (hR : RelC S A n) (hp : p < n) (hpat : ¬ A (p + 1) 8 < A 0 2) (h : K ((yrA A x p n).map (fun o => b + 2 + 2 + o)) (putS b S μ)) : wp_X3_yielderOn b x (b + 2 + 2 + p) (putS b S μ) K := by
  have hn := hR.1
  have rp := hR.2.2.2.2.2.2.2
  have key : ∀ d j, j + d = n → wp_X3_yielderOn_L5 b x (b + 2 + 2 + p) K (d + 1) ((yrA A x p j).map (fun o => b + 2 + 2 + o)) (nI j) (putS b S μ) := by
    intro d
    induction d with
    | zero =>
      intro j hj
      rw [wp_X3_yielderOn_L5_s]
      simp only
      rw [putS_b, hR.2.2.1]
      have : j = n := by omega
      subst this
      exact br_t (nI_le (Nat.le_refl _) (by omega)) h
    | succ d ih =>
      intro j hj
      rw [wp_X3_yielderOn_L5_s]
      simp only
      rw [putS_b, hR.2.2.1]
      have h1 := ih (j + 1) (by omega)
      rw [← nI_1] at h1
      refine br_f (nI_ge (by omega) (by omega)) ⟨vp_in_nI (by omega) (by omega), ?_⟩
      rw [nI_clamp (by omega)]
      have hj' := rp j (by omega)
      have hp' := rp p hp
      refine c_standsOn (fun q => br_f (by decide) ?_) (fun q => br_t rfl ?_)
      · rw [putS_P b S μ (by omega), at_iff hj'] at q
        refine c_yieldsTo (fun q2 => br_f (by decide) ?_) (fun q2 => br_t rfl ?_)
        · rw [putS_P b S μ (by omega), putS_P b S μ (by omega), hj'.1.1, hj'.1.2.1, hp'.1.1, hp'.1.2.1] at q2
          have e : yrA A x p (j + 1) = yrP A j (yrA A x p j) := by rw [yrA, if_pos ⟨q, q2.1, q2.2, hpat⟩]
          rw [e] at h1
          refine ⟨fun z => ?_, fun qx z => ?_⟩
          · cases hy : yrA A x p j with
            | none =>
              rw [hy] at h1
              exact h1
            | some o => rw [hy] at z; simp at z
          · cases hy : yrA A x p j with
            | none => rw [hy] at z; simp at z
            | some o =>
              rw [hy] at h1 z
              have ho := (yrA_lt hy).1
              simp only [Option.map_some, Option.some.injEq] at z
              subst z
              rw [putS_P b S μ (by omega), putS_P b S μ (by omega), hj'.1.1, (rp o (by omega)).1.1]
              unfold yrP at h1
              by_cases hc : A (j + 1) 0 < A (o + 1) 0
              · simp only [if_pos hc] at h1
                exact br_f (by rw [fa_lt] at hc; rw [fa_le]; omega) h1
              · simp only [if_neg hc] at h1
                exact br_t (by rw [fa_lt] at hc; rw [fa_le]; omega) h1
        · rw [putS_P b S μ (by omega), putS_P b S μ (by omega), hj'.1.1, hj'.1.2.1, hp'.1.1, hp'.1.2.1] at q2
          have e : yrA A x p (j + 1) = yrA A x p j := by rw [yrA, if_neg (fun z => q2 ⟨z.2.1, z.2.2.1⟩)]
          rw [e] at h1
          exact h1
      · rw [putS_P b S μ (by omega), at_iff hj'] at q
        have e : yrA A x p (j + 1) = yrA A x p j := by rw [yrA, if_neg (fun z => q z.1)]
        rw [e] at h1
        exact h1
  exact ⟨n + 1, key n 0 (by omega)⟩
theorem nle_lt {x y : Int32} (h : ¬ x ≤ y) : y < x := by rw [fa_le] at h; rw [fa_lt]; omega
theorem le_nlt {x y : Int32} (h : x ≤ y) : ¬ y < x := by rw [fa_le] at h; rw [fa_lt]; omega
theorem c_cleared82 {b n o p : Nat} {S T μ A : Mem} {K : Int32 → Mem → Prop} (ho : o < 24) (hp : p < 24) (e1 : T 1 1 = A 0 1) (e2 : T (4 + p) 0 = A (p + 1) 0) (e3 : T (4 + o) 0 = A (o + 1) 0) (h : K 1 (putS b (bowS T o (bwA A o p)) μ)) : wp_X3_isCleared_B82 b (b + 2 + 2 + p) (b + 2 + 2 + o) K (putS b T μ) := by
  unfold wp_X3_isCleared_B82
  rw [putS_at b T μ (by omega), putS_P b T μ hp, putS_P b T μ ho, e1, e2, e3]
  exact c_bow ho h
/-- somebody on a full step steps back, or not -/
theorem c_isCleared {b n p : Nat} {x : Int32} {S μ A : Mem} {K : Int32 → Mem → Prop} (hR : RelC S A n) (hD : RelD S A n) (hO : OkA A n) (hp : p < n) (h0 : ylA A p n x (yrA A x p n) = staysA A p → K 0 (putS b S μ))
    (h1 : ∀ o B S', o ≠ p → o < n → ylA A p n x (yrA A x p n) = goesA B p x 1 → B (p + 1) = A (p + 1) → OkA B n → RelC S' B n → RelD S' B n → K 1 (putS b S' μ)) : wp_X3_isCleared b x (b + 2 + 2 + p) (putS b S μ) K := by
  have hn := hR.1
  have rp := hR.2.2.2.2.2.2.2
  have rs := hR.2.2.2.2.2.1
  unfold wp_X3_isCleared
  rw [putS_at b S μ (by omega), putS_P b S μ (by omega), rs 2 (by omega), (rp p hp).1.2.2.2.2.2.2]
  refine ⟨fun q => ?_, fun q => ?_⟩
  · refine c_yielderOn hR hp (le_nlt q) ?_
    cases hy : yrA A x p n with
    | none =>
      rw [hy] at h0
      exact ⟨fun _ => h0 rfl, fun qx z => by simp at z⟩
    | some o =>
      obtain ⟨ho, hat, hyl⟩ := yrA_lt hy
      have hop : o ≠ p := fun e => hyl.1 (by rw [e])
      refine ⟨fun z => by simp at z, fun qx z => ?_⟩
      simp only [Option.map_some, Option.some.injEq] at z
      subst z
      refine c_stepBehind hR hO ho hp hat.1 hyl.1 ?_
      have e1 := rs 1 (by omega)
      have ep := (rp p hp).1.1
      have eo := (rp o ho).1.1
      have hopR : S (4 + p) 0 = A (p + 1) 0 := ep
      -- what comes of it
      have fin : ∀ (to pl d : Int32), (stp to ∧ pl = 1 ∧ d = 4 ∧ waysA A o p n = some (goesA (bowA A o p) o to 4) ∨ ¬ stp to ∧ pl = 3 ∧ d = 5 ∧ waysA A o p n = some (endsA (bowA A o p) o 3)) → K 1 (putS b (bowS (bringS S o to pl d) o (bwA A o p)) μ) := by
        intro to pl d hc
        rcases hc with ⟨hs, rfl, rfl, hw⟩ | ⟨hs, rfl, rfl, hw⟩
        · refine h1 o (goesA (bowA A o p) o to 4) _ hop ho (by rw [hy]; simp only [ylA, hw, wyA]) (by rw [goesA_ne (Ne.symm hop), bowA_ne (Ne.symm hop)]) (ok_goes (ok_bow hO) hs) ?_ ?_
          · refine rel_bow (rel_goes hR hO ho (Or.inr hat.1) hs) ho ?_ ?_ ?_ ?_ ?_
            · intro k h5 h6; simp [goesA, bowA, up2_app, h5, h6]
            · simp [goesA, bowA, up2_app]
            · simp [goesA, bowA, up2_app]
            · intro q hq; rw [goesA_ne hq, bowA_ne hq, goesA_ne hq]
            · intro k hk; simp [goesA, bowA, up2_app, show k ≠ 6 by omega, show k ≠ 7 by omega]
          · refine reld_bow (reld_goes hD) ?_ ?_
            · simp [goesA, up2_app]
            · intro q hq; rw [goesA_ne hq, bowA_ne hq, goesA_ne hq]
        · refine h1 o (endsA (bowA A o p) o 3) _ hop ho (by rw [hy]; simp only [ylA, hw, wyA]) (by rw [endsA_ne (Ne.symm hop), bowA_ne (Ne.symm hop)]) (ok_ends (ok_bow hO) (Or.inr rfl)) ?_ ?_
          · refine rel_bow (rel_ends hR hO ho (Or.inr hat.1) hs (Or.inr rfl)) ho ?_ ?_ ?_ ?_ ?_
            · intro k h5 h6
              simp only [endsA, bowA, up2_app]
              simp [h5, h6]
            · simp [endsA, bowA, up2_app]
            · simp [endsA, bowA, up2_app]
            · intro q hq; rw [endsA_ne hq, bowA_ne hq, endsA_ne hq]
            · intro k hk; simp [endsA, bowA, up2_app, show k ≠ 6 by omega, show k ≠ 7 by omega]
          · refine reld_bow (reld_ends (w := 3) hD) ?_ ?_
            · simp [endsA, up2_app]
            · intro q hq; rw [endsA_ne hq, bowA_ne hq, endsA_ne hq]
      -- what stays through 'bring'
      have k1 : ∀ to pl d : Int32, bringS S o to pl d 1 1 = A 0 1 := fun to pl d => by rw [bring_row (by omega) (by omega), e1]
      have k2 : ∀ to pl d : Int32, bringS S o to pl d (4 + p) 0 = A (p + 1) 0 := fun to pl d => by rw [bring_row (by omega) (by omega), ep]
      have k3 : ∀ to pl d : Int32, bringS S o to pl d (4 + o) 0 = A (o + 1) 0 := fun to pl d => by rw [bring_p, ← eo]; simp
      refine c_isStep (fun q2 => br_f (by decide) ?_) (fun q2 => br_t rfl ?_)
      · refine c_roomOn hR q2 ⟨fun q3 => ?_, fun q3 => ?_⟩
        · unfold wp_X3_isCleared_B53
          refine c_isStep (fun _ => br_f (by decide) ?_) (fun z => absurd q2 z)
          refine c_bring (by omega) ?_
          refine c_cleared82 (n := n) (S := S) (by omega) (by omega) (k1 _ _ _) (k2 _ _ _) (k3 _ _ _) ?_
          exact fin _ _ _ (Or.inl ⟨q2, rfl, rfl, by unfold waysA; rw [if_pos q2, if_pos q3]⟩)
        · refine h0 ?_
          rw [hy]
          simp only [ylA]
          have : waysA A o p n = none := by unfold waysA; rw [if_pos q2, if_neg q3]
          rw [this]
          rfl
      · unfold wp_X3_isCleared_B53
        refine c_isStep (fun z => absurd z q2) (fun _ => br_t rfl ?_)
        refine c_bring (by omega) ?_
        refine c_cleared82 (n := n) (S := S) (by omega) (by omega) (k1 _ _ _) (k2 _ _ _) (k3 _ _ _) ?_
        exact fin _ _ _ (Or.inr ⟨q2, rfl, rfl, by unfold waysA; rw [if_neg q2]⟩)
  · refine h0 ?_
    rw [yrA_none (nle_lt q) n]
    rfl
theorem c_move {b n p : Nat} {S μ A : Mem} {K : Mem → Prop} (hR : RelC S A n) (hD : RelD S A n) (hO : OkA A n) (hp : p < n) (hw : A (p + 1) 2 = 0 ∨ A (p + 1) 2 = 1) (h : ∀ S', RelC S' (actsA A p n) n → RelD S' (actsA A p n) n → K (putS b S' μ)) : wp_X3_move b (b + 2 + 2 + p) (putS b S μ) K := by
  have hn := hR.1
  unfold wp_X3_move
  unfold actsA at h
  refine c_nextStep hR hO hp hw (c_isStep (fun q => br_nt (by decide) ?_) (fun q => br_nf rfl ?_))
  · rw [if_pos q] at h
    refine c_roomOn hR q ⟨fun q2 => ?_, fun q2 => ?_⟩
    · rw [if_pos q2] at h
      exact c_bring (by omega) (h _ (rel_goes hR hO hp hw q) (reld_goes hD))
    · rw [if_neg q2] at h
      refine c_isCleared hR hD hO hp (fun e => br_t rfl ?_) (fun o B S' hop ho e eB hOB hRB hDB => br_f (by decide) ?_)
      · rw [e] at h
        exact c_stay (by omega) (h _ (rel_stay hR hp) (reld_stay hD))
      · rw [e] at h
        exact c_bring (by omega) (h _ (rel_goes hRB hOB hp (by rw [eB]; exact hw) q) (reld_goes hDB))
  · rw [if_neg q] at h
    exact c_bring (by omega) (h _ (rel_ends hR hO hp hw q (Or.inl rfl)) (reld_ends (w := 2) hD))
/-- who hasn't acted yet, at rank r and number j: nothing but stepping back was done by it -/
def JA (A : Mem) (k j n : Nat) : Prop := ∀ p, p < n → (∀ r : Nat, 1 ≤ r → r ≤ 9 → A (p + 1) 0 = nI r → (r < 9 - k ∨ (r = 9 - k ∧ j ≤ p)) → (A (p + 1) 2 = 0 ∨ A (p + 1) 2 = 1) → A (p + 1) 9 = 0 ∨ A (p + 1) 9 = 4)
theorem goes_0k {A : Mem} {p q : Nat} {s d : Int32} : goesA A p s d (q + 1) 0 = A (q + 1) 0 := by
  by_cases e : q = p
  · subst e; simp [goesA, up2_app]
  · rw [goesA_ne e]
theorem ends_0k {A : Mem} {p q : Nat} {w : Int32} : endsA A p w (q + 1) 0 = A (q + 1) 0 := by
  by_cases e : q = p
  · subst e; simp [endsA, up2_app]
  · rw [endsA_ne e]
theorem bow_0k {A : Mem} {o p q : Nat} : bowA A o p (q + 1) 0 = A (q + 1) 0 := by
  by_cases e : q = o
  · subst e; simp [bowA, up2_app]
  · rw [bowA_ne e]
theorem stays_0k {A : Mem} {p q : Nat} : staysA A p (q + 1) 0 = A (q + 1) 0 := by
  by_cases e : q = p
  · subst e; simp [staysA, up2_app]
  · rw [staysA_ne e]
theorem ways_other {A B : Mem} {o p n q : Nat} (h : waysA A o p n = some B) : B (q + 1) 0 = A (q + 1) 0 ∧ ((B (q + 1) 2 = A (q + 1) 2 ∧ B (q + 1) 9 = A (q + 1) 9) ∨ B (q + 1) 9 = 4 ∨ B (q + 1) 2 = 3) := by
  unfold waysA at h
  split at h
  · split at h
    · cases h
      refine ⟨by rw [goes_0k, bow_0k], ?_⟩
      by_cases e : q = o
      · subst e
        exact Or.inr (Or.inl (by simp [goesA, up2_app]))
      · exact Or.inl (by rw [goesA_ne e, bowA_ne e]; exact ⟨rfl, rfl⟩)
    · cases h
  · cases h
    refine ⟨by rw [ends_0k, bow_0k], ?_⟩
    by_cases e : q = o
    · subst e
      exact Or.inr (Or.inr (by simp [endsA, up2_app]))
    · exact Or.inl (by rw [endsA_ne e, bowA_ne e]; exact ⟨rfl, rfl⟩)
theorem acts_0k {A : Mem} {p n q : Nat} : actsA A p n (q + 1) 0 = A (q + 1) 0 := by
  unfold actsA
  split
  · split
    · exact goes_0k
    · cases yrA A (nextA A p) p n with
      | none => exact stays_0k
      | some o =>
        simp only [ylA]
        cases hw : waysA A o p n with
        | none => exact stays_0k
        | some B => simp only [wyA]; rw [goes_0k, (ways_other hw).1]
  · exact ends_0k
theorem acts_other {A : Mem} {p n q : Nat} (hq : q ≠ p) : (actsA A p n (q + 1) 2 = A (q + 1) 2 ∧ actsA A p n (q + 1) 9 = A (q + 1) 9) ∨ actsA A p n (q + 1) 9 = 4 ∨ actsA A p n (q + 1) 2 = 3 := by
  unfold actsA
  split
  · split
    · exact Or.inl (by rw [goesA_ne hq]; exact ⟨rfl, rfl⟩)
    · cases yrA A (nextA A p) p n with
      | none => exact Or.inl (by simp only [ylA]; rw [staysA_ne hq]; exact ⟨rfl, rfl⟩)
      | some o =>
        simp only [ylA]
        cases hw : waysA A o p n with
        | none => exact Or.inl (by simp only [wyA]; rw [staysA_ne hq]; exact ⟨rfl, rfl⟩)
        | some B =>
          simp only [wyA]
          rw [goesA_ne hq]
          exact (ways_other hw).2
  · exact Or.inl (by rw [endsA_ne hq]; exact ⟨rfl, rfl⟩)
theorem ok_step {A : Mem} {n p : Nat} {r : Int32} (h : OkA A n) : OkA (stepA A r p n) n := by
  unfold stepA
  split
  · exact ok_acts h
  · exact h
theorem ok_rows {A : Mem} {n : Nat} {r : Int32} (h : OkA A n) : ∀ p, OkA (rowsA A r n p) n
  | 0 => h
  | p + 1 => by rw [rowsA]; exact ok_step (ok_rows h p)
theorem ok_ranks {A : Mem} {n : Nat} (h : OkA A n) : ∀ k, OkA (ranksA A n k) n
  | 0 => h
  | k + 1 => by rw [ranksA]; exact ok_rows (ok_ranks h k) n
theorem ok_clear {A : Mem} {n : Nat} (h : OkA A n) : OkA (clearA A) n := fun p hp => okp_congr (h p hp) (by simp [clearA]) (by simp [clearA]) (by simp [clearA]) (by simp [clearA])
theorem ok_tick {A : Mem} {n : Nat} (h : OkA A n) : OkA (tickA A n) n := fun p hp => by
  unfold tickA
  rw [up2_ne _ _ _ _ (by omega)]
  exact ok_ranks (ok_clear h) 9 p hp
theorem ja_step {A : Mem} {k j n : Nat} (hk : k < 9) (hj : j < n) (h : JA A k j n) : JA (stepA A (nI (9 - k)) j n) k (j + 1) n := by
  intro p hp r h1 h9 hr hv hw
  unfold stepA at hr hw ⊢
  split
  · rename_i hc
    rw [if_pos hc] at hr hw
    rw [acts_0k] at hr
    have hpj : p ≠ j := by
      intro e
      subst e
      have : nI r = nI (9 - k) := hr.symm.trans hc.1
      have := nI_inj (by omega) (by omega) this
      omega
    rcases acts_other (A := A) (n := n) hpj with ⟨e2, e9⟩ | e | e
    · rw [e2] at hw
      rw [e9]
      exact h p hp r h1 h9 hr (by omega) hw
    · exact Or.inr e
    · rw [e] at hw
      rcases hw with hw | hw <;> exact absurd hw (by decide)
  · rename_i hc
    rw [if_neg hc] at hr hw
    exact h p hp r h1 h9 hr (by omega) hw
/-- one rank's round -/
theorem c_rows {b n k : Nat} {S μ A : Mem} {K : Mem → Prop} {E : Int32 → Mem → Prop} (hk : k < 9) (hR : RelC S A n) (hD : RelD S A n) (hO : OkA A n) (hJ : JA A k 0 n) (h : ∀ S', RelC S' (rowsA A (nI (9 - k)) n n) n → RelD S' (rowsA A (nI (9 - k)) n n) n → JA (rowsA A (nI (9 - k)) n n) k n n → E (nI (9 - k) + (-1)) (putS b S' μ)) : ∃ m, wp_X3_tick_L36 b (nI (9 - k)) K E m 0 (putS b S μ) := by
  have hn := hR.1
  have key : ∀ d j S, j + d = n → RelC S (rowsA A (nI (9 - k)) n j) n → RelD S (rowsA A (nI (9 - k)) n j) n → JA (rowsA A (nI (9 - k)) n j) k j n → wp_X3_tick_L36 b (nI (9 - k)) K E (d + 1) (nI j) (putS b S μ) := by
    intro d
    induction d with
    | zero =>
      intro j S hj hR hD hJ
      rw [wp_X3_tick_L36_s]
      simp only
      rw [putS_b, hR.2.2.1]
      have : j = n := by omega
      subst this
      exact br_t (nI_le (Nat.le_refl _) (by omega)) (h S hR hD hJ)
    | succ d ih =>
      intro j S hj hR hD hJ
      rw [wp_X3_tick_L36_s]
      simp only
      rw [putS_b, hR.2.2.1]
      refine br_f (nI_ge (by omega) (by omega)) ⟨vp_in_nI (by omega) (by omega), ?_⟩
      rw [nI_clamp (by omega), putS_P b S μ (by omega)]
      have hOj : OkA (rowsA A (nI (9 - k)) n j) n := ok_rows hO j
      have hJ1 := ja_step (A := rowsA A (nI (9 - k)) n j) hk (by omega) hJ
      have rj := hR.2.2.2.2.2.2.2 j (by omega)
      have h1 := ih (j + 1)
      rw [← nI_1] at h1
      have same : ∀ (hc : ¬ (rowsA A (nI (9 - k)) n j (j + 1) 0 = nI (9 - k) ∧ rowsA A (nI (9 - k)) n j (j + 1) 2 < 2 ∧ rowsA A (nI (9 - k)) n j (j + 1) 9 = 0)), rowsA A (nI (9 - k)) n (j + 1) = rowsA A (nI (9 - k)) n j := by
        intro hc
        rw [rowsA]
        unfold stepA
        rw [if_neg hc]
      have go : ∀ (hc : ¬ (rowsA A (nI (9 - k)) n j (j + 1) 0 = nI (9 - k) ∧ rowsA A (nI (9 - k)) n j (j + 1) 2 < 2 ∧ rowsA A (nI (9 - k)) n j (j + 1) 9 = 0)), wp_X3_tick_L36 b (nI (9 - k)) K E (d + 1) (nI j + 1) (putS b S μ) := by
        intro hc
        have e := same hc
        rw [show stepA (rowsA A (nI (9 - k)) n j) (nI (9 - k)) j n = rowsA A (nI (9 - k)) n (j + 1) from rfl] at hJ1
        exact h1 S (by omega) (by rw [e]; exact hR) (by rw [e]; exact hD) hJ1
      rw [rj.1.1]
      refine ⟨fun q => go (fun z => q z.1), fun q => ?_⟩
      refine c_isOnWay (fun q2 => br_f (by decide) ?_) (fun q2 => br_t rfl ?_)
      · rw [putS_P b S μ (by omega), rj.1.2.2.1] at q2
        rw [putS_P b S μ (by omega), hD j (by omega)]
        have hlt : rowsA A (nI (9 - k)) n j (j + 1) 2 < 2 := by rcases q2 with e | e <;> rw [e] <;> decide
        have h04 := hJ j (by omega) (9 - k) (by omega) (by omega) q (Or.inr ⟨rfl, Nat.le_refl _⟩) q2
        refine ⟨fun q3 => go (fun z => ?_), fun q3 => ?_⟩
        · rw [q3] at z
          exact absurd z.2.2 (by decide)
        · have hc := h04.resolve_right q3
          refine c_move hR hD hOj (by omega) q2 (fun S' hR' hD' => ?_)
          have e : rowsA A (nI (9 - k)) n (j + 1) = actsA (rowsA A (nI (9 - k)) n j) j n := by
            rw [rowsA]
            unfold stepA
            rw [if_pos ⟨q, hlt, hc⟩]
          rw [show stepA (rowsA A (nI (9 - k)) n j) (nI (9 - k)) j n = rowsA A (nI (9 - k)) n (j + 1) from rfl] at hJ1
          exact h1 S' (by omega) (by rw [e]; exact hR') (by rw [e]; exact hD') hJ1
      · rw [putS_P b S μ (by omega), rj.1.2.2.1] at q2
        refine go (fun z => ?_)
        rcases (hOj j (by omega)).2.2.1 with e | e | e | e
        · exact q2 (Or.inl e)
        · exact q2 (Or.inr e)
        · rw [e] at z; exact absurd z.2.1 (by decide)
        · rw [e] at z; exact absurd z.2.1 (by decide)
  exact ⟨n + 1, key n 0 S (by omega) hR hD hJ⟩
theorem c_ranks {b n : Nat} {S μ A : Mem} {K : Mem → Prop} (hR : RelC S A n) (hD : RelD S A n) (hO : OkA A n) (hJ : JA A 0 0 n) (h : ∀ S', RelC S' (ranksA A n 9) n → RelD S' (ranksA A n 9) n → K (putS b (up2 S' 0 5 (S' 0 5 + 1)) μ)) : ∃ m, wp_X3_tick_L29 b K m 9 (putS b S μ) := by
  have key : ∀ d k S, k + d = 9 → RelC S (ranksA A n k) n → RelD S (ranksA A n k) n → JA (ranksA A n k) k 0 n → wp_X3_tick_L29 b K (d + 1) (nI (9 - k)) (putS b S μ) := by
    intro d
    induction d with
    | zero =>
      intro k S hk hR hD hJ
      have : k = 9 := by omega
      subst this
      rw [wp_X3_tick_L29_s]
      simp only
      refine br_t (by decide) (nm_e ?_)
      rw [putS_b, putS_up0]
      exact h S hR hD
    | succ d ih =>
      intro k S hk hR hD hJ
      rw [wp_X3_tick_L29_s]
      simp only
      refine br_f ?_ ?_
      · have := nI_nlt (a := 9 - k) (b := 1) (by omega) (by omega)
        exact this
      · refine c_rows (k := k) (by omega) hR hD (ok_ranks hO k) hJ (fun S' hR' hD' hJ' => ?_)
        have h1 := ih (k + 1) S' (by omega) hR' hD' ?_
        · rw [show 9 - k = (9 - (k + 1)) + 1 by omega, pk_m1]
          exact h1
        · intro p hp r h1 h9 hr hv hw
          exact hJ' p hp r h1 h9 hr (by omega) hw
  exact ⟨10, key 9 0 S (by omega) hR hD hJ⟩
def clS (S : Mem) (j : Nat) : Mem := fun i k => if k = 9 ∧ 4 ≤ i ∧ i < 4 + j then 0 else S i k
theorem clS_s (S : Mem) (j : Nat) : up2 (clS S j) (4 + j) 9 0 = clS S (j + 1) := by
  funext a b
  rw [up2_app]
  unfold clS
  by_cases h : a = 4 + j ∧ b = 9
  · rw [if_pos h, if_pos ⟨h.2, by omega, by omega⟩]
  · rw [if_neg h]
    by_cases h2 : b = 9 ∧ 4 ≤ a ∧ a < 4 + j
    · rw [if_pos h2, if_pos ⟨h2.1, h2.2.1, by omega⟩]
    · rw [if_neg h2, if_neg (by omega)]
theorem rel_keys {S A T B : Mem} {n : Nat} (hR : RelC S A n) (hS : ∀ i k, k < 9 ∨ i < 4 → T i k = S i k) (hA : ∀ i k, k < 9 → B i k = A i k) : RelC T B n := by
  obtain ⟨hn, r4, s4, s3, s5, rs, rc, rp⟩ := id hR
  refine ⟨hn, by rw [hA 0 4 (by omega), r4], by rw [hS 0 4 (by omega), s4], by rw [hS 0 3 (by omega), hA 0 5 (by omega), s3], by rw [hS 0 5 (by omega), hA 0 3 (by omega), s5], fun k hk => by rw [hS 1 k (by omega), hA 0 k (by omega), rs k hk], fun s hs => ?_, fun p hp => ?_⟩
  · rw [hS 3 s (by omega), rc s hs, cnt_congr (A := A) (B := B)]
    intro q _
    exact ⟨hA _ 2 (by omega), hA _ 3 (by omega)⟩
  · have := rp p hp
    unfold RelP at this ⊢
    rw [hS (4 + p) 0 (by omega), hS (4 + p) 1 (by omega), hS (4 + p) 2 (by omega), hS (4 + p) 3 (by omega), hS (4 + p) 4 (by omega), hS (4 + p) 5 (by omega), hS (4 + p) 6 (by omega), hS (4 + p) 7 (by omega), hS (4 + p) 8 (by omega), hA (p + 1) 0 (by omega), hA (p + 1) 1 (by omega), hA (p + 1) 2 (by omega), hA (p + 1) 3 (by omega), hA (p + 1) 4 (by omega), hA (p + 1) 5 (by omega), hA (p + 1) 6 (by omega), hA (p + 1) 7 (by omega), hA (p + 1) 8 (by omega)]
    exact this
theorem c_tick {b n : Nat} {S μ A : Mem} {K : Mem → Prop} (hR : RelC S A n) (hO : OkA A n) (h : ∀ S', RelC S' (tickA A n) n → RelD S' (tickA A n) n → K (putS b S' μ)) : wp_X3_tick b (putS b S μ) K := by
  have hn := hR.1
  have hc : RelC (clS S n) (clearA A) n := rel_keys hR (fun i k hk => by unfold clS; rw [if_neg (by omega)]) (fun i k hk => by unfold clearA; rw [if_neg (by omega)])
  have hd : RelD (clS S n) (clearA A) n := fun p hp => by
    unfold clS clearA
    rw [if_pos ⟨rfl, by omega, by omega⟩, if_pos ⟨rfl, by omega, by omega⟩]
  have hj : JA (clearA A) 0 0 n := fun p hp r _ _ _ _ _ => by
    left
    unfold clearA
    rw [if_pos ⟨rfl, by omega, by omega⟩]
  have key : ∀ d j, j + d = n → wp_X3_tick_L2 b K (d + 1) (nI j) (putS b (clS S j) μ) := by
    intro d
    induction d with
    | zero =>
      intro j hj'
      have : j = n := by omega
      subst this
      rw [wp_X3_tick_L2_s]
      simp only
      rw [putS_b, show clS S j 0 4 = S 0 4 from rfl, hR.2.2.1]
      refine br_t (nI_le (Nat.le_refl _) (by omega)) ?_
      refine c_ranks hc hd (ok_clear hO) hj (fun S' hR' hD' => h _ ?_ ?_)
      · obtain ⟨hn, r4, s4, s3, s5, rs, rc, rp⟩ := id hR'
        unfold tickA
        refine ⟨hn, by simp [up2_app, r4], by simp [up2_app, s4], by simp [up2_app, s3], by simp [up2_app, s5], fun k hk => ?_, fun s hs => ?_, fun p hp => ?_⟩
        · rw [up2_ne _ _ _ _ (by omega), rs k hk, up2_app, if_neg (by omega)]
        · rw [up2_ne _ _ _ _ (by omega), rc s hs, cnt_congr (A := ranksA (clearA A) j 9) (B := up2 (ranksA (clearA A) j 9) 0 3 (ranksA (clearA A) j 9 0 3 + 1))]
          intro q _
          rw [up2_ne _ _ _ _ (by omega)]
          exact ⟨rfl, rfl⟩
        · rw [up2_ne _ _ _ _ (by omega), up2_ne _ _ _ _ (by omega)]
          exact rp p hp
      · intro p hp
        unfold tickA
        rw [up2_ne _ _ _ _ (by omega), up2_ne _ _ _ _ (by omega)]
        exact hD' p hp
    | succ d ih =>
      intro j hj'
      rw [wp_X3_tick_L2_s]
      simp only
      rw [putS_b, show clS S j 0 4 = S 0 4 by unfold clS; rw [if_neg (by omega)], hR.2.2.1]
      refine br_f (nI_ge (by omega) (by omega)) ⟨vp_in_nI (by omega) (by omega), nm_e ?_⟩
      rw [nI_clamp (by omega), putS_upP b _ μ (by omega), clS_s, nI_1]
      exact ih (j + 1) (by omega)
  refine ⟨n + 1, ?_⟩
  have e : S = clS S 0 := by
    funext a k
    unfold clS
    rw [if_neg (by omega)]
  rw [e]
  exact key n 0 (by omega)
end
section
/-! WHAT STAYS TRUE of the rows: room on the steps, sums, how many bows at most -/
def sumA (A : Mem) (k : Nat) : Nat → Int32
  | 0 => 0
  | n + 1 => sumA A k n + A (n + 1) k
theorem sum_congr {A B : Mem} {k : Nat} : ∀ {n : Nat}, (∀ q, q < n → B (q + 1) k = A (q + 1) k) → sumA B k n = sumA A k n
  | 0, _ => rfl
  | n + 1, h => by
    unfold sumA
    rw [sum_congr (n := n) (fun q hq => h q (by omega)), h n (by omega)]
theorem sum_mod {A B : Mem} {k p : Nat} {v : Int32} : ∀ {n : Nat}, p < n → (∀ q, q < n → q ≠ p → B (q + 1) k = A (q + 1) k) → B (p + 1) k = A (p + 1) k + v → sumA B k n = sumA A k n + v
  | 0, h, _, _ => by omega
  | n + 1, h, hq, hv => by
    unfold sumA
    by_cases hp : p = n
    · subst hp
      rw [sum_congr (A := A) (B := B) (n := p) (fun q h2 => hq q (by omega) (by omega)), hv, Int32.add_assoc]
    · rw [sum_mod (n := n) (by omega) (fun q h2 h3 => hq q (by omega) h3) hv, hq n (by omega) (Ne.symm hp), Int32.add_assoc, Int32.add_assoc, Int32.add_comm v]
def Tot (A : Mem) (n : Nat) : Prop := A 0 6 = sumA A 6 n ∧ A 0 7 = sumA A 5 n ∧ A 0 8 = sumA A 4 n
def capN (A : Mem) (s : Nat) : Nat := if lndA A (nI s) then (A 0 0).toNatClampNeg else 1
def CapOk (A : Mem) (n : Nat) : Prop := ∀ s, s < 12 → cntA A (nI s) n ≤ capN A s
def Bow (A : Mem) (c : Nat) : Prop := ∃ w, w ≤ c ∧ A 0 6 = nI w
def SetA (A : Mem) : Prop := (∃ h, 1 ≤ h ∧ h ≤ 4 ∧ A 0 0 = nI h) ∧ (∃ c, 1 ≤ c ∧ c ≤ 5 ∧ A 0 1 = nI c) ∧ (∃ q, q ≤ 9 ∧ A 0 2 = nI q) ∧ (∃ L, L < 4096 ∧ A 0 5 = nI L)
def InvA (A : Mem) (n t : Nat) : Prop := n ≤ 24 ∧ A 0 4 = nI n ∧ A 0 3 = nI t ∧ SetA A ∧ OkA A n ∧ CapOk A n ∧ Tot A n ∧ Bow A (9720 * t)
/-- the staircase's own numbers but sums and ticks stay through a deed -/
theorem ways_0 {A B : Mem} {o p n k : Nat} (hk : k < 6) (h : waysA A o p n = some B) : B 0 k = A 0 k := by
  have hb : bowA A o p 0 k = A 0 k := by simp [bowA, up2_app, show k ≠ 6 by omega, show k ≠ 7 by omega]
  unfold waysA at h
  split at h
  · split at h
    · cases h; rw [goesA_0, hb]
    · cases h
  · cases h; rw [endsA_0, hb]
theorem acts_0 {A : Mem} {p n k : Nat} (hk : k < 6) : actsA A p n 0 k = A 0 k := by
  have hs : staysA A p 0 k = A 0 k := by simp [staysA, up2_app, show k ≠ 8 by omega]
  unfold actsA
  split
  · split
    · rw [goesA_0]
    · cases yrA A (nextA A p) p n with
      | none => exact hs
      | some o =>
        simp only [ylA]
        cases hw : waysA A o p n with
        | none => exact hs
        | some B => simp only [wyA]; rw [goesA_0, ways_0 hk hw]
  · rw [endsA_0]
theorem step_0 {A : Mem} {p n k : Nat} {r : Int32} (hk : k < 6) : stepA A r p n 0 k = A 0 k := by
  unfold stepA
  split
  · exact acts_0 hk
  · rfl
theorem rows_0 {A : Mem} {n k : Nat} {r : Int32} (hk : k < 6) : ∀ p, rowsA A r n p 0 k = A 0 k
  | 0 => rfl
  | p + 1 => by rw [rowsA, step_0 hk, rows_0 hk p]
theorem ranks_0 {A : Mem} {n k : Nat} (hk : k < 6) : ∀ j, ranksA A n j 0 k = A 0 k
  | 0 => rfl
  | j + 1 => by rw [ranksA, rows_0 hk, ranks_0 hk j]
theorem cap_05 {A B : Mem} (h0 : B 0 0 = A 0 0) (h5 : B 0 5 = A 0 5) (s : Nat) : capN B s = capN A s := by
  unfold capN lndA
  simp only [h0, h5]
theorem cap_0 {A B : Mem} (h : ∀ k, k < 6 → B 0 k = A 0 k) (s : Nat) : capN B s = capN A s := cap_05 (h 0 (by omega)) (h 5 (by omega)) s
theorem set_0 {A B : Mem} (h : ∀ k, k < 6 → B 0 k = A 0 k) (hs : SetA A) : SetA B := by
  unfold SetA
  rw [h 0 (by omega), h 1 (by omega), h 2 (by omega), h 5 (by omega)]
  exact hs
/-! sums -/
theorem tot_goes {A : Mem} {n p : Nat} {s d : Int32} (h : Tot A n) : Tot (goesA A p s d) n := by
  have hk : ∀ k, k = 4 ∨ k = 5 ∨ k = 6 → sumA (goesA A p s d) k n = sumA A k n := fun k hk => sum_congr (fun q _ => by
    by_cases e : q = p
    · subst e
      simp [goesA, up2_app, show k ≠ 2 by omega, show k ≠ 3 by omega, show k ≠ 8 by omega, show k ≠ 9 by omega]
    · rw [goesA_ne e])
  unfold Tot
  rw [goesA_0, hk 4 (by omega), hk 5 (by omega), hk 6 (by omega)]
  exact h
theorem tot_ends {A : Mem} {n p : Nat} {w : Int32} (h : Tot A n) : Tot (endsA A p w) n := by
  have hk : ∀ k, k = 4 ∨ k = 5 ∨ k = 6 → sumA (endsA A p w) k n = sumA A k n := fun k hk => sum_congr (fun q _ => by
    by_cases e : q = p
    · subst e
      simp [endsA, up2_app, show k ≠ 2 by omega, show k ≠ 3 by omega, show k ≠ 7 by omega, show k ≠ 8 by omega, show k ≠ 9 by omega]
    · rw [endsA_ne e])
  unfold Tot
  rw [endsA_0, hk 4 (by omega), hk 5 (by omega), hk 6 (by omega)]
  exact h
theorem tot_bow {A : Mem} {n o p : Nat} (ho : o < n) (h : Tot A n) : Tot (bowA A o p) n := by
  obtain ⟨h6, h7, h8⟩ := h
  refine ⟨?_, ?_, ?_⟩
  · rw [sum_mod (A := A) (B := bowA A o p) (k := 6) (v := bwA A o p) ho (fun q _ hq => by rw [bowA_ne hq]) (by simp [bowA, up2_app]), ← h6]
    simp [bowA, up2_app]
  · rw [sum_mod (A := A) (B := bowA A o p) (k := 5) (v := 1) ho (fun q _ hq => by rw [bowA_ne hq]) (by simp [bowA, up2_app]), ← h7]
    simp [bowA, up2_app]
  · rw [sum_congr (A := A) (B := bowA A o p) (k := 4) (fun q _ => by
      by_cases e : q = o
      · subst e; simp [bowA, up2_app]
      · rw [bowA_ne e]), ← h8]
    simp [bowA, up2_app]
theorem tot_stays {A : Mem} {n p : Nat} (hp : p < n) (h : Tot A n) : Tot (staysA A p) n := by
  obtain ⟨h6, h7, h8⟩ := h
  have hk : ∀ k, k = 5 ∨ k = 6 → sumA (staysA A p) k n = sumA A k n := fun k hk => sum_congr (fun q _ => by
    by_cases e : q = p
    · subst e
      simp [staysA, up2_app, show k ≠ 4 by omega, show k ≠ 8 by omega, show k ≠ 9 by omega]
    · rw [staysA_ne e])
  refine ⟨?_, ?_, ?_⟩
  · rw [hk 6 (by omega), ← h6]; simp [staysA, up2_app]
  · rw [hk 5 (by omega), ← h7]; simp [staysA, up2_app]
  · rw [sum_mod (A := A) (B := staysA A p) (k := 4) (v := 1) hp (fun q _ hq => by rw [staysA_ne hq]) (by simp [staysA, up2_app]), ← h8]
    simp [staysA, up2_app]
theorem tot_ways {A B : Mem} {n o p : Nat} (ho : o < n) (h : Tot A n) (hB : waysA A o p n = some B) : Tot B n := by
  unfold waysA at hB
  split at hB
  · split at hB
    · cases hB; exact tot_goes (tot_bow ho h)
    · cases hB
  · cases hB; exact tot_ends (tot_bow ho h)
theorem tot_acts {A : Mem} {n p : Nat} (hp : p < n) (h : Tot A n) : Tot (actsA A p n) n := by
  unfold actsA
  split
  · split
    · exact tot_goes h
    · cases hy : yrA A (nextA A p) p n with
      | none => exact tot_stays hp h
      | some o =>
        simp only [ylA]
        cases hw : waysA A o p n with
        | none => exact tot_stays hp h
        | some B => exact tot_goes (tot_ways (yrA_lt hy).1 h hw)
  · exact tot_ends h
/-! room -/
theorem room_cnt {A : Mem} {n s : Nat} (hn : n ≤ 24) (hs : SetA A) (h : 0 < roomA A n (nI s)) : cntA A (nI s) n < capN A s := by
  obtain ⟨⟨c, c1, c4, e⟩, -⟩ := hs
  have hc := cnt_le (A := A) (s := nI s) n
  unfold roomA at h
  unfold capN
  split at h
  · rename_i hl
    rw [if_pos hl, e, nI_clamp (by omega)]
    rw [e] at h
    rcases Nat.lt_or_ge (cntA A (nI s) n) c with q | q
    · exact q
    · rw [fa_lt, pk_sub_toInt (by omega) (by omega)] at h
      have h0 : (0 : Int32).toInt = 0 := rfl
      omega
  · rename_i hl
    rw [if_neg hl]
    rcases Nat.lt_or_ge (cntA A (nI s) n) 1 with q | q
    · exact q
    · rw [show (1 : Int32) = nI 1 from rfl, fa_lt, pk_sub_toInt (by omega) (by omega)] at h
      have h0 : (0 : Int32).toInt = 0 := rfl
      omega
theorem cap_goes {A : Mem} {n p : Nat} {to d : Int32} (hp : p < n) (h : CapOk A n) (hr : ∀ s, s < 12 → to = nI s → cntA A (nI s) n < capN A s) : CapOk (goesA A p to d) n := by
  intro s hs
  have hm := cnt_mod (A := A) (B := goesA A p to d) (s := nI s) (p := p) hp (fun q _ hq => by rw [goesA_ne hq]; exact ⟨rfl, rfl⟩)
  rw [cap_0 (A := A) (fun k _ => by rw [goesA_0])]
  have h1 := h s hs
  have hb : a1A (goesA A p to d) p (nI s) = if to = nI s then 1 else 0 := by
    unfold a1A
    simp [goesA, up2_app]
  rw [hb] at hm
  by_cases e : to = nI s
  · have := hr s hs e
    rw [if_pos e] at hm
    omega
  · rw [if_neg e] at hm
    omega
theorem cap_ends {A : Mem} {n p : Nat} {w : Int32} (hw : w = 2 ∨ w = 3) (hp : p < n) (h : CapOk A n) : CapOk (endsA A p w) n := by
  intro s hs
  have hm := cnt_mod (A := A) (B := endsA A p w) (s := nI s) (p := p) hp (fun q _ hq => by rw [endsA_ne hq]; exact ⟨rfl, rfl⟩)
  rw [cap_0 (A := A) (fun k _ => by rw [endsA_0])]
  have h1 := h s hs
  have hb : a1A (endsA A p w) p (nI s) = 0 := by
    unfold a1A
    rw [if_neg]
    intro z
    have e : endsA A p w (p + 1) 2 = w := by simp [endsA, up2_app]
    rw [e] at z
    rcases hw with rfl | rfl <;> exact absurd z.1 (by decide)
  omega
theorem cnt_bow {A : Mem} {o p n : Nat} {s : Int32} : cntA (bowA A o p) s n = cntA A s n := cnt_congr (fun q _ => by
  by_cases e : q = o
  · subst e; simp [bowA, up2_app]
  · rw [bowA_ne e]; exact ⟨rfl, rfl⟩)
theorem bow_0 {A : Mem} {o p k : Nat} (hk : k < 6) : bowA A o p 0 k = A 0 k := by simp [bowA, up2_app, show k ≠ 6 by omega, show k ≠ 7 by omega]
theorem cap_bow {A : Mem} {n o p : Nat} (h : CapOk A n) : CapOk (bowA A o p) n := by
  intro s hs
  rw [cnt_bow, cap_0 (fun k hk => bow_0 hk)]
  exact h s hs
theorem ne_way {x : Int32} {A : Mem} {p : Nat} : ¬ x + wayA A p = x := by
  unfold wayA
  intro e
  have e2 : x + (if A (p + 1) 1 = 1 then 1 else -1) - x = x - x := by rw [e]
  rw [Int32.sub_self, Int32.sub_eq_add_neg, Int32.add_comm x, Int32.add_assoc, ← Int32.sub_eq_add_neg, Int32.sub_self, Int32.add_zero] at e2
  split at e2 <;> exact absurd e2 (by decide)
/-- whoever steps back leaves room where it stood -/
theorem cap_ways {A B : Mem} {n o p : Nat} {x : Int32} (hn : n ≤ 24) (hS : SetA A) (ho : o < n) (hat : A (o + 1) 2 = 1 ∧ A (o + 1) 3 = x) (h : CapOk A n) (hB : waysA A o p n = some B) : CapOk B n ∧ ∀ s, s < 12 → x = nI s → cntA B (nI s) n < capN B s := by
  have leave : ∀ C : Mem, (∀ q, q ≠ o → C (q + 1) = A (q + 1)) → (∀ k, k < 6 → C 0 k = A 0 k) → (¬ (C (o + 1) 2 = 1 ∧ C (o + 1) 3 = x)) → ∀ s, s < 12 → x = nI s → cntA C (nI s) n < capN C s := by
    intro C hq h0 hx s hs e
    have hm := cnt_mod (A := A) (B := C) (s := nI s) (p := o) ho (fun q _ hne => by rw [hq q hne]; exact ⟨rfl, rfl⟩)
    rw [cap_0 h0]
    have h1 := h s hs
    unfold a1A at hm
    rw [if_pos (by rw [← e]; exact hat), if_neg (by rw [← e]; exact hx)] at hm
    omega
  unfold waysA at hB
  split at hB
  · rename_i hst
    split at hB
    · rename_i hr
      cases hB
      refine ⟨cap_goes ho (cap_bow h) (fun s hs e => ?_), leave _ (fun q hq => by rw [goesA_ne hq, bowA_ne hq]) (fun k hk => by rw [goesA_0, bow_0 hk]) (fun z => ?_)⟩
      · rw [cnt_bow, cap_0 (fun k hk => bow_0 hk)]
        rw [e] at hr
        exact room_cnt hn hS hr
      · have e : goesA (bowA A o p) o (A (o + 1) 3 + wayA A p) 4 (o + 1) 3 = A (o + 1) 3 + wayA A p := by simp [goesA, up2_app]
        rw [e, hat.2] at z
        exact ne_way z.2
    · cases hB
  · cases hB
    refine ⟨cap_ends (Or.inr rfl) ho (cap_bow h), leave _ (fun q hq => by rw [endsA_ne hq, bowA_ne hq]) (fun k hk => by rw [endsA_0, bow_0 hk]) (fun z => ?_)⟩
    have e : endsA (bowA A o p) o 3 (o + 1) 2 = 3 := by simp [endsA, up2_app]
    rw [e] at z
    exact absurd z.1 (by decide)
theorem cap_stays {A : Mem} {n p : Nat} (h : CapOk A n) : CapOk (staysA A p) n := by
  intro s hs
  rw [cnt_congr (A := A) (B := staysA A p), cap_0 (A := A) (fun k hk => by simp [staysA, up2_app, show k ≠ 8 by omega])]
  · exact h s hs
  · intro q _
    by_cases e : q = p
    · subst e; simp [staysA, up2_app]
    · rw [staysA_ne e]; exact ⟨rfl, rfl⟩
theorem cap_acts {A : Mem} {n p : Nat} (hn : n ≤ 24) (hS : SetA A) (hp : p < n) (h : CapOk A n) : CapOk (actsA A p n) n := by
  unfold actsA
  split
  · split
    · rename_i hr
      exact cap_goes hp h (fun s hs e => by rw [e] at hr; exact room_cnt hn hS hr)
    · cases hy : yrA A (nextA A p) p n with
      | none => exact cap_stays h
      | some o =>
        simp only [ylA]
        obtain ⟨ho, hat, -⟩ := yrA_lt hy
        cases hw : waysA A o p n with
        | none => exact cap_stays h
        | some B =>
          obtain ⟨h1, h2⟩ := cap_ways hn hS ho hat h hw
          exact cap_goes hp h1 h2
  · exact cap_ends (Or.inl rfl) hp h
/-! bows -/
theorem bow_le {A : Mem} {n o p : Nat} (hS : SetA A) (hO : OkA A n) (ho : o < n) (hp : p < n) (hy : yldA A o p) : ∃ v, v ≤ 45 ∧ bwA A o p = nI v := by
  obtain ⟨-, ⟨c, c1, c5, e⟩, -⟩ := hS
  obtain ⟨a, a1, a9, ea⟩ := (hO o ho).2.1
  obtain ⟨b, b1, b9, eb⟩ := (hO p hp).2.1
  have hab : a ≤ b := by
    rcases hy.2.1 with h | h
    · rw [ea, eb, nI_ltI (by omega) (by omega)] at h
      omega
    · have h1 := h.1
      rw [ea, eb] at h1
      have := nI_inj (by omega) (by omega) h1
      omega
  refine ⟨c * (b - a + 1), ?_, ?_⟩
  · have : b - a + 1 ≤ 9 := by omega
    exact Nat.mul_le_mul c5 this
  · unfold bwA
    rw [e, ea, eb, pk_sub hab, nI_1, pk_mul]
theorem bow_acts {A : Mem} {n p c : Nat} (hS : SetA A) (hO : OkA A n) (hp : p < n) (h : Bow A c) : Bow (actsA A p n) (c + 45) := by
  obtain ⟨w, hw, e⟩ := h
  have keep : ∀ B : Mem, B 0 6 = A 0 6 → Bow B (c + 45) := fun B hB => ⟨w, by omega, hB.trans e⟩
  unfold actsA
  split
  · split
    · exact keep _ (by rw [goesA_0])
    · cases hy : yrA A (nextA A p) p n with
      | none => exact keep _ (by simp [ylA, staysA, up2_app])
      | some o =>
        simp only [ylA]
        obtain ⟨ho, hat, hyl⟩ := yrA_lt hy
        cases hww : waysA A o p n with
        | none => exact keep _ (by simp [wyA, staysA, up2_app])
        | some B =>
          obtain ⟨v, hv, ev⟩ := bow_le hS hO ho hp hyl
          have e6 : B 0 6 = A 0 6 + bwA A o p := by
            unfold waysA at hww
            split at hww
            · split at hww
              · cases hww; rw [goesA_0]; simp [bowA, up2_app]
              · cases hww
            · cases hww; rw [endsA_0]; simp [bowA, up2_app]
          refine ⟨w + v, by omega, ?_⟩
          simp only [wyA]
          rw [goesA_0, e6, e, ev, nI_add]
  · exact keep _ (by rw [endsA_0])
theorem bow_step {A : Mem} {n p c : Nat} {r : Int32} (hS : SetA A) (hO : OkA A n) (hp : p < n) (h : Bow A c) : Bow (stepA A r p n) (c + 45) := by
  unfold stepA
  split
  · exact bow_acts hS hO hp h
  · obtain ⟨w, hw, e⟩ := h
    exact ⟨w, by omega, e⟩
theorem bow_rows {A : Mem} {n c : Nat} {r : Int32} (hS : SetA A) (hO : OkA A n) (h : Bow A c) : ∀ p, p ≤ n → Bow (rowsA A r n p) (c + 45 * p)
  | 0, _ => h
  | p + 1, hp => by
    have := bow_step (r := r) (set_0 (fun k hk => rows_0 (r := r) (n := n) hk p) hS) (ok_rows (r := r) hO p) (p := p) (by omega) (bow_rows hS hO h p (by omega))
    rw [rowsA]
    rw [show c + 45 * (p + 1) = c + 45 * p + 45 by omega]
    exact this
theorem bow_ranks {A : Mem} {n c : Nat} (hn : n ≤ 24) (hS : SetA A) (hO : OkA A n) (h : Bow A c) : ∀ k, Bow (ranksA A n k) (c + 1080 * k)
  | 0 => h
  | k + 1 => by
    obtain ⟨w, hw, e⟩ := bow_rows (r := nI (9 - k)) (set_0 (fun j hj => ranks_0 (n := n) hj k) hS) (ok_ranks hO k) (bow_ranks hn hS hO h k) n (Nat.le_refl n)
    exact ⟨w, by omega, e⟩
/-! a tick -/
theorem step_inv {A : Mem} {n p : Nat} {r : Int32} (hn : n ≤ 24) (hS : SetA A) (hp : p < n) (h : CapOk A n ∧ Tot A n) : CapOk (stepA A r p n) n ∧ Tot (stepA A r p n) n := by
  unfold stepA
  split
  · exact ⟨cap_acts hn hS hp h.1, tot_acts hp h.2⟩
  · exact h
theorem rows_inv {A : Mem} {n : Nat} {r : Int32} (hn : n ≤ 24) (hS : SetA A) (h : CapOk A n ∧ Tot A n) : ∀ p, p ≤ n → CapOk (rowsA A r n p) n ∧ Tot (rowsA A r n p) n
  | 0, _ => h
  | p + 1, hp => by
    rw [rowsA]
    exact step_inv hn (set_0 (fun k hk => rows_0 hk p) hS) (by omega) (rows_inv hn hS h p (by omega))
theorem ranks_inv {A : Mem} {n : Nat} (hn : n ≤ 24) (hS : SetA A) (h : CapOk A n ∧ Tot A n) : ∀ k, CapOk (ranksA A n k) n ∧ Tot (ranksA A n k) n
  | 0 => h
  | k + 1 => by
    rw [ranksA]
    exact rows_inv hn (set_0 (fun j hj => ranks_0 hj k) hS) (ranks_inv hn hS h k) n (Nat.le_refl n)
theorem clear_k {A : Mem} {i k : Nat} (hk : k < 9) : clearA A i k = A i k := by unfold clearA; rw [if_neg (by omega)]
theorem inv_tick {A : Mem} {n t : Nat} (h : InvA A n t) : InvA (tickA A n) n (t + 1) := by
  obtain ⟨hn, h4, h3, hS, hO, hC, hT, hB⟩ := h
  have hS' : SetA (clearA A) := set_0 (fun k hk => clear_k (by omega)) hS
  have hC' : CapOk (clearA A) n := fun s hs => by
    rw [cnt_congr (A := A) (B := clearA A) (fun q _ => ⟨clear_k (by omega), clear_k (by omega)⟩), cap_0 (A := A) (fun k hk => clear_k (by omega))]
    exact hC s hs
  have hT' : Tot (clearA A) n := by
    unfold Tot
    rw [sum_congr (A := A) (B := clearA A) (k := 6) (fun q _ => clear_k (by omega)), sum_congr (A := A) (B := clearA A) (k := 5) (fun q _ => clear_k (by omega)), sum_congr (A := A) (B := clearA A) (k := 4) (fun q _ => clear_k (by omega)), clear_k (by omega), clear_k (by omega), clear_k (by omega)]
    exact hT
  have hB' : Bow (clearA A) (9720 * t) := by
    obtain ⟨w, hw, e⟩ := hB
    exact ⟨w, hw, by rw [clear_k (by omega)]; exact e⟩
  have r0 : ∀ k, k < 6 → ranksA (clearA A) n 9 0 k = A 0 k := fun k hk => by rw [ranks_0 hk, clear_k (by omega)]
  obtain ⟨c1, t1⟩ := ranks_inv hn hS' ⟨hC', hT'⟩ 9
  have hup : ∀ i k, ¬ (i = 0 ∧ k = 3) → tickA A n i k = ranksA (clearA A) n 9 i k := fun i k hh => by unfold tickA; rw [up2_app, if_neg hh]
  refine ⟨hn, by rw [tickA_04, h4], ?_, ?_, ok_tick hO, fun s hs => ?_, ?_, ?_⟩
  · unfold tickA
    rw [up2_app, if_pos ⟨rfl, rfl⟩, r0 3 (by omega), h3, nI_1]
  · unfold SetA
    rw [hup 0 0 (by omega), hup 0 1 (by omega), hup 0 2 (by omega), hup 0 5 (by omega), r0 0 (by omega), r0 1 (by omega), r0 2 (by omega), r0 5 (by omega)]
    exact hS
  · rw [cnt_congr (A := ranksA (clearA A) n 9) (B := tickA A n) (fun q _ => ⟨hup _ _ (by omega), hup _ _ (by omega)⟩)]
    rw [cap_05 (A := ranksA (clearA A) n 9) (hup 0 0 (by omega)) (hup 0 5 (by omega))]
    exact c1 s hs
  · unfold Tot
    rw [sum_congr (A := ranksA (clearA A) n 9) (B := tickA A n) (k := 6) (fun q _ => hup _ _ (by omega)), sum_congr (A := ranksA (clearA A) n 9) (B := tickA A n) (k := 5) (fun q _ => hup _ _ (by omega)), sum_congr (A := ranksA (clearA A) n 9) (B := tickA A n) (k := 4) (fun q _ => hup _ _ (by omega)), hup 0 6 (by omega), hup 0 7 (by omega), hup 0 8 (by omega)]
    exact t1
  · obtain ⟨w, hw, e⟩ := bow_ranks hn hS' (ok_clear hO) hB' 9
    exact ⟨w, by omega, by rw [hup 0 6 (by omega)]; exact e⟩
end
section
/-! THE CLASS: what it tells of a staircase; copies; who comes in -/
theorem relc_congr {S T A : Mem} {n : Nat} (h : ∀ o, o < 28 → T o = S o) (hR : RelC S A n) : RelC T A n := by
  obtain ⟨hn, r4, s4, s3, s5, rs, rc, rp⟩ := hR
  refine ⟨hn, r4, by rw [h 0 (by omega), s4], by rw [h 0 (by omega), s3], by rw [h 0 (by omega), s5], fun k hk => by rw [h 1 (by omega), rs k hk], fun s hs => by rw [h 3 (by omega), rc s hs], fun p hp => by rw [h (4 + p) (by omega)]; exact rp p hp⟩
def CpS (T S : Mem) (n : Nat) : Prop := T 0 3 = S 0 3 ∧ T 0 4 = S 0 4 ∧ T 0 5 = S 0 5 ∧ (∀ k, k < 3 → T 1 k = S 1 k) ∧ (∀ s, s < 12 → T 3 s = S 3 s) ∧ ∀ p, p < n → ∀ k, k < 9 → T (4 + p) k = S (4 + p) k
theorem relc_copy {S T A : Mem} {n : Nat} (h : CpS T S n) (hR : RelC S A n) : RelC T A n := by
  obtain ⟨hn, r4, s4, s3, s5, rs, rc, rp⟩ := hR
  obtain ⟨c3, c4, c5, cs, cc, cp⟩ := h
  refine ⟨hn, r4, by rw [c4, s4], by rw [c3, s3], by rw [c5, s5], fun k hk => by rw [cs k hk, rs k hk], fun s hs => by rw [cc s hs, rc s hs], fun p hp => ?_⟩
  have := rp p hp
  unfold RelP at this ⊢
  rw [cp p hp 0 (by omega), cp p hp 1 (by omega), cp p hp 2 (by omega), cp p hp 3 (by omega), cp p hp 4 (by omega), cp p hp 5 (by omega), cp p hp 6 (by omega), cp p hp 7 (by omega), cp p hp 8 (by omega)]
  exact this
theorem c_takeP {d q : Nat} {μ : Mem} {K : Mem → Prop} (hne : d ≠ q) (hz : bz (μ q 1)) (h : ∀ μ', (∀ a, a ≠ d → μ' a = μ a) → (∀ k, k < 9 → μ' d k = μ q k) → (∀ k, 9 ≤ k → μ' d k = μ d k) → K μ') : wp_X2_takeFrom d q μ K := by
  have hq : ∀ (ν : Mem) (k : Nat) (v : Int32), up2 ν d k v q = ν q := fun ν k v => up2_ne _ _ _ _ (Ne.symm hne)
  unfold wp_X2_takeFrom
  refine nm_e ?_
  rw [hq]
  refine ⟨hz, nm_e ?_⟩
  rw [hq, hq]
  refine nm_e ?_
  rw [hq, hq, hq]
  refine nm_e ?_
  rw [hq, hq, hq, hq]
  refine nm_e ?_
  rw [hq, hq, hq, hq, hq]
  refine nm_e ?_
  rw [hq, hq, hq, hq, hq, hq]
  refine nm_e ?_
  rw [hq, hq, hq, hq, hq, hq, hq]
  refine nm_e ?_
  rw [hq, hq, hq, hq, hq, hq, hq, hq]
  refine nm_e ?_
  refine h _ (fun a ha => ?_) (fun k hk => ?_) (fun k hk => ?_)
  · rw [up2_ne _ _ _ _ ha, up2_ne _ _ _ _ ha, up2_ne _ _ _ _ ha, up2_ne _ _ _ _ ha, up2_ne _ _ _ _ ha, up2_ne _ _ _ _ ha, up2_ne _ _ _ _ ha, up2_ne _ _ _ _ ha, up2_ne _ _ _ _ ha]
  · have : k = 0 ∨ k = 1 ∨ k = 2 ∨ k = 3 ∨ k = 4 ∨ k = 5 ∨ k = 6 ∨ k = 7 ∨ k = 8 := by omega
    rcases this with rfl | rfl | rfl | rfl | rfl | rfl | rfl | rfl | rfl <;> simp [up2_app]
  · simp [up2_app, show k ≠ 0 by omega, show k ≠ 1 by omega, show k ≠ 2 by omega, show k ≠ 3 by omega, show k ≠ 4 by omega, show k ≠ 5 by omega, show k ≠ 6 by omega, show k ≠ 7 by omega, show k ≠ 8 by omega]
/-- one staircase is copied over another -/
theorem c_takeFrom {d q n : Nat} {μ : Mem} {K : Mem → Prop} (hdis : d + 28 ≤ q ∨ q + 28 ≤ d) (hn : n ≤ 24) (hs : μ q 4 = nI n) (hz : ∀ p, p < n → bz (μ (q + 2 + 2 + p) 1)) (h : ∀ S', CpS S' (getS q μ) n → K (putS d S' μ)) : wp_X3_takeFrom d q μ K := by
  unfold wp_X3_takeFrom
  refine nm_e (nm_e (nm_e (nm_e (nm_e ?_))))
  -- the memory ahead of the loop
  have key : ∀ i j ν, j + i = n → (∀ a, ¬ (d ≤ a ∧ a < d + 28) → ν a = μ a) → CpS (getS d ν) (getS q μ) j → wp_X3_takeFrom_L62 d q K (i + 1) (nI j) ν := by
    intro i
    induction i with
    | zero =>
      intro j ν hj hν hC
      have : j = n := by omega
      subst this
      rw [wp_X3_takeFrom_L62_s]
      simp only
      have e : ν d 4 = nI j := by
        have := hC.2.1
        unfold getS at this
        rw [Nat.add_zero, Nat.add_zero] at this
        rw [this, hs]
      rw [e]
      refine br_t (nI_le (Nat.le_refl _) (by omega)) ?_
      have h1 := h (getS d ν) hC
      have e2 : putS d (getS d ν) μ = ν := by
        funext a
        unfold putS getS
        by_cases ha : d ≤ a ∧ a < d + 28
        · rw [if_pos ha, show d + (a - d) = a by omega]
        · rw [if_neg ha, hν a ha]
      rw [e2] at h1
      exact h1
    | succ i ih =>
      intro j ν hj hν hC
      rw [wp_X3_takeFrom_L62_s]
      simp only
      have e : ν d 4 = nI n := by
        have := hC.2.1
        unfold getS at this
        rw [Nat.add_zero, Nat.add_zero] at this
        rw [this, hs]
      rw [e]
      refine br_f (nI_ge (by omega) (by omega)) ⟨vp_in_nI (by omega) (by omega), vp_in_nI (by omega) (by omega), ?_⟩
      rw [nI_clamp (by omega)]
      have hq : ν (q + 2 + 2 + j) = μ (q + 2 + 2 + j) := hν _ (by omega)
      refine c_takeP (by omega) (by rw [hq]; exact hz j (by omega)) (fun ν' h1 h2 h3 => ?_)
      rw [nI_1]
      refine ih (j + 1) ν' (by omega) (fun a ha => by rw [h1 a (by omega), hν a ha]) ?_
      obtain ⟨c3, c4, c5, cs, cc, cp⟩ := hC
      unfold getS at c3 c4 c5 cs cc cp
      have hrow : ∀ o, o < 28 → o ≠ 4 + j → getS d ν' o = getS d ν o := fun o ho hne => by
        unfold getS
        exact h1 _ (by omega)
      refine ⟨by rw [hrow 0 (by omega) (by omega)]; exact c3, by rw [hrow 0 (by omega) (by omega)]; exact c4, by rw [hrow 0 (by omega) (by omega)]; exact c5, fun k hk => by rw [hrow 1 (by omega) (by omega)]; exact cs k hk, fun s hs => by rw [hrow 3 (by omega) (by omega)]; exact cc s hs, fun p hp k hk => ?_⟩
      by_cases hpj : p = j
      · subst hpj
        unfold getS
        rw [show d + (4 + p) = d + 2 + 2 + p by omega, h2 k hk, hq, show q + (4 + p) = q + 2 + 2 + p by omega]
      · rw [hrow (4 + p) (by omega) (by omega)]
        exact cp p (by omega) k hk
  refine ⟨n + 1, key n 0 _ (by omega) (fun a ha => ?_) ?_⟩
  · rw [up2_ne _ _ _ _ (by omega), up2_ne _ _ _ _ (by omega), up2_ne _ _ _ _ (by omega), upR_ne _ _ _ (by omega), upR_ne _ _ _ (by omega)]
  · unfold getS
    have n1 : ∀ o, q + o ≠ d ∨ ¬ o < 28 := fun o => by omega
    refine ⟨?_, ?_, ?_, fun k hk => ?_, fun s hs => ?_, fun p hp => by omega⟩
    · simp [up2_app, upR_ne, show q ≠ d by omega, show q ≠ d + 3 by omega, show q ≠ d + 1 by omega]
    · simp [up2_app, upR_ne, show q ≠ d by omega, show q ≠ d + 3 by omega, show q ≠ d + 1 by omega]
    · simp [up2_app, upR_ne, show q ≠ d by omega, show q ≠ d + 3 by omega, show q ≠ d + 1 by omega]
    · dsimp only
      rw [up2_ne _ _ _ _ (by omega), up2_ne _ _ _ _ (by omega), up2_ne _ _ _ _ (by omega), upR_ne _ _ _ (by omega), upR_row, pk_cpy_in (by omega) (by omega), show 0 + (k - 0) = k by omega]
    · dsimp only
      rw [up2_ne _ _ _ _ (by omega), up2_ne _ _ _ _ (by omega), up2_ne _ _ _ _ (by omega), upR_row, pk_cpy_in (by omega) (by omega), upR_ne _ _ _ (by omega), show 0 + (s - 0) = s by omega]
/-! what is told of a person -/
theorem c_tell {q : Nat} {x : Int32} {μ a : Mem} {i : Nat} {K : Int32 → Mem → Prop} (hR : RelP (μ q) (a i)) (hO : OkP (a i)) (hk : ∀ k : Nat, k < 9 → x = nI k → K (a i k) μ) (h0 : (x < 0 ∨ 8 < x) → K (-2) μ) : wp_X2_tell q x μ K := by
  obtain ⟨⟨f0, f1, f2, f4, f5, f6, f8⟩, g1, g2, g3, g4, g5⟩ := hR
  have xk : ∀ k : Nat, k < 9 → x.toInt = k → x = nI k := fun k hk e => Int32.toInt_inj.mp (by rw [e, nI_toInt (by omega)])
  unfold wp_X2_tell
  refine ⟨fun c => h0 ?_, fun c => ?_, fun c => ?_, fun c => ?_, fun c => ?_, fun c => ?_, fun c => ?_, fun c => ?_, fun c => ?_, fun c => ?_⟩
  · rcases c with c | c
    · exact Or.inl (by rw [fa_lt]; exact c)
    · exact Or.inr (by rw [fa_lt]; exact c)
  · have := hk 0 (by omega) (xk 0 (by omega) c)
    rw [← f0] at this
    exact this
  · have := hk 1 (by omega) (xk 1 (by omega) c)
    rw [f1]
    rcases hO.1 with e | e
    · rw [e] at this ⊢
      exact br_t rfl this
    · rw [e] at this ⊢
      exact br_f (by decide) this
  · have := hk 2 (by omega) (xk 2 (by omega) c)
    rw [← f2] at this
    exact this
  · have := hk 3 (by omega) (xk 3 (by omega) c)
    rw [f2]
    refine ⟨fun z => ?_, fun z => ?_⟩
    · rw [g2 z] at this
      exact this
    · rw [← g1 z] at this
      exact this
  · have := hk 4 (by omega) (xk 4 (by omega) c)
    rw [← f4] at this
    exact this
  · have := hk 5 (by omega) (xk 5 (by omega) c)
    rw [← f5] at this
    exact this
  · have := hk 6 (by omega) (xk 6 (by omega) c)
    rw [← f6] at this
    exact this
  · have := hk 7 (by omega) (xk 7 (by omega) c)
    refine c_isOnWay (fun z => br_f (by decide) ?_) (fun z => br_t rfl ?_)
    · rw [f2] at z
      rw [g4 z] at this
      exact this
    · rw [f2] at z
      rw [← g5 z] at this
      exact this
  · have := hk 8 (by omega) (xk 8 (by omega) c)
    rw [← f8] at this
    exact this
/-! what is told of all -/
def whoA (A : Mem) (w : Int32) : Nat → Nat
  | 0 => 0
  | n + 1 => whoA A w n + (if A (n + 1) 2 = w then 1 else 0)
theorem c_peopleWho {b n : Nat} {w : Int32} {S μ A : Mem} {K : Int32 → Mem → Prop} (hR : RelC S A n) (h : K (nI (whoA A w n)) (putS b S μ)) : wp_X3_peopleWho b w (putS b S μ) K := by
  have hn := hR.1
  have key : ∀ d j, j + d = n → wp_X3_peopleWho_L4 b w K (d + 1) (nI (whoA A w j)) (nI j) (putS b S μ) := by
    intro d
    induction d with
    | zero =>
      intro j hj
      have : j = n := by omega
      subst this
      rw [wp_X3_peopleWho_L4_s]
      simp only
      rw [putS_b, hR.2.2.1]
      exact br_t (nI_le (Nat.le_refl _) (by omega)) h
    | succ d ih =>
      intro j hj
      rw [wp_X3_peopleWho_L4_s]
      simp only
      rw [putS_b, hR.2.2.1]
      refine br_f (nI_ge (by omega) (by omega)) ⟨vp_in_nI (by omega) (by omega), ?_⟩
      rw [nI_clamp (by omega), putS_P b S μ (by omega), (hR.2.2.2.2.2.2.2 j (by omega)).1.2.2.1]
      have h1 := ih (j + 1) (by omega)
      rw [whoA, ← nI_1] at h1
      refine ⟨fun q => ?_, fun q => ?_⟩
      · rw [if_neg q] at h1
        exact h1
      · rw [if_pos q] at h1
        rw [nI_1]
        exact h1
  exact ⟨n + 1, key n 0 (by omega)⟩
theorem c_sumOf {b n k : Nat} {w : Int32} {S μ A : Mem} {K : Int32 → Mem → Prop} (hk : k < 9) (hw : w = nI k) (hR : RelC S A n) (hO : OkA A n) (h : K (sumA A k n) (putS b S μ)) : wp_X3_sumOf b w (putS b S μ) K := by
  have hn := hR.1
  subst hw
  have key : ∀ d j, j + d = n → wp_X3_sumOf_L4 b (nI k) K (d + 1) (sumA A k j) (nI j) (putS b S μ) := by
    intro d
    induction d with
    | zero =>
      intro j hj
      have : j = n := by omega
      subst this
      rw [wp_X3_sumOf_L4_s]
      simp only
      rw [putS_b, hR.2.2.1]
      exact br_t (nI_le (Nat.le_refl _) (by omega)) h
    | succ d ih =>
      intro j hj
      rw [wp_X3_sumOf_L4_s]
      simp only
      rw [putS_b, hR.2.2.1]
      refine br_f (nI_ge (by omega) (by omega)) ⟨vp_in_nI (by omega) (by omega), ?_⟩
      rw [nI_clamp (by omega)]
      have h1 := ih (j + 1) (by omega)
      rw [sumA, ← nI_1] at h1
      refine c_tell (a := A) (i := j + 1) (by rw [putS_P b S μ (by omega)]; exact hR.2.2.2.2.2.2.2 j (by omega)) (hO j (by omega)) (fun k2 hk2 e => ?_) (fun z => ?_)
      · have : k = k2 := nI_inj (by omega) (by omega) e
        rw [← this]
        exact h1
      · rcases z with z | z
        · exact absurd z (nI_pos (by omega))
        · exact absurd z (nI_nlt (b := k) (a := 8) (by omega) (by omega))
  exact ⟨n + 1, key n 0 (by omega)⟩
/-- somebody is on the way -/
def wayN (A : Mem) : Nat → Bool
  | 0 => false
  | n + 1 => wayN A n || decide (A (n + 1) 2 = 0 ∨ A (n + 1) 2 = 1)
theorem wayN_ex {A : Mem} : ∀ {n : Nat}, wayN A n = true ↔ ∃ p, p < n ∧ (A (p + 1) 2 = 0 ∨ A (p + 1) 2 = 1)
  | 0 => by simp [wayN]
  | n + 1 => by
    unfold wayN
    rw [Bool.or_eq_true, wayN_ex (n := n), decide_eq_true_eq]
    constructor
    · rintro (⟨p, hp, e⟩ | e)
      · exact ⟨p, by omega, e⟩
      · exact ⟨n, by omega, e⟩
    · rintro ⟨p, hp, e⟩
      by_cases hpn : p = n
      · subst hpn; exact Or.inr e
      · exact Or.inl ⟨p, by omega, e⟩
theorem c_anybody {b n : Nat} {S μ A : Mem} {K : Int32 → Mem → Prop} (hR : RelC S A n) (h1 : wayN A n = true → K 1 (putS b S μ)) (h0 : ¬ wayN A n = true → K 0 (putS b S μ)) : wp_X3_isAnybodyOnWay b (putS b S μ) K := by
  have hn := hR.1
  have key : ∀ d j, j + d = n → (¬ ∃ p, p < j ∧ (A (p + 1) 2 = 0 ∨ A (p + 1) 2 = 1)) → wp_X3_isAnybodyOnWay_L2 b K (d + 1) (nI j) (putS b S μ) := by
    intro d
    induction d with
    | zero =>
      intro j hj hno
      have : j = n := by omega
      subst this
      rw [wp_X3_isAnybodyOnWay_L2_s]
      simp only
      rw [putS_b, hR.2.2.1]
      exact br_t (nI_le (Nat.le_refl _) (by omega)) (h0 (fun z => hno (wayN_ex.mp z)))
    | succ d ih =>
      intro j hj hno
      rw [wp_X3_isAnybodyOnWay_L2_s]
      simp only
      rw [putS_b, hR.2.2.1]
      refine br_f (nI_ge (by omega) (by omega)) ⟨vp_in_nI (by omega) (by omega), ?_⟩
      rw [nI_clamp (by omega)]
      have rj := (hR.2.2.2.2.2.2.2 j (by omega)).1.2.2.1
      refine c_isOnWay (fun q => br_f (by decide) ?_) (fun q => br_t rfl ?_)
      · rw [putS_P b S μ (by omega), rj] at q
        exact h1 (wayN_ex.mpr ⟨j, by omega, q⟩)
      · rw [putS_P b S μ (by omega), rj] at q
        rw [nI_1]
        refine ih (j + 1) (by omega) ?_
        rintro ⟨p, hp, e⟩
        by_cases hpj : p = j
        · subst hpj; exact q e
        · exact hno ⟨p, by omega, e⟩
  exact ⟨n + 1, key n 0 (by omega) (by rintro ⟨p, hp, _⟩; omega)⟩
/-- the highest on a step -/
def hiA (A : Mem) (s : Int32) : Nat → Option Nat
  | 0 => none
  | n + 1 => if A (n + 1) 2 = 1 ∧ A (n + 1) 3 = s then
      (match hiA A s n with
        | none => some n
        | some q => if A (q + 1) 0 < A (n + 1) 0 then some n else some q)
    else hiA A s n
theorem hiA_s {A : Mem} {s : Int32} {n : Nat} (h : A (n + 1) 2 = 1 ∧ A (n + 1) 3 = s) (hn : hiA A s n = none) : hiA A s (n + 1) = some n := by
  unfold hiA
  rw [if_pos h, hn]
theorem hiA_s2 {A : Mem} {s : Int32} {n q : Nat} (h : A (n + 1) 2 = 1 ∧ A (n + 1) 3 = s) (hn : hiA A s n = some q) : hiA A s (n + 1) = if A (q + 1) 0 < A (n + 1) 0 then some n else some q := by
  conv => lhs; unfold hiA
  rw [if_pos h, hn]
theorem hiA_n {A : Mem} {s : Int32} {n : Nat} (h : ¬ (A (n + 1) 2 = 1 ∧ A (n + 1) 3 = s)) : hiA A s (n + 1) = hiA A s n := by
  conv => lhs; unfold hiA
  rw [if_neg h]
theorem hiA_lt {A : Mem} {s : Int32} : ∀ {n q : Nat}, hiA A s n = some q → q < n
  | 0, q, h => by simp [hiA] at h
  | n + 1, q, h => by
    by_cases hc : A (n + 1) 2 = 1 ∧ A (n + 1) 3 = s
    · cases hh : hiA A s n with
      | none =>
        rw [hiA_s hc hh] at h
        cases h
        omega
      | some q2 =>
        rw [hiA_s2 hc hh] at h
        have := hiA_lt hh
        split at h <;> cases h <;> omega
    · rw [hiA_n hc] at h
      have := hiA_lt h
      omega
def rkI (A : Mem) : Option Nat → Int32
  | none => 0
  | some q => A (q + 1) 0
theorem c_highestOn {b n : Nat} {x : Int32} {S μ A : Mem} {K : Int32 → Mem → Prop} (hR : RelC S A n) (hO : OkA A n) (h : K (oI (hiA A x n)) (putS b S μ)) : wp_X3_highestOn b x (putS b S μ) K := by
  have hn := hR.1
  have key : ∀ d j, j + d = n → wp_X3_highestOn_L8 b x K (d + 1) (oI (hiA A x j)) (rkI A (hiA A x j)) (nI j) (putS b S μ) := by
    intro d
    induction d with
    | zero =>
      intro j hj
      have : j = n := by omega
      subst this
      rw [wp_X3_highestOn_L8_s]
      simp only
      rw [putS_b, hR.2.2.1]
      exact br_t (nI_le (Nat.le_refl _) (by omega)) h
    | succ d ih =>
      intro j hj
      rw [wp_X3_highestOn_L8_s]
      simp only
      rw [putS_b, hR.2.2.1]
      refine br_f (nI_ge (by omega) (by omega)) ⟨vp_in_nI (by omega) (by omega), ?_⟩
      rw [nI_clamp (by omega)]
      have rj := hR.2.2.2.2.2.2.2 j (by omega)
      have h1 := ih (j + 1) (by omega)
      rw [← nI_1] at h1
      refine c_standsOn (fun q => br_f (by decide) ⟨vp_in_nI (by omega) (by omega), ?_⟩) (fun q => br_t rfl ?_)
      · rw [putS_P b S μ (by omega), at_iff rj] at q
        rw [putS_P b S μ (by omega), rj.1.1]
        cases hh : hiA A x j with
        | none =>
          rw [hiA_s q hh] at h1
          obtain ⟨r, r1, r9, e⟩ := (hO j (by omega)).2.1
          refine br_f ?_ ⟨vp_in_nI (by omega) (by omega), h1⟩
          show ¬ A (j + 1) 0 ≤ 0
          rw [e]
          exact nI_nle (by omega) (by omega)
        | some q2 =>
          rw [hiA_s2 q hh] at h1
          show (A (j + 1) 0 ≤ A (q2 + 1) 0 → _) ∧ _
          by_cases hc : A (q2 + 1) 0 < A (j + 1) 0
          · rw [if_pos hc] at h1
            exact br_f (by rw [fa_lt] at hc; rw [fa_le]; omega) ⟨vp_in_nI (by omega) (by omega), h1⟩
          · rw [if_neg hc] at h1
            exact br_t (by rw [fa_lt] at hc; rw [fa_le]; omega) h1
      · rw [putS_P b S μ (by omega), at_iff rj] at q
        rw [hiA_n q] at h1
        exact h1
  exact ⟨n + 1, key n 0 (by omega)⟩
/-- the greatest crowd -/
def gcA (A : Mem) (n : Nat) : Nat → Nat
  | 0 => 0
  | s + 1 => max (gcA A n s) (cntA A (nI s) n)
theorem gcA_le {A : Mem} {n : Nat} : ∀ {s : Nat}, gcA A n s ≤ n
  | 0 => Nat.zero_le _
  | s + 1 => by
    unfold gcA
    have := gcA_le (A := A) (n := n) (s := s)
    have := cnt_le (A := A) (s := nI s) n
    omega
theorem gcA_iff {A : Mem} {n v : Nat} : ∀ {s : Nat}, gcA A n s ≤ v ↔ ∀ j, j < s → cntA A (nI j) n ≤ v
  | 0 => ⟨fun _ j hj => by omega, fun _ => Nat.zero_le _⟩
  | s + 1 => by
    unfold gcA
    rw [Nat.max_le, gcA_iff (s := s)]
    constructor
    · rintro ⟨h1, h2⟩ j hj
      by_cases e : j = s
      · subst e; exact h2
      · exact h1 j (by omega)
    · intro h
      exact ⟨fun j hj => h j (by omega), h s (by omega)⟩
theorem c_greatest {b n : Nat} {S μ A : Mem} {K : Int32 → Mem → Prop} (hR : RelC S A n) (h : K (nI (gcA A n 12)) (putS b S μ)) : wp_X3_greatestCrowd b (putS b S μ) K := by
  have hn := hR.1
  have key : ∀ d j, j + d = 12 → wp_X3_greatestCrowd_L4 b K (d + 1) (nI (gcA A n j)) (nI j) (putS b S μ) := by
    intro d
    induction d with
    | zero =>
      intro j hj
      have : j = 12 := by omega
      subst this
      rw [wp_X3_greatestCrowd_L4_s]
      simp only
      exact br_t (by decide) h
    | succ d ih =>
      intro j hj
      rw [wp_X3_greatestCrowd_L4_s]
      simp only
      refine br_f (nI_ge (b := 12) (by omega) (by omega)) ⟨vp_in_nI (by omega) (by omega), ?_⟩
      rw [nI_clamp (by omega), putS_at b S μ (by omega), hR.2.2.2.2.2.2.1 j (by omega), nI_1]
      have h1 := ih (j + 1) (by omega)
      rw [gcA] at h1
      have e : (if nI (gcA A n j) < nI (cntA A (nI j) n) then nI (cntA A (nI j) n) else nI (gcA A n j)) = nI (max (gcA A n j) (cntA A (nI j) n)) := by
        have a1 := gcA_le (A := A) (n := n) (s := j)
        have a2 := cnt_le (A := A) (s := nI j) n
        by_cases hc : gcA A n j < cntA A (nI j) n
        · rw [if_pos (nI_lt hc (by omega)), Nat.max_eq_right (by omega)]
        · rw [if_neg (nI_nlt (by omega) (by omega)), Nat.max_eq_left (by omega)]
      rw [e]
      exact h1
  exact ⟨13, key 12 0 (by omega)⟩
end
section
/-- the rows of the history, with one more -/
def pushH (g : Nat) : Nat := if g < 6 then g + 1 else 6
def pushR (g : Nat) (R : Nat → Nat → Int32) (r : Nat → Int32) : Nat → Nat → Int32 := fun k => if g < 6 then (if k = g then r else R k) else (if k = 5 then r else R (k + 1))
def tfA (A : Mem) (n : Nat) (v : Int32) : Nat → Bool
  | 0 => false
  | s + 1 => tfA A n v s || decide (lndA A (nI s) ∧ ¬ nI (cntA A (nI s) n) ≤ v)
theorem tfA_ex {A : Mem} {n : Nat} {v : Int32} : ∀ {s : Nat}, tfA A n v s = true ↔ ∃ j, j < s ∧ lndA A (nI j) ∧ ¬ nI (cntA A (nI j) n) ≤ v
  | 0 => by simp [tfA]
  | s + 1 => by
    unfold tfA
    rw [Bool.or_eq_true, tfA_ex (s := s), decide_eq_true_eq]
    constructor
    · rintro (⟨p, hp, e⟩ | e)
      · exact ⟨p, by omega, e⟩
      · exact ⟨s, by omega, e⟩
    · rintro ⟨p, hp, e⟩
      by_cases hps : p = s
      · subst hps; exact Or.inr e
      · exact Or.inl ⟨p, by omega, e⟩
def bI (b : Bool) : Int32 := if b = true then 1 else 0
def lbA (A : Mem) : Nat → Nat
  | 0 => 0
  | s + 1 => lbA A s + (if lndA A (nI s) then 1 else 0)
theorem sub1_wide : ∀ n, n ≤ 24 → (nI n).toInt64 - 1 = (nI n - 1).toInt64 := by decide
theorem per_lt {n : Nat} (hn : n ≤ 24) (x : Int32) : nI n - 1 < x ↔ nI n ≤ x := by
  rw [fa_lt, fa_le, show (1 : Int32) = nI 1 from rfl, pk_sub_toInt (by omega) (by omega), nI_toInt (by omega)]
  omega
theorem per_ex {n : Nat} (hn : n ≤ 24) {x : Int32} (h0 : ¬ x < 0) (h1 : ¬ nI n ≤ x) : ∃ p, p < n ∧ x = nI p := by
  obtain ⟨j, hj, rfl⟩ := nI_of h0
  refine ⟨j, ?_, rfl⟩
  rcases Nat.lt_or_ge j n with q | q
  · exact q
  · exact absurd (nI_le q hj) h1
theorem c_isPerson {n : Nat} {x : Int32} {μ : Mem} {K : Int32 → Mem → Prop} (hn : n ≤ 24) (h4 : μ 1 4 = nI n) (h1 : ∀ p, p < n → x = nI p → K 1 μ) (h0 : (x < 0 ∨ nI n ≤ x) → K 0 μ) : wp_X4_isPerson x μ K := by
  unfold wp_X4_isPerson
  rw [h4]
  refine ⟨fun z => h0 (Or.inl z), fun z => ⟨fun z2 => h0 (Or.inr z2), fun z2 => ?_⟩⟩
  obtain ⟨p, hp, e⟩ := per_ex hn z z2
  exact h1 p hp e
end
section
/-! A STAIRCASE AND A ROW of 225 numbers; the history; who comes in -/
def aR (r : Nat → Int32) : Mem := fun i k => if k = 9 then 0 else r (9 * i + k)
theorem aR_k (r : Nat → Int32) {i k : Nat} (h : k < 9) : aR r i k = r (9 * i + k) := by unfold aR; rw [if_neg (by omega)]
theorem inv_cg {A B : Mem} {n t : Nat} (h : ∀ i k, i ≤ 24 → k < 9 → B i k = A i k) (hI : InvA A n t) : InvA B n t := by
  obtain ⟨hn, h4, h3, hS, hO, hC, hT, hB⟩ := hI
  refine ⟨hn, by rw [h 0 4 (by omega) (by omega), h4], by rw [h 0 3 (by omega) (by omega), h3], ?_, fun p hp => okp_congr (hO p hp) (h _ 0 (by omega) (by omega)) (h _ 1 (by omega) (by omega)) (h _ 2 (by omega) (by omega)) (h _ 3 (by omega) (by omega)), fun s hs => ?_, ?_, ?_⟩
  · unfold SetA
    rw [h 0 0 (by omega) (by omega), h 0 1 (by omega) (by omega), h 0 2 (by omega) (by omega), h 0 5 (by omega) (by omega)]
    exact hS
  · rw [cnt_congr (A := A) (B := B) (fun q hq => ⟨h _ 2 (by omega) (by omega), h _ 3 (by omega) (by omega)⟩), cap_05 (A := A) (h 0 0 (by omega) (by omega)) (h 0 5 (by omega) (by omega))]
    exact hC s hs
  · unfold Tot
    rw [h 0 6 (by omega) (by omega), h 0 7 (by omega) (by omega), h 0 8 (by omega) (by omega), sum_congr (A := A) (B := B) (k := 6) (fun q hq => h _ 6 (by omega) (by omega)), sum_congr (A := A) (B := B) (k := 5) (fun q hq => h _ 5 (by omega) (by omega)), sum_congr (A := A) (B := B) (k := 4) (fun q hq => h _ 4 (by omega) (by omega))]
    exact hT
  · unfold Bow
    rw [h 0 6 (by omega) (by omega)]
    exact hB
theorem relA_cg {S A B : Mem} {n : Nat} (h : ∀ i k, i ≤ 24 → k < 9 → B i k = A i k) (hR : RelC S A n) : RelC S B n := by
  obtain ⟨hn, r4, s4, s3, s5, rs, rc, rp⟩ := hR
  refine ⟨hn, by rw [h 0 4 (by omega) (by omega), r4], s4, by rw [h 0 5 (by omega) (by omega), s3], by rw [h 0 3 (by omega) (by omega), s5], fun k hk => by rw [rs k hk, h 0 k (by omega) (by omega)], fun s hs => ?_, fun p hp => ?_⟩
  · rw [rc s hs, cnt_congr (A := A) (B := B) (fun q hq => ⟨h _ 2 (by omega) (by omega), h _ 3 (by omega) (by omega)⟩)]
  · have := rp p hp
    unfold RelP at this ⊢
    rw [h _ 0 (by omega) (by omega), h _ 1 (by omega) (by omega), h _ 2 (by omega) (by omega), h _ 3 (by omega) (by omega), h _ 4 (by omega) (by omega), h _ 5 (by omega) (by omega), h _ 6 (by omega) (by omega), h _ 7 (by omega) (by omega), h _ 8 (by omega) (by omega)]
    exact this
def RelSt (S : Mem) (r : Nat → Int32) : Prop := ∃ n t, t ≤ 9999 ∧ InvA (aR r) n t ∧ RelC S (aR r) n
theorem relst_cg {S : Mem} {r r' : Nat → Int32} (h : ∀ j, j < 225 → r' j = r j) (hR : RelSt S r) : RelSt S r' := by
  obtain ⟨n, t, ht, hI, hC⟩ := hR
  have hk : ∀ i k, i ≤ 24 → k < 9 → aR r' i k = aR r i k := fun i k hi hk => by rw [aR_k _ hk, aR_k _ hk, h _ (by omega)]
  exact ⟨n, t, ht, inv_cg hk hI, relA_cg hk hC⟩
theorem relst_S {S T : Mem} {r : Nat → Int32} (h : ∀ o, o < 28 → T o = S o) (hR : RelSt S r) : RelSt T r := by
  obtain ⟨n, t, ht, hI, hC⟩ := hR
  exact ⟨n, t, ht, hI, relc_congr h hC⟩
theorem getS_eq {b : Nat} {μ ν : Mem} (h : ∀ a, b ≤ a → a < b + 28 → ν a = μ a) : ∀ o, o < 28 → getS b ν o = getS b μ o := fun o ho => h _ (by omega) (by omega)
/-- a copy from q to d: the place d holds what q holds -/
theorem c_copy {d q : Nat} {r : Nat → Int32} {μ : Mem} {K : Mem → Prop} (hdis : d + 28 ≤ q ∨ q + 28 ≤ d) (hR : RelSt (getS q μ) r) (h : ∀ S', RelSt S' r → (∀ A n, RelC (getS q μ) A n → RelC S' A n) → K (putS d S' μ)) : wp_X3_takeFrom d q μ K := by
  obtain ⟨n, t, ht, hI, hC⟩ := hR
  have e4 : μ q 4 = nI n := hC.2.2.1
  refine c_takeFrom hdis hC.1 e4 (fun p hp => ?_) (fun S' hS' => h S' ⟨n, t, ht, hI, relc_copy hS' hC⟩ (fun A m hA => ?_))
  · have := (hC.2.2.2.2.2.2.2 p hp).1.2.1
    unfold getS at this
    rw [show q + 2 + 2 + p = q + (4 + p) by omega, this]
    exact (hI.2.2.2.2.1 p hp).1
  · have : m = n := by
      have e1 := hA.2.2.1
      have e2 := hC.2.2.1
      rw [e1] at e2
      exact (nI_eq (by have := hA.1; omega) (by have := hC.1; omega)).mp e2
    subst this
    exact relc_copy hS' hA
/-! ===== the history ===== -/
def HistC (μ : Mem) (g : Nat) (R : Nat → Nat → Int32) : Prop :=
  ∃ π : Nat → Nat, g ≤ 6 ∧ μ 57 1 = nI g ∧ (∀ k, k < 6 → π k < 6 ∧ μ 58 k = nI (π k)) ∧ (∀ i j, i < 6 → j < 6 → π i = π j → i = j) ∧ ∀ k, k < g → RelSt (getS (59 + 28 * π k) μ) (R k)
theorem hist_fr {μ ν : Mem} {g : Nat} {R : Nat → Nat → Int32} (h : ∀ a, 57 ≤ a → a < 227 → ν a = μ a) (hH : HistC μ g R) : HistC ν g R := by
  obtain ⟨π, hg, h57, h58, hi, hr⟩ := hH
  refine ⟨π, hg, by rw [h 57 (by omega) (by omega), h57], fun k hk => by rw [h 58 (by omega) (by omega)]; exact h58 k hk, hi, fun k hk => relst_S (getS_eq (fun a h1 h2 => ?_)) (hr k hk)⟩
  have := (h58 k (by omega)).1
  exact h a (by omega) (by omega)
theorem hist_cg {μ : Mem} {g : Nat} {R R' : Nat → Nat → Int32} (h : ∀ k j, k < g → j < 225 → R' k j = R k j) (hH : HistC μ g R) : HistC μ g R' := by
  obtain ⟨π, hg, h57, h58, hi, hr⟩ := hH
  exact ⟨π, hg, h57, h58, hi, fun k hk => relst_cg (fun j hj => h k j hk hj) (hr k hk)⟩
theorem c_keepB {g : Nat} {R : Nat → Nat → Int32} {r : Nat → Int32} {μ : Mem} {K : Mem → Prop} (hg : g ≤ 5) (hH : HistC μ g R) (hR : RelSt (getS 1 μ) r) (h : ∀ ν : Mem, (∀ a, ¬ (57 ≤ a ∧ a < 227) → ν a = μ a) → HistC ν (g + 1) (fun k => if k = g then r else R k) → K ν) : wp_X0_keep_B13 1 K μ := by
  obtain ⟨π, -, h57, h58, hi, hr⟩ := hH
  obtain ⟨hp, e58⟩ := h58 g (by omega)
  unfold wp_X0_keep_B13
  rw [h57]
  refine br_f (nI_pos (by omega)) (br_f (nI_ge (b := 6) (by omega) (by omega)) ⟨vp_in_nI (by omega) (by omega), ?_⟩)
  rw [nI_clamp (by omega), e58, nI_clamp (by omega)]
  refine ⟨hp, c_copy (Or.inr (by omega)) hR (fun S' hS' _ => nm_e ?_)⟩
  have e57 : putS (59 + 28 * π g) S' μ 57 = μ 57 := putS_ne _ _ _ (by omega)
  rw [e57, h57, nI_1]
  refine h _ (fun a ha => ?_) ⟨π, by omega, ?_, fun k hk => ⟨(h58 k hk).1, ?_⟩, hi, fun k hk => ?_⟩
  · rw [up2_ne _ _ _ _ (by omega), putS_ne _ _ _ (by omega)]
  · rw [up2_app, if_pos ⟨rfl, rfl⟩]
  · rw [up2_ne _ _ _ _ (by omega), putS_ne _ _ _ (by omega)]
    exact (h58 k hk).2
  · have hpk := (h58 k (by omega)).1
    dsimp only
    by_cases e : k = g
    · subst e
      rw [if_pos rfl]
      refine relst_S (fun o ho => ?_) hS'
      unfold getS
      rw [up2_ne _ _ _ _ (by omega)]
      exact putS_at _ _ _ ho
    · rw [if_neg e]
      refine relst_S (getS_eq (fun a h1 h2 => ?_)) (hr k (by omega))
      have hne : π k ≠ π g := fun z => e (hi k g (by omega) (by omega) z)
      rw [up2_ne _ _ _ _ (by omega), putS_ne _ _ _ (by omega)]
theorem c_drop {R : Nat → Nat → Int32} {μ : Mem} {K : Mem → Prop} (hH : HistC μ 6 R) (h : ∀ ν : Mem, (∀ a, a ≠ 57 → a ≠ 58 → ν a = μ a) → HistC ν 5 (fun k => R (k + 1)) → K ν) : wp_X0_dropOldest μ K := by
  obtain ⟨π, -, h57, h58, hi, hr⟩ := hH
  obtain ⟨hp0, e0⟩ := h58 0 (by omega)
  unfold wp_X0_dropOldest
  rw [e0, nI_clamp (by omega)]
  refine ⟨hp0, ?_⟩
  have key : ∀ d j (ν : Mem), (j + 1) + d = 6 → (∀ a, a ≠ 58 → ν a = μ a) → (∀ k, k < j → ν 58 k = μ 58 (k + 1)) → (∀ k, ¬ k < j → ν 58 k = μ 58 k) → wp_X0_dropOldest_L9 (nI (π 0)) K (d + 1) (nI (j + 1)) ν := by
    intro d
    induction d with
    | zero =>
      intro j ν hj h1 h2 h3
      have : j = 5 := by omega
      subst this
      rw [wp_X0_dropOldest_L9_s]
      simp only
      refine br_t (by decide) (nm_e (nm_e ?_))
      rw [up2_ne _ _ _ _ (by decide), h1 57 (by decide), h57, show (nI 6 - 1 : Int32) = nI 5 by decide]
      have e58 : ∀ k, k < 6 → up2 (up2 ν 58 5 (nI (π 0))) 57 1 (nI 5) 58 k = if k < 5 then μ 58 (k + 1) else μ 58 0 := by
        intro k hk
        rw [up2_ne _ _ _ _ (by decide), up2_app]
        by_cases e : k = 5
        · subst e
          rw [if_pos ⟨rfl, rfl⟩, if_neg (by omega), e0]
        · rw [if_neg (fun z => e z.2), if_pos (by omega), h2 k (by omega)]
      refine h _ (fun a ha hb => ?_) ⟨fun k => if k < 5 then π (k + 1) else π 0, by omega, ?_, fun k hk => ⟨?_, ?_⟩, fun i j hi6 hj6 e => ?_, fun k hk => ?_⟩
      · rw [up2_ne _ _ _ _ ha, up2_ne _ _ _ _ hb, h1 a hb]
      · rw [up2_app, if_pos ⟨rfl, rfl⟩]
      · dsimp only
        split
        · exact (h58 _ (by omega)).1
        · exact hp0
      · rw [e58 k hk]
        dsimp only
        split
        · exact (h58 _ (by omega)).2
        · exact e0
      · dsimp only at e
        split at e <;> split at e
        · have := hi _ _ (by omega) (by omega) e; omega
        · have := hi _ _ (by omega) (by omega) e; omega
        · have := hi _ _ (by omega) (by omega) e; omega
        · omega
      · dsimp only
        rw [if_pos hk]
        have hpk := (h58 (k + 1) (by omega)).1
        refine relst_S (getS_eq (fun a ha hb => ?_)) (hr (k + 1) (by omega))
        rw [up2_ne _ _ _ _ (by omega), up2_ne _ _ _ _ (by omega), h1 a (by omega)]
    | succ d ih =>
      intro j ν hj h1 h2 h3
      rw [wp_X0_dropOldest_L9_s]
      simp only
      refine br_f (nI_ge (b := 6) (by omega) (by omega)) ⟨vp_in_nI (by omega) (by omega), ?_⟩
      obtain ⟨hpj, ej⟩ := h58 (j + 1) (by omega)
      rw [nI_clamp (by omega), h3 _ (by omega), ej, nI_clamp (by omega)]
      refine ⟨hpj, ?_⟩
      rw [nI_pred]
      refine ⟨vp_in_nI (by omega) (by omega), nm_e ?_⟩
      rw [nI_clamp (by omega), nI_1]
      refine ih (j + 1) _ (by omega) (fun a ha => by rw [up2_ne _ _ _ _ ha, h1 a ha]) (fun k hk => ?_) (fun k hk => ?_)
      · rw [up2_app]
        by_cases e : k = j
        · subst e
          rw [if_pos ⟨rfl, rfl⟩, ej]
        · rw [if_neg (fun z => e z.2)]
          exact h2 k (by omega)
      · rw [up2_app, if_neg (fun z => hk (by omega))]
        exact h3 k (by omega)
  exact ⟨6, key 5 0 μ (by omega) (fun _ _ => rfl) (fun k hk => by omega) (fun _ _ => rfl)⟩
theorem c_keep {g : Nat} {R : Nat → Nat → Int32} {r : Nat → Int32} {μ : Mem} {K : Mem → Prop} (hH : HistC μ g R) (hR : RelSt (getS 1 μ) r) (h : ∀ ν : Mem, (∀ a, ¬ (57 ≤ a ∧ a < 227) → ν a = μ a) → HistC ν (pushH g) (pushR g R r) → K ν) : wp_X0_keep 1 μ K := by
  have hg : g ≤ 6 := by obtain ⟨π, hg, -⟩ := hH; exact hg
  have h57 : μ 57 1 = nI g := by obtain ⟨π, -, h57, -⟩ := hH; exact h57
  unfold wp_X0_keep
  rw [h57]
  by_cases h6 : g = 6
  · subst h6
    refine br_nf rfl (c_drop hH (fun ν h1 h2 => ?_))
    refine c_keepB (by omega) h2 (relst_S (getS_eq (fun a ha hb => h1 a (by omega) (by omega))) hR) (fun ρ h3 h4 => ?_)
    refine h ρ (fun a ha => by rw [h3 a ha, h1 a (by omega) (by omega)]) ?_
    have e : pushR 6 R r = (fun k => if k = 5 then r else R (k + 1)) := by
      unfold pushR
      funext k
      rw [if_neg (by omega)]
    rw [e]
    exact h4
  · refine br_nt (by rw [show (6 : Int32) = nI 6 from rfl]; exact fun z => h6 (nI_inj (by omega) (by omega) z)) ?_
    refine c_keepB (by omega) hH hR (fun ρ h3 h4 => h ρ h3 ?_)
    have e : pushR g R r = (fun k => if k = g then r else R k) := by
      unfold pushR
      funext k
      rw [if_pos (by omega)]
    have e2 : pushH g = g + 1 := by unfold pushH; rw [if_pos (by omega)]
    rw [e, e2]
    exact h4
/-! ===== who comes in ===== -/
def comesA (A : Mem) (n : Nat) (r u : Int32) : Mem := fun i k => if i = n + 1 ∧ k < 9 then (if k = 0 then r else if k = 1 then u else if k = 3 then -6 else if k = 7 then -6 else 0) else if i = 0 ∧ k = 4 then nI (n + 1) else A i k
theorem comes_p (A : Mem) (n : Nat) (r u : Int32) {k : Nat} (hk : k < 9) : comesA A n r u (n + 1) k = if k = 0 then r else if k = 1 then u else if k = 3 then -6 else if k = 7 then -6 else 0 := by unfold comesA; rw [if_pos ⟨rfl, hk⟩]
theorem comes_q (A : Mem) (n : Nat) (r u : Int32) {q k : Nat} (hq : q < n) : comesA A n r u (q + 1) k = A (q + 1) k := by unfold comesA; rw [if_neg (by omega), if_neg (by omega)]
theorem comes_0 (A : Mem) (n : Nat) (r u : Int32) {k : Nat} (hk : k ≠ 4) : comesA A n r u 0 k = A 0 k := by unfold comesA; rw [if_neg (by omega), if_neg (by omega)]
theorem comes_4 (A : Mem) (n : Nat) (r u : Int32) : comesA A n r u 0 4 = nI (n + 1) := by unfold comesA; rw [if_neg (by omega), if_pos ⟨rfl, rfl⟩]
def zjA (A : Mem) (n j : Nat) : Mem := fun i k => if i = n + 1 ∧ k < j then 0 else up2 A 0 4 (nI (n + 1)) i k
theorem zjA_s (A : Mem) (n j : Nat) : up2 (zjA A n j) (n + 1) j 0 = zjA A n (j + 1) := by
  funext a b
  rw [up2_app]
  unfold zjA
  by_cases h : a = n + 1 ∧ b = j
  · rw [if_pos h, if_pos ⟨h.1, by omega⟩]
  · rw [if_neg h]
    by_cases h2 : a = n + 1 ∧ b < j
    · rw [if_pos h2, if_pos ⟨h2.1, by omega⟩]
    · rw [if_neg h2, if_neg (by omega)]
theorem zjA_e (A : Mem) (n : Nat) (r u : Int32) : up2 (up2 (up2 (up2 (zjA A n 9) (n + 1) 0 r) (n + 1) 1 u) (n + 1) 3 (-6)) (n + 1) 7 (-6) = comesA A n r u := by
  funext a b
  simp only [up2_app]
  unfold zjA comesA
  simp only [up2_app]
  by_cases ha : a = n + 1
  · subst ha
    by_cases hb : b < 9
    · have : b = 0 ∨ b = 1 ∨ b = 2 ∨ b = 3 ∨ b = 4 ∨ b = 5 ∨ b = 6 ∨ b = 7 ∨ b = 8 := by omega
      rcases this with rfl | rfl | rfl | rfl | rfl | rfl | rfl | rfl | rfl <;> simp
    · simp [hb, show b ≠ 0 by omega, show b ≠ 1 by omega, show b ≠ 3 by omega, show b ≠ 7 by omega]
  · simp [ha]
/-- a person comes into a hall of the class's staircase -/
theorem c_admit {b n : Nat} {r u : Int32} {S A μ : Mem} {K : Mem → Prop} (hn : n < 24) (hR : RelC S A n) (hu : bz u) (h : ∀ S', RelC S' (comesA A n r u) (n + 1) → K (putS b S' μ)) : wp_X3_admit b r u (putS b S μ) K := by
  obtain ⟨-, r4, s4, s3, s5, rs, rc, rp⟩ := id hR
  unfold wp_X3_admit
  rw [putS_b, s4]
  refine br_f (nI_ge (b := 24) (by omega) (by omega)) ⟨vp_in_nI (by omega) (by omega), ?_⟩
  rw [nI_clamp (by omega)]
  unfold wp_X2_enterHall
  refine nm_e ?_
  rw [putS_upP b S μ hn]
  refine ⟨hu, nm_e ?_⟩
  rw [putS_upP b _ μ hn]
  refine nm_e ?_
  rw [putS_upP b _ μ hn]
  have fin : ∀ w : Int32, (w = if u = 1 then -1 else 12) → wp_X2_enterHall_B26 (b + 2 + 2 + n) w (b + 2 + 2 + n) (fun m_3 => ∀ m_4, m_4 = up2 m_3 b 4 ((m_3 b 4) + 1) → K m_4) (putS b (up2 (up2 (up2 S (4 + n) 0 r) (4 + n) 1 u) (4 + n) 2 0) μ) := by
    intro w hw
    unfold wp_X2_enterHall_B26
    refine nm_e ?_
    rw [putS_upP b _ μ hn]
    refine nm_e ?_
    rw [putS_upP b _ μ hn]
    refine nm_e ?_
    rw [putS_upP b _ μ hn]
    refine nm_e ?_
    rw [putS_upP b _ μ hn]
    refine nm_e ?_
    rw [putS_upP b _ μ hn]
    refine nm_e ?_
    rw [putS_upP b _ μ hn]
    refine nm_e ?_
    rw [putS_b, putS_up0]
    refine h _ ?_
    refine ⟨by omega, comes_4 _ _ _ _, ?_, ?_, ?_, fun k hk => ?_, fun s hs => ?_, fun p hp => ?_⟩
    · simp [up2_app, s4, nI_1, show (0 : Nat) ≠ 4 + n by omega]
    · rw [comes_0 _ _ _ _ (by omega)]; simp [up2_app, s3, show (0 : Nat) ≠ 4 + n by omega]
    · rw [comes_0 _ _ _ _ (by omega)]; simp [up2_app, s5, show (0 : Nat) ≠ 4 + n by omega]
    · rw [comes_0 _ _ _ _ (by omega), ← rs k hk]; simp [up2_app, show (1 : Nat) ≠ 4 + n by omega]
    · rw [cntA, comes_p _ _ _ _ (by omega), comes_p _ _ _ _ (by omega), if_neg (by simp), Nat.add_zero, cnt_congr (A := A) (fun q hq => ⟨comes_q _ _ _ _ hq, comes_q _ _ _ _ hq⟩), ← rc s hs]
      simp [up2_app, show (3 : Nat) ≠ 4 + n by omega]
    · by_cases e : p = n
      · subst e
        refine ⟨⟨?_, ?_, ?_, ?_, ?_, ?_, ?_⟩, ?_, ?_, ?_, ?_, ?_⟩
        · rw [comes_p _ _ _ _ (by omega)]; simp [up2_app]
        · rw [comes_p _ _ _ _ (by omega)]; simp [up2_app]
        · rw [comes_p _ _ _ _ (by omega)]; simp [up2_app]
        · rw [comes_p _ _ _ _ (by omega)]; simp [up2_app]
        · rw [comes_p _ _ _ _ (by omega)]; simp [up2_app]
        · rw [comes_p _ _ _ _ (by omega)]; simp [up2_app]
        · rw [comes_p _ _ _ _ (by omega)]; simp [up2_app]
        · intro z; rw [comes_p _ _ _ _ (by omega)] at z; exact absurd z (by simp)
        · intro z; rw [comes_p _ _ _ _ (by omega)]; simp
        · intro z; rw [comes_p _ _ _ _ (by omega)]; simp [up2_app, hw]
        · intro z; rw [comes_p _ _ _ _ (by omega)]; simp
        · intro z; rw [comes_p _ _ _ _ (by omega)] at z; exact absurd (Or.inl (by simp)) z
      · have hp' : p < n := by omega
        have h1 := rp p hp'
        have e1 : ∀ k, (up2 (up2 (up2 (up2 (up2 (up2 (up2 (up2 (up2 (up2 S (4 + n) 0 r) (4 + n) 1 u) (4 + n) 2 0) (4 + n) 3 w) (4 + n) 4 0) (4 + n) 5 0) (4 + n) 6 0) (4 + n) 7 0) (4 + n) 8 0) 0 4 (up2 (up2 (up2 (up2 (up2 (up2 (up2 (up2 (up2 S (4 + n) 0 r) (4 + n) 1 u) (4 + n) 2 0) (4 + n) 3 w) (4 + n) 4 0) (4 + n) 5 0) (4 + n) 6 0) (4 + n) 7 0) (4 + n) 8 0 0 4 + 1)) (4 + p) k = S (4 + p) k := by
          intro k
          simp [up2_app, e]
        have e2 : ∀ k, comesA A n r u (p + 1) k = A (p + 1) k := fun k => comes_q _ _ _ _ hp'
        unfold RelP at h1 ⊢
        simp only [e1, e2]
        exact h1
  refine ⟨fun z => fin 12 ?_, fun z => fin (-1) ?_⟩
  · rw [if_neg (by rw [z]; decide)]
  · rw [if_pos (hu.resolve_left z)]
theorem inv_comes {A : Mem} {n t : Nat} {r u : Int32} (hn : n < 24) (hr : ∃ q : Nat, 1 ≤ q ∧ q ≤ 9 ∧ r = nI q) (hu : bz u) (h : InvA A n t) : InvA (comesA A n r u) (n + 1) t := by
  obtain ⟨-, h4, h3, hS, hO, hC, hT, hB⟩ := h
  refine ⟨by omega, comes_4 _ _ _ _, by rw [comes_0 _ _ _ _ (by omega), h3], ?_, fun p hp => ?_, fun s hs => ?_, ?_, ?_⟩
  · unfold SetA
    rw [comes_0 _ _ _ _ (by omega), comes_0 _ _ _ _ (by omega), comes_0 _ _ _ _ (by omega), comes_0 _ _ _ _ (by omega)]
    exact hS
  · by_cases e : p = n
    · subst e
      refine ⟨?_, ?_, ?_, fun z => ?_⟩
      · rw [comes_p _ _ _ _ (by omega)]; simpa [bz] using hu
      · rw [comes_p _ _ _ _ (by omega)]; simpa using hr
      · rw [comes_p _ _ _ _ (by omega)]; simp
      · rw [comes_p _ _ _ _ (by omega)] at z; exact absurd z (by simp)
    · exact okp_congr (hO p (by omega)) (comes_q _ _ _ _ (by omega)) (comes_q _ _ _ _ (by omega)) (comes_q _ _ _ _ (by omega)) (comes_q _ _ _ _ (by omega))
  · rw [cntA, comes_p _ _ _ _ (by omega), comes_p _ _ _ _ (by omega), if_neg (by simp), Nat.add_zero, cnt_congr (A := A) (fun q hq => ⟨comes_q _ _ _ _ hq, comes_q _ _ _ _ hq⟩), cap_05 (A := A) (comes_0 _ _ _ _ (by omega)) (comes_0 _ _ _ _ (by omega))]
    exact hC s hs
  · unfold Tot
    rw [comes_0 _ _ _ _ (by omega), comes_0 _ _ _ _ (by omega), comes_0 _ _ _ _ (by omega), sumA, sumA, sumA, comes_p _ _ _ _ (by omega), comes_p _ _ _ _ (by omega), comes_p _ _ _ _ (by omega), sum_congr (A := A) (k := 6) (fun q hq => comes_q _ _ _ _ hq), sum_congr (A := A) (k := 5) (fun q hq => comes_q _ _ _ _ hq), sum_congr (A := A) (k := 4) (fun q hq => comes_q _ _ _ _ hq)]
    unfold Tot at hT
    simpa using hT
  · unfold Bow
    rw [comes_0 _ _ _ _ (by omega)]
    exact hB
end
section
/-! THE PAD (the first family is pasted from laws/BITS.to-paste) -/
/-! ===== lN n to 2^64: shifts, and, or, masks, one bit ===== -/
theorem wb_tb (n : Nat) : (lN n).toBitVec = BitVec.ofNat 64 n := rfl
theorem wb_inj {a b : Int64} (h : a.toBitVec = b.toBitVec) : a = b := Int64.toBitVec_inj.mp h
theorem wb_tn {n : Nat} (h : n < 2 ^ 64) : (lN n).toBitVec.toNat = n := by rw [wb_tb, BitVec.toNat_ofNat, Nat.mod_eq_of_lt h]
theorem wb_of (x : Int64) : ∃ n, n < 2 ^ 64 ∧ x = lN n := ⟨x.toBitVec.toNat, x.toBitVec.isLt, wb_inj (by rw [wb_tb]; simp)⟩
theorem wb_of32 (x : Int32) : ∃ n, n < 2 ^ 32 ∧ x = nI n := ⟨x.toBitVec.toNat, x.toBitVec.isLt, Int32.toBitVec_inj.mp (by show _ = BitVec.ofNat 32 _; simp)⟩
theorem wb_c : ∀ k, k < 64 → ((nI k).toInt64 &&& 63) = lN k := by decide +kernel
theorem wb_cu : ∀ k, k < 64 → ((nI k).toInt64.toUInt64 &&& Int64.toUInt64 63) = UInt64.ofNat k := by decide +kernel
theorem wb_sm : ∀ k, k < 64 → (BitVec.ofNat 64 k).smod 64 = BitVec.ofNat 64 k := by decide +kernel
theorem wb_pw {a b : Nat} (h : a ≤ b) : 2 ^ b = 2 ^ a * 2 ^ (b - a) := by rw [← Nat.pow_add]; congr 1; omega
theorem wb_lt2 {a b : Nat} (h : a < b) : 2 ^ a < 2 ^ b := Nat.pow_lt_pow_right (by decide) h
theorem wb_mod (n : Nat) : lN n = lN (n % 2 ^ 64) := wb_inj (by rw [wb_tb, wb_tb]; apply BitVec.eq_of_toNat_eq; rw [BitVec.toNat_ofNat, BitVec.toNat_ofNat, Nat.mod_mod])
theorem wb_shr {n k : Nat} (hn : n < 2 ^ 64) (hk : k < 64) : ((lN n).toUInt64 >>> ((nI k).toInt64.toUInt64 &&& Int64.toUInt64 63)).toInt64 = lN (n / 2 ^ k) := by
  rw [wb_cu k hk]
  apply wb_inj
  apply BitVec.eq_of_toNat_eq
  show ((lN n).toUInt64 >>> UInt64.ofNat k).toNat = (BitVec.ofNat 64 _).toNat
  have h1 : (UInt64.ofNat k).toNat = k := by
    show (BitVec.ofNat 64 k).toNat = k
    rw [BitVec.toNat_ofNat, Nat.mod_eq_of_lt (by omega)]
  have h2 : (lN n).toUInt64.toNat = n := wb_tn hn
  rw [UInt64.toNat_shiftRight, h1, h2, Nat.mod_eq_of_lt hk, Nat.shiftRight_eq_div_pow, BitVec.toNat_ofNat, Nat.mod_eq_of_lt (Nat.lt_of_le_of_lt (Nat.div_le_self _ _) hn)]
theorem wb_shl (n : Nat) {k : Nat} (hk : k < 64) : lN n <<< ((nI k).toInt64 &&& 63) = lN (n * 2 ^ k) := by
  rw [wb_c k hk]
  apply wb_inj
  rw [Int64.toBitVec_shiftLeft, wb_tb, wb_tb, wb_tb, wb_sm k hk]
  apply BitVec.eq_of_toNat_eq
  rw [BitVec.shiftLeft_eq', BitVec.toNat_shiftLeft, BitVec.toNat_ofNat, BitVec.toNat_ofNat, BitVec.toNat_ofNat, Nat.mod_eq_of_lt (show k < 2 ^ 64 by omega), Nat.shiftLeft_eq, Nat.mul_mod, Nat.mod_mod, ← Nat.mul_mod]
theorem wb_and {a b : Nat} (ha : a < 2 ^ 64) (hb : b < 2 ^ 64) : lN a &&& lN b = lN (a &&& b) := by
  apply wb_inj
  rw [Int64.toBitVec_and, wb_tb, wb_tb, wb_tb]
  apply BitVec.eq_of_toNat_eq
  rw [BitVec.toNat_and, BitVec.toNat_ofNat, BitVec.toNat_ofNat, BitVec.toNat_ofNat, Nat.mod_eq_of_lt ha, Nat.mod_eq_of_lt hb, Nat.mod_eq_of_lt (Nat.and_lt_two_pow _ hb)]
theorem wb_or {a b : Nat} (ha : a < 2 ^ 64) (hb : b < 2 ^ 64) : lN a ||| lN b = lN (a ||| b) := by
  apply wb_inj
  rw [Int64.toBitVec_or, wb_tb, wb_tb, wb_tb]
  apply BitVec.eq_of_toNat_eq
  rw [BitVec.toNat_or, BitVec.toNat_ofNat, BitVec.toNat_ofNat, BitVec.toNat_ofNat, Nat.mod_eq_of_lt ha, Nat.mod_eq_of_lt hb, Nat.mod_eq_of_lt (Nat.or_lt_two_pow ha hb)]
theorem wb_mask {n k : Nat} (hn : n < 2 ^ 64) (hk : k < 64) : lN n &&& lN (2 ^ k - 1) = lN (n % 2 ^ k) := by
  rw [wb_and hn (by have := wb_lt2 hk; omega), Nat.and_two_pow_sub_one_eq_mod]
theorem wb_a1 {n : Nat} (hn : n < 2 ^ 64) : lN n &&& 1 = lN (n % 2) := wb_mask (k := 1) hn (by decide)
theorem wb_bit {n k : Nat} (hn : n < 2 ^ 64) (hk : k < 64) : ((lN n).toUInt64 >>> ((nI k).toInt64.toUInt64 &&& Int64.toUInt64 63)).toInt64 &&& 1 = lN (n / 2 ^ k % 2) := by
  rw [wb_shr hn hk, wb_a1 (Nat.lt_of_le_of_lt (Nat.div_le_self _ _) hn)]
theorem wb_xor {q k : Nat} (hk : k < 63) (h : 2 ^ k ≤ q) (h2 : q < 2 ^ (k + 1)) : lN q ^^^ lN (2 ^ k) = lN (q - 2 ^ k) := by
  obtain ⟨r, rfl⟩ : ∃ r, q = 2 ^ k + r := ⟨q - 2 ^ k, by omega⟩
  have hr : r < 2 ^ k := by rw [Nat.pow_succ] at h2; omega
  have hx : (2 ^ k + r) ^^^ 2 ^ k = r := by
    apply Nat.eq_of_testBit_eq
    intro i
    rw [Nat.testBit_xor, Nat.testBit_two_pow]
    rcases Nat.lt_trichotomy i k with h | h | h
    · rw [Nat.testBit_two_pow_add_gt h]
      simp [show ¬ k = i by omega]
    · subst h
      rw [Nat.testBit_two_pow_add_eq]
      simp
    · have a1 : 2 ^ (k + 1) ≤ 2 ^ i := Nat.pow_le_pow_right (by decide) h
      rw [Nat.testBit_lt_two_pow (show 2 ^ k + r < 2 ^ i by omega), Nat.testBit_lt_two_pow (show r < 2 ^ i by omega)]
      simp [show ¬ k = i by omega]
  have b1 := wb_lt2 (show k + 1 < 64 by omega)
  have b2 := wb_lt2 (show k < 64 by omega)
  apply wb_inj
  rw [Int64.toBitVec_xor, wb_tb, wb_tb, wb_tb]
  apply BitVec.eq_of_toNat_eq
  rw [BitVec.toNat_xor, BitVec.toNat_ofNat, BitVec.toNat_ofNat, BitVec.toNat_ofNat, Nat.mod_eq_of_lt (by omega : 2 ^ k + r < 2 ^ 64), Nat.mod_eq_of_lt b2, hx, Nat.add_sub_cancel_left, Nat.mod_eq_of_lt (by omega)]
/-! ===== its fault ===== -/
abbrev okC (c : Nat → Int32) (i : Nat) : Prop := (i % 2 = 0 → (c i = 117 ∨ c i = 100)) ∧ (¬ i % 2 = 0 → (¬ c i < 49 ∧ ¬ 57 < c i))
def ffE (L : Nat) : Int32 := if L % 2 = 0 ∧ 0 < L then -6 else nI L
theorem rem2 {i : Nat} (hi : i < 2 ^ 31) : nI i - nI i / 2 * 2 = nI (i % 2) := pk_rem (d := 2) hi (by omega) (by omega)
theorem rem2_0 {i : Nat} : nI (i % 2) = (0 : Int32) ↔ i % 2 = 0 := by
  rw [show (0 : Int32) = nI 0 from rfl]
  exact nI_eq (by omega) (by omega)
theorem rem2_1 {i : Nat} : nI (i % 2) = (1 : Int32) ↔ i % 2 = 1 := by
  rw [show (1 : Int32) = nI 1 from rfl]
  exact nI_eq (by omega) (by omega)
theorem c_canStand {i : Nat} {μ : Mem} {K : Int32 → Mem → Prop} (hi : i < 60) (h1 : okC (μ 230) i → K 1 μ) (h0 : ¬ okC (μ 230) i → K 0 μ) : wp_X1_canStandAt (nI i) μ K := by
  unfold wp_X1_canStandAt
  refine ⟨vp_in_nI hi (by omega), ?_⟩
  rw [nI_clamp (by omega), rem2 (by omega), rem2_0]
  refine ⟨fun e => ⟨fun z => h0 (fun y => (y.2 e).1 z), fun z => ⟨fun z2 => h0 (fun y => (y.2 e).2 z2), fun z2 => h1 ⟨fun q => absurd q e, fun _ => ⟨z, z2⟩⟩⟩⟩, fun e => ⟨fun z => h1 ⟨fun _ => Or.inl z, fun q => absurd e q⟩, fun z => ⟨fun z2 => h0 (fun y => (y.1 e).elim z z2), fun z2 => h1 ⟨fun _ => Or.inr z2, fun q => absurd e q⟩⟩⟩⟩
theorem c_fault {L : Nat} {μ : Mem} {K : Int32 → Mem → Prop} (hL : L ≤ 60) (h9 : μ 229 1 = nI L) (h1 : ∀ i, i < L → ¬ okC (μ 230) i → (∀ k, k < i → okC (μ 230) k) → K (nI i) μ) (h2 : (∀ k, k < L → okC (μ 230) k) → K (ffE L) μ) : wp_X1_firstFault μ K := by
  have key : ∀ d j, j + d = L → (∀ k, k < j → okC (μ 230) k) → wp_X1_firstFault_L2 K (d + 1) (nI j) μ := by
    intro d
    induction d with
    | zero =>
      intro j hj hk
      have : j = L := by omega
      subst this
      rw [wp_X1_firstFault_L2_s]
      simp only
      rw [h9, rem2 (by omega), rem2_1]
      refine br_t (nI_le (Nat.le_refl _) (by omega)) ?_
      have h2 := h2 hk
      unfold ffE at h2
      by_cases e : j = 0
      · subst e
        exact br_t rfl h2
      · refine br_f (nI_ne0 (by omega) (by omega)) ?_
        by_cases e2 : j % 2 = 0
        · rw [if_pos ⟨e2, by omega⟩] at h2
          exact br_nt (by omega) h2
        · rw [if_neg (fun z => e2 z.1)] at h2
          exact br_nf (by omega) h2
    | succ d ih =>
      intro j hj hk
      rw [wp_X1_firstFault_L2_s]
      simp only
      rw [h9]
      refine br_f (nI_ge (by omega) (by omega)) ?_
      refine c_canStand (by omega) (fun q => br_nt (by decide) ?_) (fun q => br_nf rfl (h1 j (by omega) q hk))
      rw [nI_1]
      refine ih (j + 1) (by omega) (fun k hk2 => ?_)
      by_cases e : k = j
      · subst e; exact q
      · exact hk k (by omega)
  exact ⟨L + 1, key L 0 (by omega) (fun k hk => by omega)⟩
/-! ===== characters of a number ===== -/
theorem lN_0 {n : Nat} (h : n < 2 ^ 64) : lN n = 0 ↔ n = 0 := by
  constructor
  · intro e
    have h1 := wb_tn h
    rw [e] at h1
    exact h1.symm
  · rintro rfl
    rfl
theorem lsr_N {n k : Nat} (hn : n < 2 ^ 64) (hk : k < 64) : lsr (lN n) (nI k) = lN (n / 2 ^ k) := by
  unfold lsr
  exact wb_shr hn hk
theorem and255 {n : Nat} (hn : n < 2 ^ 64) : lN n &&& 255 = lN (n % 256) := wb_mask (k := 8) hn (by omega)
abbrev okN (b : Nat) : Prop := 33 ≤ b ∧ b ≤ 126
theorem pow_step (n j : Nat) : n / 256 ^ j / 2 ^ 8 = n / 256 ^ (j + 1) := by rw [Nat.div_div_eq_div_mul, show 256 ^ j * 2 ^ 8 = 256 ^ (j + 1) from (Nat.pow_succ (n := 256) (m := j)).symm]
def chV (x : Int64) (i : Nat) : Int32 := Int64.toInt32 ((lsr x (nI (8 * i))) &&& 255)
theorem chV_N (x : Int64) {i : Nat} (hi : i < 8) : ∃ m, m < 256 ∧ chV x i = nI m := by
  obtain ⟨n, hn, rfl⟩ := wb_of x
  refine ⟨n / 2 ^ (8 * i) % 256, by omega, ?_⟩
  unfold chV
  rw [lsr_N hn (by omega), and255 (Nat.lt_of_le_of_lt (Nat.div_le_self _ _) hn), lN_i]
theorem chV_c (x : Int64) {i : Nat} (hi : i < 8) : vp_nar .char ((Int32.toUInt32 (chV x i) % 65536).toInt32) = chV x i := by
  obtain ⟨m, hm, e⟩ := chV_N x hi
  rw [e, pk_vc, pk_char, pk_tn (by omega), Nat.mod_eq_of_lt (by omega)]
/-- characters are appended: the class -/
theorem c_append {x : Int64} {L N : Nat} {μ : Mem} {K : Int32 → Mem → Prop} (hN : N ≤ 8) (hc : ∀ (ν : Mem) (K : Int32 → Mem → Prop), K (nI N) ν → wp_X1_charactersIn x ν K) (hL : L ≤ 60) (h9 : μ 229 1 = nI L) (h0 : N = 0 → K (-2) μ) (h4 : 0 < N → 60 < L + N → K (-4) μ)
    (h : 0 < N → L + N ≤ 60 → ∀ ν : Mem, (∀ a, a ≠ 229 → a ≠ 230 → ν a = μ a) → ν 229 0 = μ 229 0 → ν 229 1 = nI (L + N) → (∀ i, i < L → ν 230 i = μ 230 i) → (∀ k, k < N → ν 230 (L + k) = chV x (N - 1 - k)) → K (nI (L + N)) ν) : wp_X1_append x μ K := by
  unfold wp_X1_append
  refine hc _ _ ?_
  by_cases e : N = 0
  · subst e
    exact br_nf rfl (h0 rfl)
  · refine br_nt (nI_ne0 (by omega) (by omega)) ?_
    rw [h9, nI_add]
    by_cases e2 : L + N ≤ 60
    · refine br_t (nI_le (b := 60) e2 (by omega)) ?_
      have key : ∀ d j (ν : Mem), j + d = N → (∀ a, a ≠ 230 → ν a = μ a) → (∀ k, N - j ≤ k → k < N → ν 230 (L + k) = chV x (N - 1 - k)) → (∀ i, i < L + (N - j) → ν 230 i = μ 230 i) → wp_X1_append_L29 x (nI N) K (d + 1) (nI j) ν := by
        intro d
        induction d with
        | zero =>
          intro j ν hj a1 a2 a3
          have : j = N := by omega
          subst this
          rw [wp_X1_append_L29_s]
          simp only
          refine br_t (nI_le (Nat.le_refl _) (by omega)) (nm_e ?_)
          rw [a1 229 (by decide), h9, nI_add]
          rw [show up2 ν 229 1 (nI (L + j)) 229 1 = nI (L + j) by rw [up2_app, if_pos ⟨rfl, rfl⟩]]
          refine h (by omega) e2 _ (fun a ha hb => ?_) ?_ ?_ (fun i hi => ?_) (fun k hk => ?_)
          · rw [up2_ne _ _ _ _ ha, a1 a hb]
          · rw [up2_app, if_neg (by decide), a1 229 (by decide)]
          · rw [up2_app, if_pos ⟨rfl, rfl⟩]
          · rw [up2_ne _ _ _ _ (by decide), a3 i (by omega)]
          · rw [up2_ne _ _ _ _ (by decide), a2 k (by omega) hk]
        | succ d ih =>
          intro j ν hj a1 a2 a3
          rw [wp_X1_append_L29_s]
          simp only
          refine br_f (nI_ge (by omega) (by omega)) ?_
          rw [a1 229 (by decide), h9, nI_add, show (1 : Int32) = nI 1 from rfl, pk_sub (by omega), pk_sub (by omega), show (8 : Int32) * nI j = nI (8 * j) from pk_mul 8 j, nI_add]
          refine ⟨vp_in_nI (by omega) (by omega), nm_e ?_⟩
          rw [nI_clamp (by omega), show Int64.toInt32 ((lsr x (nI (8 * j))) &&& 255) = chV x j from rfl, chV_c x (by omega)]
          refine ih (j + 1) _ (by omega) (fun a ha => by rw [up2_ne _ _ _ _ ha, a1 a ha]) (fun k hk1 hk2 => ?_) (fun i hi => ?_)
          · rw [up2_app]
            by_cases e3 : k = N - 1 - j
            · rw [if_pos ⟨rfl, by omega⟩]
              congr 1
              omega
            · rw [if_neg (by omega)]
              exact a2 k (by omega) hk2
          · rw [up2_app, if_neg (by omega)]
            exact a3 i (by omega)
      exact ⟨N + 1, key N 0 μ (by omega) (fun _ _ => rfl) (fun k hk1 hk2 => by omega) (fun _ _ => rfl)⟩
    · exact br_f (nI_ge (a := 60) (by omega) (by omega)) (h4 (by omega) (by omega))
end
section
theorem at_b {b : Nat} {μ : Mem} {P : Mem → Prop} (h : P (putS b (getS b μ) μ)) : P μ := by rwa [putS_get] at h
theorem of_abs {S A : Mem} {n t : Nat} (ht : t ≤ 9999) (hI : InvA A n t) (hR : RelC S A n) : RelSt S (rowA A) := by
  have hk : ∀ i k, i ≤ 24 → k < 9 → aR (rowA A) i k = A i k := fun i k _ hk => by rw [aR_k _ hk, rowA_at _ _ _ hk]
  exact ⟨n, t, ht, inv_cg hk hI, relA_cg hk hR⟩
theorem c_who1 {n : Nat} {w : Int32} {μ A : Mem} {K : Int32 → Mem → Prop} (hR : RelC (getS 1 μ) A n) (h : K (nI (whoA A w n)) μ) : wp_X3_peopleWho 1 w μ K := by
  refine at_b (b := 1) (P := fun ν => wp_X3_peopleWho 1 w ν K) (c_peopleWho hR ?_)
  rw [putS_get]
  exact h
theorem c_sum1 {n k : Nat} {w : Int32} {μ A : Mem} {K : Int32 → Mem → Prop} (hk : k < 9) (hw : w = nI k) (hR : RelC (getS 1 μ) A n) (hO : OkA A n) (h : K (sumA A k n) μ) : wp_X3_sumOf 1 w μ K := by
  refine at_b (b := 1) (P := fun ν => wp_X3_sumOf 1 w ν K) (c_sumOf hk hw hR hO ?_)
  rw [putS_get]
  exact h
/-! CALLS THAT CHANGE the people, the settings, the landings -/
def bcE (a0 : Int32) : Int32 := ((((((((a0 - ((isr a0 1) &&& 1431655765)) &&& 858993459) + ((isr (a0 - ((isr a0 1) &&& 1431655765)) 2) &&& 858993459)) + (isr (((a0 - ((isr a0 1) &&& 1431655765)) &&& 858993459) + ((isr (a0 - ((isr a0 1) &&& 1431655765)) 2) &&& 858993459)) 4)) &&& 252645135) + (isr (((((a0 - ((isr a0 1) &&& 1431655765)) &&& 858993459) + ((isr (a0 - ((isr a0 1) &&& 1431655765)) 2) &&& 858993459)) + (isr (((a0 - ((isr a0 1) &&& 1431655765)) &&& 858993459) + ((isr (a0 - ((isr a0 1) &&& 1431655765)) 2) &&& 858993459)) 4)) &&& 252645135) 8)) + (isr ((((((a0 - ((isr a0 1) &&& 1431655765)) &&& 858993459) + ((isr (a0 - ((isr a0 1) &&& 1431655765)) 2) &&& 858993459)) + (isr (((a0 - ((isr a0 1) &&& 1431655765)) &&& 858993459) + ((isr (a0 - ((isr a0 1) &&& 1431655765)) 2) &&& 858993459)) 4)) &&& 252645135) + (isr (((((a0 - ((isr a0 1) &&& 1431655765)) &&& 858993459) + ((isr (a0 - ((isr a0 1) &&& 1431655765)) 2) &&& 858993459)) + (isr (((a0 - ((isr a0 1) &&& 1431655765)) &&& 858993459) + ((isr (a0 - ((isr a0 1) &&& 1431655765)) 2) &&& 858993459)) 4)) &&& 252645135) 8)) 16)) &&& 63)
theorem c_bitCount {x : Int32} {μ : Mem} {K : Int32 → Mem → Prop} (h : K (bcE x) μ) : wp_J6_bitCount_0f7a4 x μ K := h
/-- how many of the lowest twelve bits are set, by the test of one bit -/
def lbN (L : Nat) : Nat → Nat
  | 0 => 0
  | s + 1 => lbN L s + (if ((nI L >>> (nI s &&& 31)) &&& 1) = 1 then 1 else 0)
theorem bc_ok2 : ∀ a, a < 64 → ∀ b, b < 64 → bcE (nI (64 * a + b)) = nI (lbN (64 * a + b) 12) := by decide +kernel
theorem bc_ok (L : Nat) (h : L < 4096) : bcE (nI L) = nI (lbN L 12) := by
  have := bc_ok2 (L / 64) (by omega) (L % 64) (by omega)
  rwa [show 64 * (L / 64) + L % 64 = L by omega] at this
theorem lb_eq {A : Mem} {L : Nat} (h : A 0 5 = nI L) : ∀ s, lbA A s = lbN L s
  | 0 => rfl
  | s + 1 => by
    unfold lbA lbN lndA
    rw [lb_eq h s]
    simp only [h]
theorem sm12 : ∀ s, s < 12 → ((nI s &&& 31).toBitVec.smod 32).toNat = s := by decide
theorem lnd_bit {L s : Nat} (hL : L < 4096) (hs : s < 12) : ((nI L >>> (nI s &&& 31)) &&& 1) = 1 ↔ L.testBit s = true := by
  rw [pk_shrN (by omega) _ s (sm12 s hs), show (1 : Int32) = nI 1 from rfl, pk_andN (Nat.lt_of_le_of_lt (Nat.div_le_self _ _) (by omega)) 1 (by decide), nI_eq (by omega) (by omega), Nat.testBit_eq_decide_div_mod_eq, decide_eq_true_eq]
theorem one_shl : ∀ s, s < 12 → (1 : Int32) <<< (nI s &&& 31) = nI (2 ^ s) := by decide
theorem xor_nI (a b : Nat) : nI a ^^^ nI b = nI (a ^^^ b) := by
  apply Int32.toBitVec_inj.mp
  show BitVec.ofNat 32 a ^^^ BitVec.ofNat 32 b = BitVec.ofNat 32 (a ^^^ b)
  exact (BitVec.ofNat_xor ..).symm
theorem or_nI (a b : Nat) : nI a ||| nI b = nI (a ||| b) := by
  apply Int32.toBitVec_inj.mp
  show BitVec.ofNat 32 a ||| BitVec.ofNat 32 b = BitVec.ofNat 32 (a ||| b)
  exact (BitVec.ofNat_or ..).symm
theorem two12 {s : Nat} (hs : s < 12) : 2 ^ s < 2 ^ 12 := Nat.pow_lt_pow_right (by omega) hs
/-! ===== turn ===== -/
theorem relc_turn {S A : Mem} {n p : Nat} {v : Int32} (hp : p < n) (h2 : A (p + 1) 2 = 1) (hR : RelC S A n) : RelC (up2 S (4 + p) 1 v) (up2 A (p + 1) 1 v) n := by
  obtain ⟨hn, r4, s4, s3, s5, rs, rc, rp⟩ := hR
  refine ⟨hn, by rw [up2_ne _ _ _ _ (by omega), r4], by rw [up2_ne _ _ _ _ (by omega), s4], by rw [up2_ne _ _ _ _ (by omega), up2_ne _ _ _ _ (by omega), s3], by rw [up2_ne _ _ _ _ (by omega), up2_ne _ _ _ _ (by omega), s5], fun k hk => by rw [up2_ne _ _ _ _ (by omega), up2_ne _ _ _ _ (by omega), rs k hk], fun s hs => ?_, fun q hq => ?_⟩
  · rw [up2_ne _ _ _ _ (by omega), rc s hs, cnt_congr (A := A) (B := up2 A (p + 1) 1 v)]
    intro q _
    exact ⟨by rw [up2_app, if_neg (by omega)], by rw [up2_app, if_neg (by omega)]⟩
  · by_cases e : q = p
    · subst e
      have := rp q hq
      unfold RelP at this ⊢
      simp only [up2_app]
      simp only [show (0 : Nat) ≠ 1 by omega, show (2 : Nat) ≠ 1 by omega, show (3 : Nat) ≠ 1 by omega, show (4 : Nat) ≠ 1 by omega, show (5 : Nat) ≠ 1 by omega, show (6 : Nat) ≠ 1 by omega, show (7 : Nat) ≠ 1 by omega, show (8 : Nat) ≠ 1 by omega, and_false, if_false, and_self, if_true]
      obtain ⟨⟨f0, f1, f2, f4, f5, f6, f8⟩, g1, g2, g3, g4, g5⟩ := this
      exact ⟨⟨f0, trivial, f2, f4, f5, f6, f8⟩, g1, g2, fun z => absurd (h2.symm.trans z) (by decide), g4, g5⟩
    · rw [up2_ne _ _ _ _ (by omega), up2_ne _ _ _ _ (by omega)]
      exact rp q hq
theorem inv_up1 {A : Mem} {n t p : Nat} {v : Int32} (hv : v = 0 ∨ v = 1) (h : InvA A n t) : InvA (up2 A (p + 1) 1 v) n t := by
  obtain ⟨hn, h4, h3, hS, hO, hC, hT, hB⟩ := h
  have e0 : ∀ k, up2 A (p + 1) 1 v 0 k = A 0 k := fun k => by rw [up2_ne _ _ _ _ (by omega)]
  have ek : ∀ q k, k ≠ 1 → up2 A (p + 1) 1 v (q + 1) k = A (q + 1) k := fun q k hk => by rw [up2_app, if_neg (fun z => hk z.2)]
  refine ⟨hn, by rw [e0, h4], by rw [e0, h3], ?_, fun q hq => ?_, fun s hs => ?_, ?_, ?_⟩
  · unfold SetA; rw [e0, e0, e0, e0]; exact hS
  · obtain ⟨o1, o2, o3, o4⟩ := hO q hq
    refine ⟨?_, by rw [ek q 0 (by omega)]; exact o2, by rw [ek q 2 (by omega)]; exact o3, by rw [ek q 2 (by omega), ek q 3 (by omega)]; exact o4⟩
    rw [up2_app]
    split
    · exact hv
    · exact o1
  · rw [cnt_congr (A := A) (fun q _ => ⟨ek q 2 (by omega), ek q 3 (by omega)⟩), cap_05 (A := A) (e0 0) (e0 5)]
    exact hC s hs
  · unfold Tot
    rw [e0, e0, e0, sum_congr (A := A) (k := 6) (fun q _ => ek q 6 (by omega)), sum_congr (A := A) (k := 5) (fun q _ => ek q 5 (by omega)), sum_congr (A := A) (k := 4) (fun q _ => ek q 4 (by omega))]
    exact hT
  · unfold Bow; rw [e0]; exact hB
/-! set, landing, pass -/
theorem relc_set {S A : Mem} {n k : Nat} {v : Int32} (hk : k < 3) (hR : RelC S A n) : RelC (up2 S 1 k v) (up2 A 0 k v) n := by
  obtain ⟨hn, r4, s4, s3, s5, rs, rc, rp⟩ := hR
  refine ⟨hn, by rw [up2_app, if_neg (by omega), r4], by rw [up2_ne _ _ _ _ (by omega), s4], by rw [up2_ne _ _ _ _ (by omega), up2_app, if_neg (by omega), s3], by rw [up2_ne _ _ _ _ (by omega), up2_app, if_neg (by omega), s5], fun j hj => ?_, fun s hs => ?_, fun q hq => by rw [up2_ne _ _ _ _ (by omega), up2_ne _ _ _ _ (by omega)]; exact rp q hq⟩
  · rw [up2_app, up2_app, rs j hj]
    simp
  · rw [up2_ne _ _ _ _ (by omega), rc s hs, cnt_congr (A := A) (B := up2 A 0 k v)]
    intro q _
    rw [up2_ne _ _ _ _ (by omega)]
    exact ⟨rfl, rfl⟩
theorem relc_land {S A : Mem} {n : Nat} {v : Int32} (hR : RelC S A n) : RelC (up2 S 0 3 v) (up2 A 0 5 v) n := by
  obtain ⟨hn, r4, s4, s3, s5, rs, rc, rp⟩ := hR
  refine ⟨hn, by rw [up2_app, if_neg (by omega), r4], by rw [up2_app, if_neg (by omega), s4], by rw [up2_app, if_pos ⟨rfl, rfl⟩, up2_app, if_pos ⟨rfl, rfl⟩], by rw [up2_app, if_neg (by omega), up2_app, if_neg (by omega), s5], fun j hj => by rw [up2_ne _ _ _ _ (by omega), up2_app, if_neg (by omega), rs j hj], fun s hs => ?_, fun q hq => by rw [up2_ne _ _ _ _ (by omega), up2_ne _ _ _ _ (by omega)]; exact rp q hq⟩
  rw [up2_ne _ _ _ _ (by omega), rc s hs, cnt_congr (A := A) (B := up2 A 0 5 v)]
  intro q _
  rw [up2_ne _ _ _ _ (by omega)]
  exact ⟨rfl, rfl⟩
/-- the staircase's own numbers change, people don't -/
theorem inv_g {A : Mem} {n t k : Nat} {v : Int32} (hk : k < 6) (h3 : k ≠ 3) (hk4 : k ≠ 4) (hS' : SetA (up2 A 0 k v)) (hC' : CapOk (up2 A 0 k v) n) (h : InvA A n t) : InvA (up2 A 0 k v) n t := by
  obtain ⟨hn, h4, h3', hS, hO, hC, hT, hB⟩ := h
  have ep : ∀ q j, up2 A 0 k v (q + 1) j = A (q + 1) j := fun q j => by rw [up2_ne _ _ _ _ (by omega)]
  refine ⟨hn, by rw [up2_app, if_neg (by omega), h4], by rw [up2_app, if_neg (by omega), h3'], hS', fun q hq => okp_congr (hO q hq) (ep q 0) (ep q 1) (ep q 2) (ep q 3), hC', ?_, ?_⟩
  · unfold Tot
    rw [up2_app, if_neg (by omega), up2_app, if_neg (by omega), up2_app, if_neg (by omega), sum_congr (A := A) (k := 6) (fun q _ => ep q 6), sum_congr (A := A) (k := 5) (fun q _ => ep q 5), sum_congr (A := A) (k := 4) (fun q _ => ep q 4)]
    exact hT
  · unfold Bow
    rw [up2_app, if_neg (by omega)]
    exact hB
theorem cnt_g {A : Mem} {n k : Nat} {v s : Int32} : cntA (up2 A 0 k v) s n = cntA A s n := cnt_congr (fun q _ => by rw [up2_ne _ _ _ _ (by omega)]; exact ⟨rfl, rfl⟩)
theorem nI_rng {y : Int32} {a b : Nat} (ha : a < 2 ^ 31) (hb : b < 2 ^ 31) (h1 : ¬ y < nI a) (h2 : y ≤ nI b) : ∃ v, a ≤ v ∧ v ≤ b ∧ y = nI v := by
  rw [fa_lt, nI_toInt ha] at h1
  have h0 : (0 : Int32).toInt = 0 := rfl
  obtain ⟨v, hv, e⟩ := nI_of2 (x := y) (nI_toInt hb) (fun z => by rw [fa_lt, h0] at z; omega) h2
  refine ⟨v, ?_, hv, e⟩
  rw [e, nI_toInt (by omega)] at h1
  omega
/-! ===== pass ===== -/
def tkA (A : Mem) (n : Nat) : Nat → Mem
  | 0 => A
  | j + 1 => tickA (tkA A n j) n
theorem tk_inv {A : Mem} {n t : Nat} (h : InvA A n t) : ∀ j, InvA (tkA A n j) n (t + j)
  | 0 => h
  | j + 1 => inv_tick (tk_inv h j)
theorem c_slot {x : Int32} {μ : Mem} {K : Int32 → Mem → Prop} (h1 : ∀ k : Nat, k < 2 → x = nI k → K 1 μ) (h0 : (¬ ∃ k : Nat, k < 2 ∧ x = nI k) → K 0 μ) : wp_X4_isSlot x μ K := by
  unfold wp_X4_isSlot
  refine ⟨fun z => h0 ?_, fun z => ⟨fun z2 => h0 ?_, fun z2 => ?_⟩⟩
  · rintro ⟨k, hk, rfl⟩; exact nI_pos (by omega) z
  · rintro ⟨k, hk, rfl⟩; exact nI_ge (b := 2) hk (by omega) z2
  · obtain ⟨k, hk, e⟩ := per_ex (n := 2) (by omega) z z2
    exact h1 k hk e
/-! ===== read ===== -/
def rdA (A : Mem) (n : Nat) (c : Nat → Int32) : Nat → Mem
  | 0 => A
  | i + 1 => comesA (rdA A n c i) (n + i) (c (2 * i + 1) - 48) (if c (2 * i) = 117 then 1 else 0)
theorem bz_ite (p : Prop) [Decidable p] : bz (if p then 1 else 0) := by
  split
  · exact Or.inr rfl
  · exact Or.inl rfl
theorem rd_inv {A : Mem} {n t L : Nat} {c : Nat → Int32} (hall : ∀ k, k < L → okC c k) (h : InvA A n t) : ∀ i, 2 * i ≤ L → n + i ≤ 24 → InvA (rdA A n c i) (n + i) t
  | 0, _, _ => h
  | i + 1, h1, h2 => by
    refine inv_comes (by omega) ?_ (bz_ite _) (rd_inv hall h i (by omega) (by omega))
    have := (hall (2 * i + 1) (by omega)).2 (by omega)
    obtain ⟨m, m1, m2, e⟩ := nI_rng (a := 49) (b := 57) (by omega) (by omega) this.1 (by
      have := this.2
      rw [fa_lt] at this
      rw [fa_le]
      have h57 : (nI 57).toInt = 57 := rfl
      have h58 : (57 : Int32).toInt = 57 := rfl
      omega)
    refine ⟨m - 48, by omega, by omega, ?_⟩
    rw [e, show (48 : Int32) = nI 48 from rfl, pk_sub (by omega)]
theorem half {L : Nat} (h : L ≤ 60) : nI L / 2 = nI (L / 2) := pk_div (d := 2) (by omega) (by omega) (by omega)
/-! WHAT IF: does, untilArrived, untilEmpty, ifPassed -/
theorem goesA_row {A : Mem} {p i : Nat} {s d : Int32} (h : i ≠ p + 1) : goesA A p s d i = A i := by
  unfold goesA
  rw [up2_ne _ _ _ _ h, up2_ne _ _ _ _ h, up2_ne _ _ _ _ h, up2_ne _ _ _ _ h]
theorem endsA_row {A : Mem} {p i : Nat} {w : Int32} (h : i ≠ p + 1) : endsA A p w i = A i := by
  unfold endsA
  rw [up2_ne _ _ _ _ h, up2_ne _ _ _ _ h, up2_ne _ _ _ _ h, up2_ne _ _ _ _ h, up2_ne _ _ _ _ h]
theorem bowA_row {A : Mem} {o p i : Nat} (h : i ≠ o + 1) (h0 : i ≠ 0) : bowA A o p i = A i := by
  unfold bowA
  rw [up2_ne _ _ _ _ h0, up2_ne _ _ _ _ h0, up2_ne _ _ _ _ h, up2_ne _ _ _ _ h]
theorem staysA_row {A : Mem} {p i : Nat} (h : i ≠ p + 1) (h0 : i ≠ 0) : staysA A p i = A i := by
  unfold staysA
  rw [up2_ne _ _ _ _ h, up2_ne _ _ _ _ h0, up2_ne _ _ _ _ h, up2_ne _ _ _ _ h]
theorem waysA_row {A B : Mem} {o p n i : Nat} (h : i ≠ o + 1) (h0 : i ≠ 0) (hw : waysA A o p n = some B) : B i = A i := by
  unfold waysA at hw
  split at hw
  · split at hw
    · cases hw; rw [goesA_row h, bowA_row h h0]
    · cases hw
  · cases hw; rw [endsA_row h, bowA_row h h0]
/-- a deed touches whoever acts, and one who stands on a step -/
theorem actsA_row {A : Mem} {p n i : Nat} (hi : i ≠ p + 1) (h0 : i ≠ 0) (ho : ∀ o, o < n → A (o + 1) 2 = 1 → i ≠ o + 1) : actsA A p n i = A i := by
  unfold actsA
  split
  · split
    · exact goesA_row hi
    · cases hy : yrA A (nextA A p) p n with
      | none => exact staysA_row hi h0
      | some o =>
        simp only [ylA]
        obtain ⟨h1, h2, -⟩ := yrA_lt hy
        cases hw : waysA A o p n with
        | none => exact staysA_row hi h0
        | some B =>
          simp only [wyA]
          rw [goesA_row hi, waysA_row (ho o h1 h2.1) h0 hw]
  · exact endsA_row hi
theorem stepA_far {A : Mem} {r : Int32} {p n i : Nat} (hp : p < n) (h : n < i) : stepA A r p n i = A i := by
  unfold stepA
  split
  · exact actsA_row (by omega) (by omega) (fun o ho _ => by omega)
  · rfl
theorem rowsA_far {A : Mem} {r : Int32} {n i : Nat} (h : n < i) : ∀ p, p ≤ n → rowsA A r n p i = A i
  | 0, _ => rfl
  | p + 1, hp => by rw [rowsA, stepA_far (by omega) h, rowsA_far h p (by omega)]
theorem ranksA_far {A : Mem} {n i : Nat} (h : n < i) : ∀ k, ranksA A n k i = A i
  | 0 => rfl
  | k + 1 => by rw [ranksA, rowsA_far h n (Nat.le_refl n), ranksA_far h k]
theorem tickA_far {A : Mem} {n i : Nat} (hn : n ≤ 24) (h : 24 < i) : tickA A n i = A i := by
  unfold tickA
  rw [up2_ne _ _ _ _ (by omega), ranksA_far (by omega)]
  funext k
  unfold clearA
  rw [if_neg (by omega)]
theorem tkA_far {A : Mem} {n i : Nat} (hn : n ≤ 24) (h : 24 < i) : ∀ j, tkA A n j i = A i
  | 0 => rfl
  | j + 1 => by rw [tkA, tickA_far hn h, tkA_far hn h j]
/-- who was sent off stays so -/
theorem stepA_off {A : Mem} {r : Int32} {p n q : Nat} (h : A (q + 1) 2 = 3) : stepA A r p n (q + 1) 2 = 3 := by
  unfold stepA
  split
  · rename_i hc
    by_cases e : q = p
    · subst e
      rw [h] at hc
      exact absurd hc.2.1 (by decide)
    · rw [actsA_row (by omega) (by omega) (fun o ho h1 e2 => ?_)]
      · exact h
      · have : o = q := by omega
        subst this
        rw [h] at h1
        exact absurd h1 (by decide)
  · exact h
theorem rowsA_off {A : Mem} {r : Int32} {n q : Nat} (h : A (q + 1) 2 = 3) : ∀ p, rowsA A r n p (q + 1) 2 = 3
  | 0 => h
  | p + 1 => by rw [rowsA]; exact stepA_off (rowsA_off h p)
theorem ranksA_off {A : Mem} {n q : Nat} (h : A (q + 1) 2 = 3) : ∀ k, ranksA A n k (q + 1) 2 = 3
  | 0 => h
  | k + 1 => by rw [ranksA]; exact rowsA_off (ranksA_off h k) n
theorem tickA_off {A : Mem} {n q : Nat} (h : A (q + 1) 2 = 3) : tickA A n (q + 1) 2 = 3 := by
  unfold tickA
  rw [up2_ne _ _ _ _ (by omega)]
  exact ranksA_off (by rw [clear_k (by omega)]; exact h) 9
theorem tkA_off {A : Mem} {n q i : Nat} (h : tkA A n i (q + 1) 2 = 3) : ∀ j, tkA A n (i + j) (q + 1) 2 = 3
  | 0 => h
  | j + 1 => tickA_off (tkA_off h j)
/-- nobody on the way: a tick is nothing but a tick -/
theorem rowsA_idle {A : Mem} {r : Int32} {n : Nat} (h : ∀ q, q < n → ¬ A (q + 1) 2 < 2) : ∀ p, p ≤ n → rowsA A r n p = A
  | 0, _ => rfl
  | p + 1, hp => by
    rw [rowsA, rowsA_idle h p (by omega)]
    unfold stepA
    rw [if_neg (fun z => h p (by omega) z.2.1)]
theorem ranksA_idle {A : Mem} {n : Nat} (h : ∀ q, q < n → ¬ A (q + 1) 2 < 2) : ∀ k, ranksA A n k = A
  | 0 => rfl
  | k + 1 => by rw [ranksA, ranksA_idle h k, rowsA_idle h n (Nat.le_refl n)]
theorem idle_of {A : Mem} {n : Nat} (hO : OkA A n) (h : ¬ wayN A n = true) : ∀ q, q < n → ¬ A (q + 1) 2 < 2 := by
  intro q hq hlt
  rcases (hO q hq).2.2.1 with e | e | e | e
  · exact h (wayN_ex.mpr ⟨q, hq, Or.inl e⟩)
  · exact h (wayN_ex.mpr ⟨q, hq, Or.inr e⟩)
  · rw [e] at hlt; exact absurd hlt (by decide)
  · rw [e] at hlt; exact absurd hlt (by decide)
theorem tickA_idle {A : Mem} {n : Nat} (hO : OkA A n) (h : ¬ wayN A n = true) {i k : Nat} (hk : k < 9) (h3 : ¬ (i = 0 ∧ k = 3)) : tickA A n i k = A i k := by
  unfold tickA
  rw [up2_app, if_neg h3, ranksA_idle (fun q hq => by rw [clear_k (by omega)]; exact idle_of hO h q hq), clear_k hk]
theorem way_congr {A B : Mem} {n : Nat} (h : ∀ q, q < n → B (q + 1) 2 = A (q + 1) 2) : wayN B n = true ↔ wayN A n = true := by
  rw [wayN_ex, wayN_ex]
  constructor
  · rintro ⟨p, hp, e⟩; exact ⟨p, hp, by rw [← h p hp]; exact e⟩
  · rintro ⟨p, hp, e⟩; exact ⟨p, hp, by rw [h p hp]; exact e⟩
theorem tkA_idle {A : Mem} {n t i : Nat} (hI : InvA A n t) (h : ¬ wayN (tkA A n i) n = true) : ∀ j, (∀ a k, k < 9 → ¬ (a = 0 ∧ k = 3) → tkA A n (i + j) a k = tkA A n i a k)
  | 0 => fun _ _ _ _ => rfl
  | j + 1 => fun a k hk h3 => by
    have ih := tkA_idle hI h j
    have hno : ¬ wayN (tkA A n (i + j)) n = true := fun z => h ((way_congr (fun q _ => ih (q + 1) 2 (by omega) (by omega))).mp z)
    rw [show i + (j + 1) = (i + j) + 1 by omega, tkA, tickA_idle (tk_inv hI (i + j)).2.2.2.2.1 hno hk h3]
    exact ih a k hk h3
theorem who_congr {A B : Mem} {w : Int32} : ∀ {n : Nat}, (∀ q, q < n → B (q + 1) 2 = A (q + 1) 2) → whoA B w n = whoA A w n
  | 0, _ => rfl
  | n + 1, h => by
    unfold whoA
    rw [who_congr (n := n) (fun q hq => h q (by omega)), h n (by omega)]
/-! the class tries out -/
theorem c_tryOut {m n t : Nat} {S A μ : Mem} {K : Int32 → Mem → Prop} (hm : m ≤ 200) (hI : InvA A n t) (hR : RelC S A n) (h : ∀ j S', j ≤ m → (j = m ∨ ¬ wayN (tkA A n j) n = true) → (∀ i, i < j → wayN (tkA A n i) n = true) → RelC S' (tkA A n j) n → K (nI j) (putS 29 S' μ)) : wp_X4_tryOut (nI m) (putS 29 S μ) K := by
  have key : ∀ d j S', j + d = m → (∀ i, i < j → wayN (tkA A n i) n = true) → RelC S' (tkA A n j) n → wp_X4_tryOut_L2 (nI m) K (d + 1) (nI j) (putS 29 S' μ) := by
    intro d
    induction d with
    | zero =>
      intro j S' hj hb hS'
      have : j = m := by omega
      subst this
      rw [wp_X4_tryOut_L2_s]
      simp only
      exact br_t (nI_le (Nat.le_refl _) (by omega)) (h j S' (Nat.le_refl _) (Or.inl rfl) hb hS')
    | succ d ih =>
      intro j S' hj hb hS'
      rw [wp_X4_tryOut_L2_s]
      simp only
      refine br_f (nI_ge (by omega) (by omega)) ?_
      refine c_anybody hS' (fun q => br_f (by decide) ?_) (fun q => br_t rfl (h j S' (by omega) (Or.inr q) hb hS'))
      refine c_tick hS' (tk_inv hI j).2.2.2.2.1 (fun T hT _ => ?_)
      rw [nI_1]
      refine ih (j + 1) T (by omega) (fun i hi => ?_) hT
      by_cases e : i = j
      · subst e; exact q
      · exact hb i (by omega)
  exact ⟨m + 1, key m 0 S (by omega) (fun i hi => by omega) hR⟩
/-- the class's trial alone was touched -/
def Tr (ω μ : Mem) : Prop := ∀ a, ¬ (29 ≤ a ∧ a < 57) → ω a = μ a
theorem tr_put {S μ : Mem} : Tr (putS 29 S μ) μ := fun a ha => putS_ne _ _ _ (by omega)
theorem who_zero {A : Mem} {n : Nat} : whoA A 0 n + whoA A 1 n = 0 ↔ ¬ wayN A n = true := by
  induction n with
  | zero => simp [whoA, wayN]
  | succ n ih =>
    rw [wayN_ex] at ih ⊢
    unfold whoA
    constructor
    · intro h
      rintro ⟨p, hp, e⟩
      by_cases hpn : p = n
      · subst hpn
        rcases e with e | e
        · rw [if_pos e] at h; omega
        · rw [if_pos e] at h; omega
      · have h2 : whoA A 0 n + whoA A 1 n = 0 := by omega
        exact ih.mp h2 ⟨p, by omega, e⟩
    · intro h
      have h1 := ih.mpr (fun ⟨p, hp, e⟩ => h ⟨p, by omega, e⟩)
      have h0 : ¬ A (n + 1) 2 = 0 := fun e => h ⟨n, by omega, Or.inl e⟩
      have h2 : ¬ A (n + 1) 2 = 1 := fun e => h ⟨n, by omega, Or.inr e⟩
      rw [if_neg h0, if_neg h2]
      omega
theorem who_le {A : Mem} {w : Int32} : ∀ n, whoA A w n ≤ n
  | 0 => Nat.le_refl 0
  | n + 1 => by
    have := who_le (A := A) (w := w) n
    unfold whoA
    split <;> omega
/-! WHAT IF ticks pass; the best landing -/
def mvA (A B : Mem) (n : Nat) : Nat → Int32
  | 0 => nI (whoA B 2 n) - nI (whoA A 2 n)
  | 1 => nI (whoA B 3 n) - nI (whoA A 3 n)
  | 2 => B 0 6 - A 0 6
  | _ + 3 => B 0 8 - A 0 8
/-- what the class tried out is what the ticks make of it -/
theorem try_same {A : Mem} {n t j m : Nat} (hA : InvA A n t) (hj : j ≤ m) (hend : j = m ∨ ¬ wayN (tkA A n j) n = true) : ∀ a k, k < 9 → ¬ (a = 0 ∧ k = 3) → tkA A n m a k = tkA A n j a k := by
  intro a k hk h3
  rcases hend with e | e
  · rw [e]
  · have := tkA_idle hA e (m - j) a k hk h3
    rwa [show j + (m - j) = m by omega] at this
/-! ===== the best landing ===== -/
theorem tick_clear {A B : Mem} {n : Nat} (h : clearA A = clearA B) : tickA A n = tickA B n := by
  unfold tickA
  rw [h]
theorem tk_clear {A B : Mem} {n : Nat} (h : clearA A = clearA B) : ∀ j, tkA A n (j + 1) = tkA B n (j + 1)
  | 0 => tick_clear h
  | j + 1 => by
    rw [tkA, tk_clear h j]
    rfl
def ldA (A : Mem) (s : Nat) : Mem := up2 A 0 5 (A 0 5 ||| (1 <<< (nI s &&& 31)))
def bwS (A : Mem) (n s : Nat) : Int32 := tkA (ldA A s) n 50 0 6
def blN (A : Mem) (n s : Nat) (q : Int32 × Int32) : Int32 × Int32 := if lndA A (nI s) then q else if q.1 = -6 ∨ ¬ q.2 ≤ bwS A n s then (nI s, bwS A n s) else q
def blA (A : Mem) (n : Nat) : Nat → Int32 × Int32
  | 0 => (-6, 0)
  | s + 1 => blN A n s (blA A n s)
theorem ld_inv {A : Mem} {n t s : Nat} (hs : s < 12) (hA : InvA A n t) (hno : ¬ lndA A (nI s)) : InvA (ldA A s) n t := by
  have hC := hA.2.2.2.2.2.1
  obtain ⟨⟨hh, hh1, hh4, eh⟩, s1, s2, L, hL, eL⟩ := id hA.2.2.2.1
  have hL2 : L ||| 2 ^ s < 4096 := Nat.or_lt_two_pow (n := 12) hL (two12 hs)
  unfold ldA
  rw [eL, one_shl s hs, or_nI]
  refine inv_g (by omega) (by omega) (by omega) ?_ (fun j hj => ?_) hA
  · unfold SetA
    simp only [up2_app]
    simp only [show (0 : Nat) ≠ 5 by omega, show (1 : Nat) ≠ 5 by omega, show (2 : Nat) ≠ 5 by omega, and_false, if_false, and_self, if_true]
    exact ⟨⟨hh, hh1, hh4, eh⟩, s1, s2, _, hL2, rfl⟩
  · rw [cnt_g]
    have h2 := hC j hj
    unfold capN at h2 ⊢
    unfold lndA at h2 hno ⊢
    simp only [up2_app]
    simp only [show (0 : Nat) ≠ 5 by omega, and_false, if_false, and_self, if_true]
    rw [eh, nI_clamp (by omega)] at h2 ⊢
    by_cases ej : j = s
    · subst ej
      rw [if_neg hno] at h2
      split <;> omega
    · have hb1 := lnd_bit (L := L) (s := j) hL hj
      have hb2 := lnd_bit (L := L ||| 2 ^ s) (s := j) hL2 hj
      rw [Nat.testBit_or, Nat.testBit_two_pow_of_ne (Ne.symm ej), Bool.or_false] at hb2
      rw [eL] at h2
      by_cases hbj : L.testBit j = true
      · rw [if_pos (hb1.mpr hbj)] at h2
        rw [if_pos (hb2.mpr hbj)]
        exact h2
      · rw [if_neg (fun z => hbj (hb1.mp z))] at h2
        rw [if_neg (fun z => hbj (hb2.mp z))]
        exact h2
theorem bw_nat {A : Mem} {n t s : Nat} (ht : t ≤ 9999) (hs : s < 12) (hA : InvA A n t) (hno : ¬ lndA A (nI s)) : ∃ w, w < 2 ^ 30 ∧ bwS A n s = nI w := by
  obtain ⟨w, hw, e⟩ := (tk_inv (ld_inv hs hA hno) 50).2.2.2.2.2.2.2
  exact ⟨w, by omega, e⟩
theorem bl_nat {A : Mem} {n t : Nat} (ht : t ≤ 9999) (hA : InvA A n t) : ∀ s, s ≤ 12 → (blA A n s).1 = -6 ∨ ∃ w, w < 2 ^ 30 ∧ (blA A n s).2 = nI w
  | 0, _ => Or.inl rfl
  | s + 1, hs => by
    have ih := bl_nat ht hA s (by omega)
    unfold blA blN
    split
    · exact ih
    · rename_i hno
      split
      · exact Or.inr (bw_nat ht (by omega) hA hno)
      · exact ih
theorem le_off {a b c : Nat} (ha : a < 2 ^ 30) (hb : b < 2 ^ 30) (hc : c < 2 ^ 30) : nI a - nI c ≤ nI b - nI c ↔ nI a ≤ nI b := by
  rw [fa_le, fa_le, pk_sub_toInt ha hc, pk_sub_toInt hb hc, nI_toInt (by omega), nI_toInt (by omega)]
  omega
end
section
/-! NAMES of the constructors and of the law, by program (wip/p23/p26.py) -/
abbrev cX2_init : ByteArray := prog_4_method_1_code
abbrev yX2_init : MethodName := ⟨"StairBows$Person", "<init>", "()V"⟩
abbrev cX1_init : ByteArray := prog_3_method_1_code
abbrev yX1_init : MethodName := ⟨"StairBows$Pad", "<init>", "()V"⟩
abbrev cX3_init : ByteArray := prog_5_method_1_code
abbrev yX3_init : MethodName := ⟨"StairBows$Staircase", "<init>", "()V"⟩
abbrev cX0_init : ByteArray := prog_2_method_1_code
abbrev yX0_init : MethodName := ⟨"StairBows$History", "<init>", "()V"⟩
abbrev cX4_init : ByteArray := prog_1_method_1_code
abbrev yX4_init : MethodName := ⟨"StairBows", "<init>", "()V"⟩
abbrev cL_law : ByteArray := code
theorem oi_inst : Cond.instanceMethod objectInit ∈ tb_G := tb_in 23 (by decide +kernel) rfl
theorem oi_code : Cond.code objectInit ⟨#[0xb1]⟩ 1 none ∈ tb_G := tb_in 24 (by decide +kernel) rfl
theorem ac_int : Cond.arrayClass .int ∈ tb_G := tb_in 80 (by decide +kernel) rfl
theorem ac_boolean : Cond.arrayClass .boolean ∈ tb_G := tb_in 136 (by decide +kernel) rfl
theorem ac_char : Cond.arrayClass .char ∈ tb_G := tb_in 137 (by decide +kernel) rfl
theorem in_X2_init : Cond.instanceMethod yX2_init ∈ tb_G := tb_in 37 (by decide +kernel) rfl
theorem cd_X2_init : Cond.code yX2_init cX2_init 1 none ∈ tb_G := tb_in 38 (by decide +kernel) rfl
theorem ib_X2_init : Cond.instantiable "StairBows$Person" 10 ∈ tb_G := tb_in 35 (by decide +kernel) rfl
theorem it_X2_init : Cond.initialized "StairBows$Person" ∈ tb_G := tb_in 11 (by decide +kernel) rfl
theorem in_X1_init : Cond.instanceMethod yX1_init ∈ tb_G := tb_in 125 (by decide +kernel) rfl
theorem cd_X1_init : Cond.code yX1_init cX1_init 1 none ∈ tb_G := tb_in 126 (by decide +kernel) rfl
theorem ib_X1_init : Cond.instantiable "StairBows$Pad" 2 ∈ tb_G := tb_in 123 (by decide +kernel) rfl
theorem it_X1_init : Cond.initialized "StairBows$Pad" ∈ tb_G := tb_in 13 (by decide +kernel) rfl
theorem in_X3_init : Cond.instanceMethod yX3_init ∈ tb_G := tb_in 28 (by decide +kernel) rfl
theorem cd_X3_init : Cond.code yX3_init cX3_init 2 none ∈ tb_G := tb_in 29 (by decide +kernel) rfl
theorem ib_X3_init : Cond.instantiable "StairBows$Staircase" 6 ∈ tb_G := tb_in 26 (by decide +kernel) rfl
theorem it_X3_init : Cond.initialized "StairBows$Staircase" ∈ tb_G := tb_in 10 (by decide +kernel) rfl
theorem in_X0_init : Cond.instanceMethod yX0_init ∈ tb_G := tb_in 108 (by decide +kernel) rfl
theorem cd_X0_init : Cond.code yX0_init cX0_init 2 none ∈ tb_G := tb_in 109 (by decide +kernel) rfl
theorem ib_X0_init : Cond.instantiable "StairBows$History" 2 ∈ tb_G := tb_in 106 (by decide +kernel) rfl
theorem it_X0_init : Cond.initialized "StairBows$History" ∈ tb_G := tb_in 12 (by decide +kernel) rfl
theorem in_X4_init : Cond.instanceMethod yX4_init ∈ tb_G := tb_in 20 (by decide +kernel) rfl
theorem cd_X4_init : Cond.code yX4_init cX4_init 2 none ∈ tb_G := tb_in 21 (by decide +kernel) rfl
theorem ib_X4_init : Cond.instantiable "StairBows" 6 ∈ tb_G := tb_in 18 (by decide +kernel) rfl
theorem it_X4_init : Cond.initialized "StairBows" ∈ tb_G := tb_in 9 (by decide +kernel) rfl
theorem ml2_Person_3 : Cond.methodLink "StairBows$Person" 3 objectInit ∈ tb_G := tb_in 39 (by decide +kernel) rfl
theorem ml2_Pad_3 : Cond.methodLink "StairBows$Pad" 3 objectInit ∈ tb_G := tb_in 127 (by decide +kernel) rfl
theorem fl_Pad_9 : Cond.fieldLink "StairBows$Pad" 9 "StairBows$Pad" "signs" "[C" ∈ tb_G := tb_in 128 (by decide +kernel) rfl
theorem ml2_Staircase_3 : Cond.methodLink "StairBows$Staircase" 3 objectInit ∈ tb_G := tb_in 30 (by decide +kernel) rfl
theorem fl_Staircase_13 : Cond.fieldLink "StairBows$Staircase" 13 "StairBows$Staircase" "settings" "[I" ∈ tb_G := tb_in 81 (by decide +kernel) rfl
theorem cl_Staircase_18 : Cond.classLink "StairBows$Staircase" 18 "StairBows$Person" ∈ tb_G := tb_in 33 (by decide +kernel) rfl
theorem fl_Staircase_20 : Cond.fieldLink "StairBows$Staircase" 20 "StairBows$Staircase" "people" "[LStairBows$Person;" ∈ tb_G := tb_in 83 (by decide +kernel) rfl
theorem fl_Staircase_24 : Cond.fieldLink "StairBows$Staircase" 24 "StairBows$Staircase" "crowds" "[I" ∈ tb_G := tb_in 85 (by decide +kernel) rfl
theorem fl_Staircase_27 : Cond.fieldLink "StairBows$Staircase" 27 "StairBows$Staircase" "landings" "I" ∈ tb_G := tb_in 86 (by decide +kernel) rfl
theorem ml2_History_3 : Cond.methodLink "StairBows$History" 3 objectInit ∈ tb_G := tb_in 110 (by decide +kernel) rfl
theorem cl_History_9 : Cond.classLink "StairBows$History" 9 "StairBows$Staircase" ∈ tb_G := tb_in 111 (by decide +kernel) rfl
theorem fl_History_11 : Cond.fieldLink "StairBows$History" 11 "StairBows$History" "states" "[LStairBows$Staircase;" ∈ tb_G := tb_in 114 (by decide +kernel) rfl
theorem ml2_History_17 : Cond.methodLink "StairBows$History" 17 yX3_init ∈ tb_G := tb_in 113 (by decide +kernel) rfl
theorem ml2_StairBows_1 : Cond.methodLink "StairBows" 1 objectInit ∈ tb_G := tb_in 22 (by decide +kernel) rfl
theorem cl_StairBows_7 : Cond.classLink "StairBows" 7 "StairBows$Staircase" ∈ tb_G := tb_in 25 (by decide +kernel) rfl
theorem ml2_StairBows_9 : Cond.methodLink "StairBows" 9 yX3_init ∈ tb_G := tb_in 27 (by decide +kernel) rfl
theorem fl_StairBows_10 : Cond.fieldLink "StairBows" 10 "StairBows" "now" "LStairBows$Staircase;" ∈ tb_G := tb_in 138 (by decide +kernel) rfl
theorem fl_StairBows_16 : Cond.fieldLink "StairBows" 16 "StairBows" "trial" "LStairBows$Staircase;" ∈ tb_G := tb_in 139 (by decide +kernel) rfl
theorem cl_StairBows_19 : Cond.classLink "StairBows" 19 "StairBows$History" ∈ tb_G := tb_in 105 (by decide +kernel) rfl
theorem ml2_StairBows_21 : Cond.methodLink "StairBows" 21 yX0_init ∈ tb_G := tb_in 107 (by decide +kernel) rfl
theorem fl_StairBows_22 : Cond.fieldLink "StairBows" 22 "StairBows" "history" "LStairBows$History;" ∈ tb_G := tb_in 140 (by decide +kernel) rfl
theorem fl_StairBows_26 : Cond.fieldLink "StairBows" 26 "StairBows" "slots" "[LStairBows$Staircase;" ∈ tb_G := tb_in 141 (by decide +kernel) rfl
theorem fl_StairBows_30 : Cond.fieldLink "StairBows" 30 "StairBows" "isSaved" "[Z" ∈ tb_G := tb_in 142 (by decide +kernel) rfl
theorem cl_StairBows_34 : Cond.classLink "StairBows" 34 "StairBows$Pad" ∈ tb_G := tb_in 122 (by decide +kernel) rfl
theorem fl_StairBows_37 : Cond.fieldLink "StairBows" 37 "StairBows" "pad" "LStairBows$Pad;" ∈ tb_G := tb_in 143 (by decide +kernel) rfl
theorem cl_StairBowsLaw_10 : Cond.classLink "StairBowsLaw" 10 "StairBows" ∈ tb_G := tb_in 17 (by decide +kernel) rfl
theorem ml2_StairBowsLaw_79 : Cond.methodLink "StairBowsLaw" 79 yX4_init ∈ tb_G := tb_in 19 (by decide +kernel) rfl
theorem dX2_init_0 : decode cX2_init 0 = .ok (.aload_n 0, 1) := by decide +kernel
theorem dX2_init_1 : decode cX2_init 1 = .ok (.invokespecial 3, 3) := by decide +kernel
theorem dX2_init_4 : decode cX2_init 4 = .ok (.return_, 1) := by decide +kernel
theorem dX1_init_0 : decode cX1_init 0 = .ok (.aload_n 0, 1) := by decide +kernel
theorem dX1_init_1 : decode cX1_init 1 = .ok (.invokespecial 3, 3) := by decide +kernel
theorem dX1_init_4 : decode cX1_init 4 = .ok (.aload_n 0, 1) := by decide +kernel
theorem dX1_init_5 : decode cX1_init 5 = .ok (.bipush 60, 2) := by decide +kernel
theorem dX1_init_7 : decode cX1_init 7 = .ok (.newarray .char, 2) := by decide +kernel
theorem dX1_init_9 : decode cX1_init 9 = .ok (.putfield 9, 3) := by decide +kernel
theorem dX1_init_12 : decode cX1_init 12 = .ok (.return_, 1) := by decide +kernel
theorem dX3_init_0 : decode cX3_init 0 = .ok (.aload_n 0, 1) := by decide +kernel
theorem dX3_init_1 : decode cX3_init 1 = .ok (.invokespecial 3, 3) := by decide +kernel
theorem dX3_init_4 : decode cX3_init 4 = .ok (.aload_n 0, 1) := by decide +kernel
theorem dX3_init_5 : decode cX3_init 5 = .ok (.getstatic 9, 3) := by decide +kernel
theorem dX3_init_8 : decode cX3_init 8 = .ok (.arraylength, 1) := by decide +kernel
theorem dX3_init_9 : decode cX3_init 9 = .ok (.newarray .int, 2) := by decide +kernel
theorem dX3_init_11 : decode cX3_init 11 = .ok (.putfield 13, 3) := by decide +kernel
theorem dX3_init_14 : decode cX3_init 14 = .ok (.aload_n 0, 1) := by decide +kernel
theorem dX3_init_15 : decode cX3_init 15 = .ok (.bipush 24, 2) := by decide +kernel
theorem dX3_init_17 : decode cX3_init 17 = .ok (.anewarray 18, 3) := by decide +kernel
theorem dX3_init_20 : decode cX3_init 20 = .ok (.putfield 20, 3) := by decide +kernel
theorem dX3_init_23 : decode cX3_init 23 = .ok (.aload_n 0, 1) := by decide +kernel
theorem dX3_init_24 : decode cX3_init 24 = .ok (.bipush 12, 2) := by decide +kernel
theorem dX3_init_26 : decode cX3_init 26 = .ok (.newarray .int, 2) := by decide +kernel
theorem dX3_init_28 : decode cX3_init 28 = .ok (.putfield 24, 3) := by decide +kernel
theorem dX3_init_31 : decode cX3_init 31 = .ok (.aload_n 0, 1) := by decide +kernel
theorem dX3_init_32 : decode cX3_init 32 = .ok (.sipush 272, 3) := by decide +kernel
theorem dX3_init_35 : decode cX3_init 35 = .ok (.putfield 27, 3) := by decide +kernel
theorem dX3_init_38 : decode cX3_init 38 = .ok (.iconst 0, 1) := by decide +kernel
theorem dX3_init_39 : decode cX3_init 39 = .ok (.istore_n 1, 1) := by decide +kernel
theorem dX3_init_40 : decode cX3_init 40 = .ok (.iload_n 1, 1) := by decide +kernel
theorem dX3_init_41 : decode cX3_init 41 = .ok (.aload_n 0, 1) := by decide +kernel
theorem dX3_init_42 : decode cX3_init 42 = .ok (.getfield 13, 3) := by decide +kernel
theorem dX3_init_45 : decode cX3_init 45 = .ok (.arraylength, 1) := by decide +kernel
theorem dX3_init_46 : decode cX3_init 46 = .ok (.if_icmp .ge 20, 3) := by decide +kernel
theorem dX3_init_49 : decode cX3_init 49 = .ok (.aload_n 0, 1) := by decide +kernel
theorem dX3_init_50 : decode cX3_init 50 = .ok (.getfield 13, 3) := by decide +kernel
theorem dX3_init_53 : decode cX3_init 53 = .ok (.iload_n 1, 1) := by decide +kernel
theorem dX3_init_54 : decode cX3_init 54 = .ok (.getstatic 9, 3) := by decide +kernel
theorem dX3_init_57 : decode cX3_init 57 = .ok (.iload_n 1, 1) := by decide +kernel
theorem dX3_init_58 : decode cX3_init 58 = .ok (.iaload, 1) := by decide +kernel
theorem dX3_init_59 : decode cX3_init 59 = .ok (.iastore, 1) := by decide +kernel
theorem dX3_init_60 : decode cX3_init 60 = .ok (.iinc 1 1, 3) := by decide +kernel
theorem dX3_init_63 : decode cX3_init 63 = .ok (.goto (-23), 3) := by decide +kernel
theorem dX3_init_66 : decode cX3_init 66 = .ok (.iconst 0, 1) := by decide +kernel
theorem dX3_init_67 : decode cX3_init 67 = .ok (.istore_n 1, 1) := by decide +kernel
theorem dX3_init_68 : decode cX3_init 68 = .ok (.iload_n 1, 1) := by decide +kernel
theorem dX3_init_69 : decode cX3_init 69 = .ok (.aload_n 0, 1) := by decide +kernel
theorem dX3_init_70 : decode cX3_init 70 = .ok (.getfield 20, 3) := by decide +kernel
theorem dX3_init_73 : decode cX3_init 73 = .ok (.arraylength, 1) := by decide +kernel
theorem dX3_init_74 : decode cX3_init 74 = .ok (.if_icmp .ge 22, 3) := by decide +kernel
theorem dX3_init_77 : decode cX3_init 77 = .ok (.aload_n 0, 1) := by decide +kernel
theorem dX3_init_78 : decode cX3_init 78 = .ok (.getfield 20, 3) := by decide +kernel
theorem dX3_init_81 : decode cX3_init 81 = .ok (.iload_n 1, 1) := by decide +kernel
theorem dX3_init_82 : decode cX3_init 82 = .ok (.new 18, 3) := by decide +kernel
theorem dX3_init_85 : decode cX3_init 85 = .ok (.dup, 1) := by decide +kernel
theorem dX3_init_86 : decode cX3_init 86 = .ok (.invokespecial 31, 3) := by decide +kernel
theorem dX3_init_89 : decode cX3_init 89 = .ok (.aastore, 1) := by decide +kernel
theorem dX3_init_90 : decode cX3_init 90 = .ok (.iinc 1 1, 3) := by decide +kernel
theorem dX3_init_93 : decode cX3_init 93 = .ok (.goto (-25), 3) := by decide +kernel
theorem dX3_init_96 : decode cX3_init 96 = .ok (.return_, 1) := by decide +kernel
theorem dX0_init_0 : decode cX0_init 0 = .ok (.aload_n 0, 1) := by decide +kernel
theorem dX0_init_1 : decode cX0_init 1 = .ok (.invokespecial 3, 3) := by decide +kernel
theorem dX0_init_4 : decode cX0_init 4 = .ok (.aload_n 0, 1) := by decide +kernel
theorem dX0_init_5 : decode cX0_init 5 = .ok (.bipush 6, 2) := by decide +kernel
theorem dX0_init_7 : decode cX0_init 7 = .ok (.anewarray 9, 3) := by decide +kernel
theorem dX0_init_10 : decode cX0_init 10 = .ok (.putfield 11, 3) := by decide +kernel
theorem dX0_init_13 : decode cX0_init 13 = .ok (.iconst 0, 1) := by decide +kernel
theorem dX0_init_14 : decode cX0_init 14 = .ok (.istore_n 1, 1) := by decide +kernel
theorem dX0_init_15 : decode cX0_init 15 = .ok (.iload_n 1, 1) := by decide +kernel
theorem dX0_init_16 : decode cX0_init 16 = .ok (.aload_n 0, 1) := by decide +kernel
theorem dX0_init_17 : decode cX0_init 17 = .ok (.getfield 11, 3) := by decide +kernel
theorem dX0_init_20 : decode cX0_init 20 = .ok (.arraylength, 1) := by decide +kernel
theorem dX0_init_21 : decode cX0_init 21 = .ok (.if_icmp .ge 22, 3) := by decide +kernel
theorem dX0_init_24 : decode cX0_init 24 = .ok (.aload_n 0, 1) := by decide +kernel
theorem dX0_init_25 : decode cX0_init 25 = .ok (.getfield 11, 3) := by decide +kernel
theorem dX0_init_28 : decode cX0_init 28 = .ok (.iload_n 1, 1) := by decide +kernel
theorem dX0_init_29 : decode cX0_init 29 = .ok (.new 9, 3) := by decide +kernel
theorem dX0_init_32 : decode cX0_init 32 = .ok (.dup, 1) := by decide +kernel
theorem dX0_init_33 : decode cX0_init 33 = .ok (.invokespecial 17, 3) := by decide +kernel
theorem dX0_init_36 : decode cX0_init 36 = .ok (.aastore, 1) := by decide +kernel
theorem dX0_init_37 : decode cX0_init 37 = .ok (.iinc 1 1, 3) := by decide +kernel
theorem dX0_init_40 : decode cX0_init 40 = .ok (.goto (-25), 3) := by decide +kernel
theorem dX0_init_43 : decode cX0_init 43 = .ok (.return_, 1) := by decide +kernel
theorem dX4_init_0 : decode cX4_init 0 = .ok (.aload_n 0, 1) := by decide +kernel
theorem dX4_init_1 : decode cX4_init 1 = .ok (.invokespecial 1, 3) := by decide +kernel
theorem dX4_init_4 : decode cX4_init 4 = .ok (.aload_n 0, 1) := by decide +kernel
theorem dX4_init_5 : decode cX4_init 5 = .ok (.new 7, 3) := by decide +kernel
theorem dX4_init_8 : decode cX4_init 8 = .ok (.dup, 1) := by decide +kernel
theorem dX4_init_9 : decode cX4_init 9 = .ok (.invokespecial 9, 3) := by decide +kernel
theorem dX4_init_12 : decode cX4_init 12 = .ok (.putfield 10, 3) := by decide +kernel
theorem dX4_init_15 : decode cX4_init 15 = .ok (.aload_n 0, 1) := by decide +kernel
theorem dX4_init_16 : decode cX4_init 16 = .ok (.new 7, 3) := by decide +kernel
theorem dX4_init_19 : decode cX4_init 19 = .ok (.dup, 1) := by decide +kernel
theorem dX4_init_20 : decode cX4_init 20 = .ok (.invokespecial 9, 3) := by decide +kernel
theorem dX4_init_23 : decode cX4_init 23 = .ok (.putfield 16, 3) := by decide +kernel
theorem dX4_init_26 : decode cX4_init 26 = .ok (.aload_n 0, 1) := by decide +kernel
theorem dX4_init_27 : decode cX4_init 27 = .ok (.new 19, 3) := by decide +kernel
theorem dX4_init_30 : decode cX4_init 30 = .ok (.dup, 1) := by decide +kernel
theorem dX4_init_31 : decode cX4_init 31 = .ok (.invokespecial 21, 3) := by decide +kernel
theorem dX4_init_34 : decode cX4_init 34 = .ok (.putfield 22, 3) := by decide +kernel
theorem dX4_init_37 : decode cX4_init 37 = .ok (.aload_n 0, 1) := by decide +kernel
theorem dX4_init_38 : decode cX4_init 38 = .ok (.iconst 2, 1) := by decide +kernel
theorem dX4_init_39 : decode cX4_init 39 = .ok (.anewarray 7, 3) := by decide +kernel
theorem dX4_init_42 : decode cX4_init 42 = .ok (.putfield 26, 3) := by decide +kernel
theorem dX4_init_45 : decode cX4_init 45 = .ok (.aload_n 0, 1) := by decide +kernel
theorem dX4_init_46 : decode cX4_init 46 = .ok (.iconst 2, 1) := by decide +kernel
theorem dX4_init_47 : decode cX4_init 47 = .ok (.newarray .boolean, 2) := by decide +kernel
theorem dX4_init_49 : decode cX4_init 49 = .ok (.putfield 30, 3) := by decide +kernel
theorem dX4_init_52 : decode cX4_init 52 = .ok (.aload_n 0, 1) := by decide +kernel
theorem dX4_init_53 : decode cX4_init 53 = .ok (.new 34, 3) := by decide +kernel
theorem dX4_init_56 : decode cX4_init 56 = .ok (.dup, 1) := by decide +kernel
theorem dX4_init_57 : decode cX4_init 57 = .ok (.invokespecial 36, 3) := by decide +kernel
theorem dX4_init_60 : decode cX4_init 60 = .ok (.putfield 37, 3) := by decide +kernel
theorem dX4_init_63 : decode cX4_init 63 = .ok (.iconst 0, 1) := by decide +kernel
theorem dX4_init_64 : decode cX4_init 64 = .ok (.istore_n 1, 1) := by decide +kernel
theorem dX4_init_65 : decode cX4_init 65 = .ok (.iload_n 1, 1) := by decide +kernel
theorem dX4_init_66 : decode cX4_init 66 = .ok (.iconst 2, 1) := by decide +kernel
theorem dX4_init_67 : decode cX4_init 67 = .ok (.if_icmp .ge 22, 3) := by decide +kernel
theorem dX4_init_70 : decode cX4_init 70 = .ok (.aload_n 0, 1) := by decide +kernel
theorem dX4_init_71 : decode cX4_init 71 = .ok (.getfield 26, 3) := by decide +kernel
theorem dX4_init_74 : decode cX4_init 74 = .ok (.iload_n 1, 1) := by decide +kernel
theorem dX4_init_75 : decode cX4_init 75 = .ok (.new 7, 3) := by decide +kernel
theorem dX4_init_78 : decode cX4_init 78 = .ok (.dup, 1) := by decide +kernel
theorem dX4_init_79 : decode cX4_init 79 = .ok (.invokespecial 9, 3) := by decide +kernel
theorem dX4_init_82 : decode cX4_init 82 = .ok (.aastore, 1) := by decide +kernel
theorem dX4_init_83 : decode cX4_init 83 = .ok (.iinc 1 1, 3) := by decide +kernel
theorem dX4_init_86 : decode cX4_init 86 = .ok (.goto (-21), 3) := by decide +kernel
theorem dX4_init_89 : decode cX4_init 89 = .ok (.return_, 1) := by decide +kernel
theorem dL_law_0 : decode cL_law 0 = .ok (.new 10, 3) := by decide +kernel
theorem dL_law_3 : decode cL_law 3 = .ok (.dup, 1) := by decide +kernel
theorem dL_law_4 : decode cL_law 4 = .ok (.invokespecial 79, 3) := by decide +kernel
theorem dL_law_7 : decode cL_law 7 = .ok (.astore_n 1, 1) := by decide +kernel
theorem dL_law_8 : decode cL_law 8 = .ok (.new 10, 3) := by decide +kernel
theorem dL_law_11 : decode cL_law 11 = .ok (.dup, 1) := by decide +kernel
theorem dL_law_12 : decode cL_law 12 = .ok (.invokespecial 79, 3) := by decide +kernel
theorem dL_law_15 : decode cL_law 15 = .ok (.astore_n 2, 1) := by decide +kernel
theorem dL_law_16 : decode cL_law 16 = .ok (.aload_n 2, 1) := by decide +kernel
theorem dL_law_17 : decode cL_law 17 = .ok (.iconst 1, 1) := by decide +kernel
theorem dL_law_18 : decode cL_law 18 = .ok (.iconst 2, 1) := by decide +kernel
theorem dL_law_19 : decode cL_law 19 = .ok (.invokevirtual 24, 3) := by decide +kernel
theorem dL_law_22 : decode cL_law 22 = .ok (.iconst 1, 1) := by decide +kernel
theorem dL_law_23 : decode cL_law 23 = .ok (.if_icmp .ne 17, 3) := by decide +kernel
theorem dL_law_26 : decode cL_law 26 = .ok (.aload_n 1, 1) := by decide +kernel
theorem dL_law_27 : decode cL_law 27 = .ok (.iconst 1, 1) := by decide +kernel
theorem dL_law_28 : decode cL_law 28 = .ok (.iconst 1, 1) := by decide +kernel
theorem dL_law_29 : decode cL_law 29 = .ok (.invokevirtual 24, 3) := by decide +kernel
theorem dL_law_32 : decode cL_law 32 = .ok (.iconst 1, 1) := by decide +kernel
theorem dL_law_33 : decode cL_law 33 = .ok (.if_icmp .ne 7, 3) := by decide +kernel
theorem dL_law_36 : decode cL_law 36 = .ok (.iconst 1, 1) := by decide +kernel
theorem dL_law_37 : decode cL_law 37 = .ok (.goto 4, 3) := by decide +kernel
theorem dL_law_40 : decode cL_law 40 = .ok (.iconst 0, 1) := by decide +kernel
theorem dL_law_41 : decode cL_law 41 = .ok (.istore_n 3, 1) := by decide +kernel
theorem dL_law_42 : decode cL_law 42 = .ok (.iconst 0, 1) := by decide +kernel
theorem dL_law_43 : decode cL_law 43 = .ok (.istore 4, 2) := by decide +kernel
theorem dL_law_45 : decode cL_law 45 = .ok (.iload 4, 2) := by decide +kernel
theorem dL_law_47 : decode cL_law 47 = .ok (.bipush 60, 2) := by decide +kernel
theorem dL_law_49 : decode cL_law 49 = .ok (.if_icmp .ge 57, 3) := by decide +kernel
theorem dL_law_52 : decode cL_law 52 = .ok (.iload_n 3, 1) := by decide +kernel
theorem dL_law_53 : decode cL_law 53 = .ok (.ifCond .eq 53, 3) := by decide +kernel
theorem dL_law_56 : decode cL_law 56 = .ok (.aload_n 1, 1) := by decide +kernel
theorem dL_law_57 : decode cL_law 57 = .ok (.aload_n 2, 1) := by decide +kernel
theorem dL_law_58 : decode cL_law 58 = .ok (.aload_n 0, 1) := by decide +kernel
theorem dL_law_59 : decode cL_law 59 = .ok (.iload 4, 2) := by decide +kernel
theorem dL_law_61 : decode cL_law 61 = .ok (.invokestatic 80, 3) := by decide +kernel
theorem dL_law_64 : decode cL_law 64 = .ok (.aload_n 0, 1) := by decide +kernel
theorem dL_law_65 : decode cL_law 65 = .ok (.iload 4, 2) := by decide +kernel
theorem dL_law_67 : decode cL_law 67 = .ok (.iconst 1, 1) := by decide +kernel
theorem dL_law_68 : decode cL_law 68 = .ok (.iadd, 1) := by decide +kernel
theorem dL_law_69 : decode cL_law 69 = .ok (.invokestatic 80, 3) := by decide +kernel
theorem dL_law_72 : decode cL_law 72 = .ok (.iconst 2, 1) := by decide +kernel
theorem dL_law_73 : decode cL_law 73 = .ok (.ishr, 1) := by decide +kernel
theorem dL_law_74 : decode cL_law 74 = .ok (.invokestatic 84, 3) := by decide +kernel
theorem dL_law_77 : decode cL_law 77 = .ok (.ifCond .eq 21, 3) := by decide +kernel
theorem dL_law_80 : decode cL_law 80 = .ok (.iload 4, 2) := by decide +kernel
theorem dL_law_82 : decode cL_law 82 = .ok (.iconst 3, 1) := by decide +kernel
theorem dL_law_83 : decode cL_law 83 = .ok (.irem, 1) := by decide +kernel
theorem dL_law_84 : decode cL_law 84 = .ok (.ifCond .gt 10, 3) := by decide +kernel
theorem dL_law_87 : decode cL_law 87 = .ok (.aload_n 1, 1) := by decide +kernel
theorem dL_law_88 : decode cL_law 88 = .ok (.invokestatic 88, 3) := by decide +kernel
theorem dL_law_91 : decode cL_law 91 = .ok (.ifCond .eq 7, 3) := by decide +kernel
theorem dL_law_94 : decode cL_law 94 = .ok (.iconst 1, 1) := by decide +kernel
theorem dL_law_95 : decode cL_law 95 = .ok (.goto 4, 3) := by decide +kernel
theorem dL_law_98 : decode cL_law 98 = .ok (.iconst 0, 1) := by decide +kernel
theorem dL_law_99 : decode cL_law 99 = .ok (.istore_n 3, 1) := by decide +kernel
theorem dL_law_100 : decode cL_law 100 = .ok (.iinc 4 1, 3) := by decide +kernel
theorem dL_law_103 : decode cL_law 103 = .ok (.goto (-58), 3) := by decide +kernel
theorem dL_law_106 : decode cL_law 106 = .ok (.iload_n 3, 1) := by decide +kernel
theorem dL_law_107 : decode cL_law 107 = .ok (.ifCond .eq 28, 3) := by decide +kernel
theorem dL_law_110 : decode cL_law 110 = .ok (.aload_n 1, 1) := by decide +kernel
theorem dL_law_111 : decode cL_law 111 = .ok (.invokestatic 88, 3) := by decide +kernel
theorem dL_law_114 : decode cL_law 114 = .ok (.ifCond .eq 21, 3) := by decide +kernel
theorem dL_law_117 : decode cL_law 117 = .ok (.aload_n 1, 1) := by decide +kernel
theorem dL_law_118 : decode cL_law 118 = .ok (.aload_n 2, 1) := by decide +kernel
theorem dL_law_119 : decode cL_law 119 = .ok (.aload_n 0, 1) := by decide +kernel
theorem dL_law_120 : decode cL_law 120 = .ok (.bipush 60, 2) := by decide +kernel
theorem dL_law_122 : decode cL_law 122 = .ok (.invokestatic 80, 3) := by decide +kernel
theorem dL_law_125 : decode cL_law 125 = .ok (.invokestatic 92, 3) := by decide +kernel
theorem dL_law_128 : decode cL_law 128 = .ok (.ifCond .eq 7, 3) := by decide +kernel
theorem dL_law_131 : decode cL_law 131 = .ok (.iconst 1, 1) := by decide +kernel
theorem dL_law_132 : decode cL_law 132 = .ok (.goto 4, 3) := by decide +kernel
theorem dL_law_135 : decode cL_law 135 = .ok (.iconst 0, 1) := by decide +kernel
theorem dL_law_136 : decode cL_law 136 = .ok (.ireturn, 1) := by decide +kernel
abbrev nwP : Cond := .methodLinkNest "StairBows$Staircase" 31 yX2_init "StairBows"
abbrev nwD : Cond := .methodLinkNest "StairBows" 36 yX1_init "StairBows"
abbrev nwF : Cond := .fieldLinkNest "StairBows$Staircase" 9 "StairBows" "FIRST_VALUE" "[I" "StairBows"
theorem nw_P : nwP ∈ lw_tbl := List.mem_of_getElem? (i := 36) (by decide +kernel)
theorem nw_D : nwD ∈ lw_tbl := List.mem_of_getElem? (i := 124) (by decide +kernel)
theorem nw_F : nwF ∈ lw_tbl := List.mem_of_getElem? (i := 31) (by decide +kernel)
theorem nw_S : nwS ∈ lw_tbl := List.mem_of_getElem? (i := 240) (by decide +kernel)
theorem ao_P : Cond.arrayOver (.object "StairBows$Person") ∈ lw_tbl := List.mem_of_getElem? (i := 34) (by decide +kernel)
theorem ao_S : Cond.arrayOver (.object "StairBows$Staircase") ∈ lw_tbl := List.mem_of_getElem? (i := 112) (by decide +kernel)
end
section
/-! A WORLD THAT GROWS: cells b .. M - 1 of the layout, at addresses ad, with contents E -/
theorem arrV_congr {cA : ClassId} {N : Nat} {f g : Nat → Value} (h : ∀ j, j < N → f j = g j) : arrV cA N f = arrV cA N g := by
  unfold arrV
  congr 2
  funext j
  exact h _ j.isLt
def wb (ad : Nat → Nat) (E : Nat → va_E) (b M : Nat) : va_W := (List.range (M - b)).map (fun o => (ad (b + o), E (b + o)))
def upE (E : Nat → va_E) (i : Nat) (e : va_E) : Nat → va_E := fun j => if j = i then e else E j
def upN (ad : Nat → Nat) (i : Nat) (q : Nat) : Nat → Nat := fun j => if j = i then q else ad j
theorem upE_at (E : Nat → va_E) (i : Nat) (e : va_E) : upE E i e i = e := by simp [upE]
theorem upE_ne (E : Nat → va_E) {i j : Nat} (e : va_E) (h : j ≠ i) : upE E i e j = E j := by simp [upE, h]
theorem upN_at (ad : Nat → Nat) (i q : Nat) : upN ad i q i = q := by simp [upN]
theorem upN_ne (ad : Nat → Nat) {i j : Nat} (q : Nat) (h : j ≠ i) : upN ad i q j = ad j := by simp [upN, h]
theorem wb_len (ad : Nat → Nat) (E : Nat → va_E) (b M : Nat) : (wb ad E b M).length = M - b := by simp [wb]
theorem wb_at {ad : Nat → Nat} {E : Nat → va_E} {b M i : Nat} (h1 : b ≤ i) (h2 : i < M) : (wb ad E b M)[i - b]? = some (ad i, E i) := by
  have : i - b < M - b := by omega
  simp [wb, this, show b + (i - b) = i by omega]
theorem wb_lt {ad : Nat → Nat} {E : Nat → va_E} {b M k : Nat} {q : Nat × va_E} (h : (wb ad E b M)[k]? = some q) : k < M - b ∧ q = (ad (b + k), E (b + k)) := by
  have hl := (List.getElem?_eq_some_iff.mp h).1
  rw [wb_len] at hl
  refine ⟨hl, ?_⟩
  have h2 := wb_at (ad := ad) (E := E) (b := b) (M := M) (i := b + k) (by omega) (by omega)
  rw [show b + k - b = k by omega, h] at h2
  exact Option.some.inj h2
theorem wb_set {ad : Nat → Nat} {E : Nat → va_E} {b M i : Nat} {e : va_E} (h1 : b ≤ i) (h2 : i < M) : (wb ad E b M).set (i - b) (ad i, e) = wb ad (upE E i e) b M := by
  apply List.ext_getElem?
  intro j
  by_cases hj : j = i - b
  · subst hj
    rw [List.getElem?_set_self (by rw [wb_len]; omega), wb_at h1 h2, upE_at]
  · rw [List.getElem?_set_ne (Ne.symm hj)]
    by_cases hl : j < M - b
    · have a1 := wb_at (ad := ad) (E := E) (b := b) (M := M) (i := b + j) (by omega) (by omega)
      have a2 := wb_at (ad := ad) (E := upE E i e) (b := b) (M := M) (i := b + j) (by omega) (by omega)
      rw [show b + j - b = j by omega] at a1 a2
      rw [a1, a2, upE_ne _ _ (by omega)]
    · rw [List.getElem?_eq_none (by rw [wb_len]; omega), List.getElem?_eq_none (by rw [wb_len]; omega)]
theorem wb_one (h0 : Nat) (e : va_E) (b : Nat) : [(h0, e)] = wb (fun _ => h0) (fun _ => e) b (b + 1) := by
  unfold wb
  rw [show b + 1 - b = 1 by omega]
  rfl
theorem wb_nil (ad : Nat → Nat) (E : Nat → va_E) (b : Nat) : [] = wb ad E b b := by
  unfold wb
  rw [Nat.sub_self]
  rfl
theorem wb_ext {ad ad' : Nat → Nat} {E E' : Nat → va_E} {b M : Nat} (h : ∀ i, b ≤ i → i < M → ad i = ad' i ∧ E i = E' i) : wb ad E b M = wb ad' E' b M := by
  unfold wb
  apply List.map_congr_left
  intro i hi
  have h0 := List.mem_range.mp hi
  have := h (b + i) (by omega) (by omega)
  rw [this.1, this.2]
def jn {α : Type} (N : Nat) (f g : Nat → α) : Nat → α := fun i => if i < N then f i else g i
theorem jn_lt {α : Type} {N i : Nat} (f g : Nat → α) (h : i < N) : jn N f g i = f i := by simp [jn, h]
theorem jn_ge {α : Type} {N i : Nat} (f g : Nat → α) (h : N ≤ i) : jn N f g i = g i := by simp [jn, Nat.not_lt.mpr h]
theorem wb_join {ad ad2 : Nat → Nat} {E E2 : Nat → va_E} {b M L : Nat} (h1 : b ≤ M) (h2 : M ≤ L) : wb ad E b M ++ wb ad2 E2 M L = wb (jn M ad ad2) (jn M E E2) b L := by
  apply List.ext_getElem?
  intro j
  by_cases hj : j < M - b
  · rw [List.getElem?_append_left (by rw [wb_len]; exact hj)]
    have a1 := wb_at (ad := ad) (E := E) (b := b) (M := M) (i := b + j) (by omega) (by omega)
    have a2 := wb_at (ad := jn M ad ad2) (E := jn M E E2) (b := b) (M := L) (i := b + j) (by omega) (by omega)
    rw [show b + j - b = j by omega] at a1 a2
    rw [a1, a2, jn_lt _ _ (by omega), jn_lt _ _ (by omega)]
  · rw [List.getElem?_append_right (by rw [wb_len]; omega), wb_len]
    by_cases hl : j < L - b
    · have a1 := wb_at (ad := ad2) (E := E2) (b := M) (M := L) (i := b + j) (by omega) (by omega)
      have a2 := wb_at (ad := jn M ad ad2) (E := jn M E E2) (b := b) (M := L) (i := b + j) (by omega) (by omega)
      rw [show b + j - b = j by omega] at a2
      rw [show b + j - M = j - (M - b) by omega] at a1
      rw [a1, a2, jn_ge _ _ (by omega), jn_ge _ _ (by omega)]
    · rw [List.getElem?_eq_none (by rw [wb_len]; omega), List.getElem?_eq_none (by rw [wb_len]; omega)]
theorem wb_push {ad : Nat → Nat} {E : Nat → va_E} {b M q : Nat} {e : va_E} (h : b ≤ M) : wb ad E b M ++ [(q, e)] = wb (upN ad M q) (upE E M e) b (M + 1) := by
  rw [wb_one q e M, wb_join h (by omega)]
  refine wb_ext (fun i h1 h2 => ?_)
  by_cases hi : i < M
  · rw [jn_lt _ _ hi, jn_lt _ _ hi, upN_ne _ _ (by omega), upE_ne _ _ (by omega)]
    exact ⟨rfl, rfl⟩
  · have : i = M := by omega
    subst this
    rw [jn_ge _ _ (by omega), jn_ge _ _ (by omega), upN_at, upE_at]
    exact ⟨rfl, rfl⟩
/-! contents that are as good -/
def Cv (D : va_G) (e e' : va_E) : Prop := ∀ (a : Nat) (H : Heap), va_at D vwCl (a, e) H → va_at D vwCl (a, e') H
theorem Cv.of {D : va_G} {e e' : va_E} (h : e = e') : Cv D e e' := fun a H x => h ▸ x
theorem Cv.trans {D : va_G} {e e' e2 : va_E} (h : Cv D e e') (h2 : Cv D e' e2) : Cv D e e2 := fun a H x => h2 a H (h a H x)
theorem Cv.q {D : va_G} {cA : ClassId} {n : Nat} {f f' : Nat → Option Nat} (h : ∀ j, j < n → f j = f' j) : Cv D (.inl (cA, n, .inr (.inr (.inr (.inr f))))) (.inl (cA, n, .inr (.inr (.inr (.inr f'))))) := fun a H x => by
  have x : H[a]? = some (arrV cA n (fun j => va_rf (f j))) := x
  show H[a]? = some (arrV cA n (fun j => va_rf (f' j)))
  rw [x, arrV_congr (fun j hj => by rw [h j hj])]
theorem Cv.i {D : va_G} {cA : ClassId} {n : Nat} {f f' : Nat → Int32} (h : ∀ j, j < n → f j = f' j) : Cv D (.inl (cA, n, .inl f)) (.inl (cA, n, .inl f')) := fun a H x => by
  have x : H[a]? = some (arrV cA n (fun j => .int (f j))) := x
  show H[a]? = some (arrV cA n (fun j => .int (f' j)))
  rw [x, arrV_congr (fun j hj => by rw [h j hj])]
theorem P_cv {D : va_G} {ad : Nat → Nat} {E E' : Nat → va_E} {b M : Nat} {H : Heap} (h : ∀ i, b ≤ i → i < M → Cv D (E i) (E' i)) (hP : va_P D vwCl (wb ad E b M) H) : va_P D vwCl (wb ad E' b M) H := fun k q hk => by
  obtain ⟨hl, e⟩ := wb_lt hk
  subst e
  have h0 := wb_at (ad := ad) (E := E) (b := b) (M := M) (i := b + k) (by omega) (by omega)
  exact h (b + k) (by omega) (by omega) _ _ (hP (b + k - b) _ h0)
theorem D_cv {A : Nat → Prop} {ad : Nat → Nat} {E E' : Nat → va_E} {b M : Nat} (hD : va_D A (wb ad E b M)) : va_D A (wb ad E' b M) := by
  have at' : ∀ k, k < M - b → (wb ad E b M)[k]? = some (ad (b + k), E (b + k)) := fun k hk => by
    have h0 := wb_at (ad := ad) (E := E) (b := b) (M := M) (i := b + k) (by omega) (by omega)
    rwa [show b + k - b = k by omega] at h0
  refine ⟨fun i j x y hi hj hxy => ?_, fun k q hk => ?_⟩
  · obtain ⟨a1, b1⟩ := wb_lt hi
    obtain ⟨a2, b2⟩ := wb_lt hj
    subst b1; subst b2
    exact hD.1 i j _ _ (at' i a1) (at' j a2) hxy
  · obtain ⟨a1, b1⟩ := wb_lt hk
    subst b1
    exact hD.2 k (ad (b + k), E (b + k)) (at' k a1)
theorem ra_same {U : State} {cA cB : ClassId} {ty : FieldType} (h1 : va_RA U cA ty) (h2 : va_RA U cB ty) : cA = cB := by
  cases ty with
  | object C =>
    obtain ⟨_, _, _, _, _, e1⟩ := h1
    obtain ⟨_, _, _, _, _, e2⟩ := h2
    exact Option.some.inj (e1.symm.trans e2)
  | _ => exact Option.some.inj (Eq.trans (Eq.symm h1) h2)
/-! the memory of new objects -/
def r0 (K : Nat) : Nat → Int32 := if K = 9 then (fun k => if k = 3 then 272 else 0) else if K = 10 then firstV else if K = 2 then nI else if K = 20 then (fun k => if k = 0 then 2 else if k = 1 then 1 else if k = 5 then 272 else 0) else fun _ => 0
def mu0 : Mem := fun i => r0 (kd i)
/-- where a cell's references end -/
def hiR (i : Nat) : Nat := if kd i = 9 then i + 4 else if kd i = 11 then i + 26 else if kd i = 1 then 59 else if kd i = 2 then 200 else if kd i = 3 then 260 else if kd i = 5 then 231 else if kd i = 0 then 230 else if kd i = 7 then 287 else 0
theorem kd_0 : ∀ i, i < 287 → (kd i = 0 → i = 0) ∧ (kd i = 1 → i = 57) ∧ (kd i = 2 → i = 58) ∧ (kd i = 3 → i = 227) ∧ (kd i = 5 → i = 229) ∧ (kd i = 7 → i = 287) := by decide +kernel
theorem fs_ad {ad ad' : Nat → Nat} {K i : Nat} {f : Nat → Int32} (h : ∀ k, k < nfK K → ∀ j, fr K i k = some j → ad j = ad' j) : fsK ad K i f = fsK ad' K i f := by
  unfold fsK
  apply List.map_congr_left
  intro k hk
  unfold fvl
  cases hr : fr K i k with
  | none => rfl
  | some j =>
    dsimp only
    rw [h k (List.mem_range.mp hk) j hr]
/-- all of a cell's references lie behind it, and before hiR -/
theorem fr_rng : ∀ i, i < 287 → ∀ k, k < 10 → ∀ j, fr (kd i) i k = some j → i ≤ j ∧ (k < nfK (kd i) → j < hiR i) := by
  intro i hi k hk j
  have := (by decide +kernel : ∀ i, i < 287 → ∀ k, k < 10 → (fr (kd i) i k).all (fun j => decide (i ≤ j) && (decide (nfK (kd i) ≤ k) || decide (j < hiR i))) = true) i hi k hk
  intro h
  rw [h] at this
  simp only [Option.all_some, Bool.and_eq_true, Bool.or_eq_true, decide_eq_true_eq] at this
  exact ⟨this.1, fun h2 => this.2.resolve_left (by omega)⟩
theorem nf_le (K : Nat) : nfK K ≤ 10 := by
  unfold nfK
  repeat' split
  all_goals omega
theorem lay_ge {g : Gv} {ad ad' : Nat → Nat} {i : Nat} (hi : i < 287) (h : ∀ j, i ≤ j → ad j = ad' j) : lay g ad mu0 i = lay g ad' mu0 i := by
  have k0 := kd_0 i hi
  have hf : ∀ f, fsK ad (kd i) i f = fsK ad' (kd i) i f := fun f => fs_ad (fun k hk j hj => h j (fr_rng i hi k (Nat.lt_of_lt_of_le hk (nf_le _)) j hj).1)
  unfold lay cellK
  by_cases h1 : kd i = 11
  · rw [if_pos h1, if_pos h1]
    congr 7
    funext k
    rw [h _ (by omega)]
  · rw [if_neg h1, if_neg h1]
    by_cases h2 : kd i = 2
    · rw [if_pos h2, if_pos h2]
      have := k0.2.2.1 h2
      congr 7
      funext k
      rw [h _ (by omega)]
    · rw [if_neg h2, if_neg h2]
      by_cases h3 : kd i = 3
      · rw [if_pos h3, if_pos h3]
        have := k0.2.2.2.1 h3
        congr 7
        funext k
        rw [h _ (by omega)]
      · rw [if_neg h3, if_neg h3, hf]
theorem lay_cv {g : Gv} {ad ad' : Nat → Nat} {i : Nat} (hi : i < 287) (h : ∀ j, i ≤ j → j < hiR i → ad j = ad' j) : Cv g.1 (lay g ad mu0 i) (lay g ad' mu0 i) := by
  have k0 := kd_0 i hi
  have hf : ∀ f, fsK ad (kd i) i f = fsK ad' (kd i) i f := fun f => fs_ad (fun k hk j hj => by
    have := fr_rng i hi k (Nat.lt_of_lt_of_le hk (nf_le _)) j hj
    exact h j this.1 (this.2 hk))
  unfold lay cellK
  by_cases h1 : kd i = 11
  · rw [if_pos h1, if_pos h1]
    have e : hiR i = i + 26 := by unfold hiR; rw [if_neg (by omega), if_pos h1]
    exact Cv.q (fun k hk => by rw [h _ (by omega) (by omega)])
  · rw [if_neg h1, if_neg h1]
    by_cases h2 : kd i = 2
    · rw [if_pos h2, if_pos h2]
      have e : hiR i = 200 := by unfold hiR; rw [if_neg (by omega), if_neg (by omega), if_neg (by omega), if_pos h2]
      have := k0.2.2.1 h2
      refine Cv.q (fun k hk => ?_)
      have e2 : (mu0 i k).toNatClampNeg = k := by
        unfold mu0 r0
        rw [h2]
        exact nI_clamp (by omega)
      rw [e2, h _ (by omega) (by omega)]
    · rw [if_neg h2, if_neg h2]
      by_cases h3 : kd i = 3
      · rw [if_pos h3, if_pos h3]
        have e : hiR i = 260 := by unfold hiR; rw [if_neg (by omega), if_neg (by omega), if_neg (by omega), if_neg (by omega), if_pos h3]
        have := k0.2.2.2.1 h3
        exact Cv.q (fun k hk => by rw [h _ (by omega) (by omega)])
      · rw [if_neg h3, if_neg h3, hf]
        exact Cv.of rfl
end
section
/-! ROWS over a world that grows -/
def NwA (U : State) : Prop := va_Nw nwP U ∧ va_Nw nwD U ∧ va_Nw nwF U ∧ va_AO "StairBows$Person" U ∧ va_AO "StairBows$Staircase" U
theorem NwA.warm {s U : State} (hW : s.WarmedH U.vm) (h : NwA s) : NwA U := ⟨h.1.warmM hW, h.2.1.warmM hW, h.2.2.1.warmF hW, h.2.2.2.1.moved hW.alike, h.2.2.2.2.moved hW.alike⟩
theorem NwA.same {u U : State} (hvm : u.vm = U.vm) (h : NwA u) : NwA U := by
  have ha : u.vm.Alike U.vm := by rw [hvm]; exact Vm.Alike.refl _
  exact ⟨va_Nw.same rfl hvm h.1, va_Nw.same rfl hvm h.2.1, va_Nw.same rfl hvm h.2.2.1, h.2.2.2.1.moved ha, h.2.2.2.2.moved ha⟩
def PreN (g : Gv) (ws : va_W) (sz : Nat) (av : List Value) : Array Value → State → Prop :=
  va_Pc av (fun U => U.heap.size = sz ∧ va_P g.1 vwCl ws U.heap ∧ va_K g.1 vwCl (tysG g) U ∧ va_D (fun _ => True) ws ∧ NwA U ∧ Stt (va_A ws sz) U U.heap)
def PostN (g : Gv) (b M : Nat) (ws : va_W) (sz h0 : Nat) : Array Value → State → Outcome → State → Prop :=
  va_Qv (fun ad : Nat → Nat => ad b = h0) (fun ad t => va_P g.1 vwCl (wb ad (lay g ad mu0) b M) t.heap ∧ va_D (va_A ws sz) (wb ad (lay g ad mu0) b M)) (va_A ws sz)
def CxN (g : Gv) (p : Program) (s : State) (m : MethodId) (args : Array Value) (c : Code) (own : String) (cc : ByteArray) (nL : Nat) : Prop :=
  p.tables.exec = Jvm.exec ∧ c.code = cc ∧ c.maxLocals = nL ∧ (∀ w ∈ tb_G, w.before args s = true) ∧ s.vm.findClass own = some m.cls ∧ va_K g.1 vwCl (tysG g) s ∧ NwA s
def Gw (g : Gv) (ad : Nat → Nat) (E : Nat → va_E) (b M : Nat) (A : Nat → Prop) (s : State) (H : Heap) (locs : List Loc) : Prop :=
  va_P g.1 vwCl (wb ad E b M) H ∧ va_D A (wb ad E b M) ∧ va_S A s.heap H locs ∧ (∀ q, s.heap.size ≤ q → A q) ∧ Stt A s s.heap
theorem preN_blind (g : Gv) (ws : va_W) (sz : Nat) (av : List Value) : FrameBlind (PreN g ws sz av) := by
  intro a U f mk h
  obtain ⟨h1, h2, h3, h4, h5, h6, h7⟩ := h
  exact ⟨h1, h2, h3, va_K.moved (u := U) (U := U.calling f mk a) (Vm.Alike.refl U.vm) h4, h5, NwA.same (u := U) (U := U.calling f mk a) rfl h6, Stt.moved (u := U) (U := U.calling f mk a) (Vm.Alike.refl U.vm) h7⟩
theorem n_start {g : Gv} {h0 sz b : Nat} {e0 : va_E} {av : List Value} {p : Program} {l : Launch} {y : MethodName} {cc : ByteArray} {nL : Nat} {rm : Room} {e : Env} {s : State} {m : MethodId} {args : Array Value} {below : List Frame} {meth : Method} {c : Code} {s₁ : State}
    (B : BodyLoose p l y (headSpec (wX y cc nL none) rm) cc nL none e s m args below meth c s₁) (hml : c.maxLocals = nL) (hv : PreN g [(h0, e0)] sz av args s) : args = av.toArray ∧ s.heap.size = sz ∧ CxN g p s m args c y.cls cc nL ∧ Gw g (fun _ => h0) (fun _ => e0) b (b + 1) (va_A [(h0, e0)] sz) s s.heap [] := by
  obtain ⟨h1, h2, h3, h4, h5, h6, h7⟩ := hv
  have hts := atoms_spec (ws := wX y cc nL none) B.pre
  refine ⟨h1, h2, ⟨B.exec, B.bytes, hml, fun w hw => hts w (List.mem_cons_of_mem _ hw), findClass_of_methodNamed B.named, h4, h6⟩, ?_⟩
  unfold Gw
  rw [← wb_one h0 e0 b]
  refine ⟨h3, h5.self, va_S.rf, fun q hq => Or.inr (by omega), h7⟩
section GR
variable {g : Gv} {ad : Nat → Nat} {E : Nat → va_E} {b M : Nat} {A : Nat → Prop} {own : String} {cc : ByteArray} {nL : Nat}
variable {p : Program} {l : Launch} {e : Env} {R : Room} {s : State} {m : MethodId} {args : Array Value} {below : List Frame} {meth : Method} {c : Code} {H : Heap} {locs : List Loc} {cells slots : Nat} {Q : State → Prop}
variable {pc : Nat} {ls : Array Slot} {rest st : List Value}
theorem n_in (w : Gw g ad E b M A s H locs) {i a : Nat} {x : va_E} (h1 : b ≤ i) (h2 : i < M) (ha : ad i = a) (he : E i = x) : (wb ad E b M)[i - b]? = some (a, x) := by rw [wb_at h1 h2, ha, he]
theorem n_newa (C0 : CxN g p s m args c own cc nL) (w : Gw g ad E b M A s H locs) (hbM : b ≤ M) {atype : ArrayType} {t : Nat} {ty : FieldType} (harr : Cond.arrayClass (newarray.typeOf atype) ∈ tb_G) (hty : newarray.typeOf atype = ty) (ht : (tysG g)[t]? = some (g.2 t, ty)) {n : Int32} {N' : Nat} {a0 : vp_A} (ha : ∀ cA : ClassId, vp_cell cA a0 = arrV cA N' (fun _ => defaultValue ty)) (hn : ¬ n < 0) (hN : n.toNatClampNeg = N') (hbytes : N' * componentBytes ty ≤ 536870912) (hcells : cells + 1 ≤ R.cells) (hslots : slots + N' ≤ R.slots) (hdg : decode cc pc = .ok (.newarray atype, 2))
    (kk : ∀ (q : Nat) (H1 : Heap), Gw g (upN ad M q) (upE E M (.inl (g.2 t, a0))) b (M + 1) A s H1 locs → W p l e R s m args below meth c H1 locs (cells + 1) (slots + N') Q (F0 m (pc + 2) ls (.ref q :: rest))) : W p l e R s m args below meth c H locs cells slots Q (F0 m pc ls (.int n :: rest)) := by
  obtain ⟨hx, hb, hml, hts, hown, hKK, hN9⟩ := C0
  refine va_newa hx hb (hts _ harr) hty hKK w.1 w.2.1 w.2.2.1 w.2.2.2.1 ha hn hN hbytes hcells hslots hdg (fun q cA H1 hK' hP hD hS => ?_)
  have e : cA = g.2 t := ra_same (hK'.2 5 (cA, ty) rfl).2 (hKK.2 t _ ht).2
  subst e
  rw [wb_push hbM] at hP hD
  exact kk q H1 ⟨hP, hD, hS, w.2.2.2⟩
theorem n_newq (C0 : CxN g p s m args c own cc nL) (w : Gw g ad E b M A s H locs) (hbM : b ≤ M) {C : String} {index t : Nat} (hcl : Cond.classLink own index C ∈ tb_G) (hao : va_AO C s) (ht : (tysG g)[t]? = some (g.2 t, .object C)) {n : Int32} {N' : Nat} (hn : ¬ n < 0) (hN : n.toNatClampNeg = N') (hbytes : N' * 4 ≤ 536870912) (hcells : cells + 1 ≤ R.cells) (hslots : slots + N' ≤ R.slots) (hdg : decode cc pc = .ok (.anewarray index, 3))
    (kk : ∀ (q : Nat) (H1 : Heap), Gw g (upN ad M q) (upE E M (.inl (g.2 t, N', .inr (.inr (.inr (.inr (fun _ => none))))))) b (M + 1) A s H1 locs → W p l e R s m args below meth c H1 locs (cells + 1) (slots + N') Q (F0 m (pc + 3) ls (.ref q :: rest))) : W p l e R s m args below meth c H locs cells slots Q (F0 m pc ls (.int n :: rest)) := by
  obtain ⟨hx, hb, hml, hts, hown, hKK, hN9⟩ := C0
  refine va_newq hx hb hown (hts _ hcl) hao hKK w.1 w.2.1 w.2.2.1 w.2.2.2.1 hn hN hbytes hcells hslots hdg (fun q cA H1 hK' hP hD hS => ?_)
  have e : cA = g.2 t := ra_same (hK'.2 5 (cA, .object C) rfl).2 (hKK.2 t _ ht).2
  subst e
  rw [wb_push hbM] at hP hD
  exact kk q H1 ⟨hP, hD, hS, w.2.2.2⟩
theorem n_new (C0 : CxN g p s m args c own cc nL) (w : Gw g ad E b M A s H locs) (hbM : b ≤ M) {C : String} {T : u_T} {N ci index : Nat} (hin : ∀ w ∈ u_ws C T N, w ∈ tb_G) (ty : Nat → FieldType) (hty : ∀ k, k < N → parseFieldDescriptor (T k).2.2.1 = some (ty k)) (hcl : Cond.classLink own index C ∈ tb_G) (hinst : Cond.instantiable C N ∈ tb_G) (hini : Cond.initialized C ∈ tb_G) (hc : vwCl[ci]? = some (C, T, N)) {fs : List Value} (hfs : ∀ j, j < N → defaultValue (ty j) = vp_V fs j) (hcells : cells + 1 ≤ R.cells) (hslots : slots + N ≤ R.slots) (hdg : decode cc pc = .ok (.new index, 3))
    (kk : ∀ (q : Nat) (H1 : Heap), Gw g (upN ad M q) (upE E M (.inr (ci, fs))) b (M + 1) A s H1 locs → W p l e R s m args below meth c H1 locs (cells + 1) (slots + N) Q (F0 m (pc + 3) ls (.ref q :: rest))) : W p l e R s m args below meth c H locs cells slots Q (F0 m pc ls rest) := by
  obtain ⟨hx, hb, hml, hts, hown, hKK, hN9⟩ := C0
  refine va_new hx hb hts hin ty hty hown (hts _ hcl) (hts _ hinst) (hts _ hini) hKK w.1 w.2.1 w.2.2.1 w.2.2.2.1 hc hfs hcells hslots hdg (fun q H1 hP hD hS => ?_)
  rw [wb_push hbM] at hP hD
  exact kk q H1 ⟨hP, hD, hS, w.2.2.2⟩
theorem n_putF (C0 : CxN g p s m args c own cc nL) (w : Gw g ad E b M A s H locs) (hmeth : meth.name = "<init>") {i ci k N a : Nat} {fs : List Value} {v : Value} {ty : FieldType} {C : String} {T : u_T} {index : Nat} (h1 : b ≤ i) (h2 : i < M) (ha : ad i = a) (he : E i = .inr (ci, fs)) (hin : ∀ w ∈ u_ws C T N, w ∈ tb_G) (ty0 : Nat → FieldType) (hty : ∀ k, k < N → parseFieldDescriptor (T k).2.2.1 = some (ty0 k)) (hnm : ∀ a, a < N → ∀ b, b < N → a ≠ b → (T a).2.1 ≠ (T b).2.1) (hc : vwCl[ci]? = some (C, T, N)) (hk : k < N) (hlink : Cond.fieldLink own index (T k).1 (T k).2.1 (T k).2.2.1 ∈ tb_G) (hfin : (T k).2.2.2 = true) (hdecl : (T k).1 = own) (hd : ty0 k = ty) (hn : narrow ty v = v) (hfit : fits ty v = true) (hl : k < fs.length) (hdg : decode cc pc = .ok (.putfield index, 3))
    (kk : ∀ (H1 : Heap) (locs1 : List Loc), Gw g ad (upE E i (.inr (ci, fs.set k v))) b M A s H1 locs1 → W p l e R s m args below meth c H1 locs1 cells slots Q (F0 m (pc + 3) ls rest)) : W p l e R s m args below meth c H locs cells slots Q (F0 m pc ls (v :: .ref a :: rest)) := by
  obtain ⟨hx, hb, hml, hts, hown, hKK, hN9⟩ := C0
  refine va_putF hx hb hts hin ty0 hty hnm hown hKK w.1 w.2.1 w.2.2.1 (i - b) (n_in w h1 h2 ha he) hc k hk (hts _ hlink) (fun _ h => h) hfin hmeth hdecl ((hty k hk).trans (congrArg some hd)) hn hfit hl hdg (fun H1 locs1 hP hD hS => ?_)
  rw [← ha, wb_set h1 h2] at hP hD
  exact kk H1 locs1 ⟨hP, hD, hS, w.2.2.2⟩
theorem n_put (C0 : CxN g p s m args c own cc nL) (w : Gw g ad E b M A s H locs) {i ci k N a : Nat} {fs : List Value} {v : Value} {ty : FieldType} {C : String} {T : u_T} {index : Nat} (h1 : b ≤ i) (h2 : i < M) (ha : ad i = a) (he : E i = .inr (ci, fs)) (hin : ∀ w ∈ u_ws C T N, w ∈ tb_G) (ty0 : Nat → FieldType) (hty : ∀ k, k < N → parseFieldDescriptor (T k).2.2.1 = some (ty0 k)) (hnm : ∀ a, a < N → ∀ b, b < N → a ≠ b → (T a).2.1 ≠ (T b).2.1) (hc : vwCl[ci]? = some (C, T, N)) (hk : k < N) (hlink : Cond.fieldLink own index (T k).1 (T k).2.1 (T k).2.2.1 ∈ tb_G) (hfin : (T k).2.2.2 = false) (hd : ty0 k = ty) (hn : narrow ty v = v) (hfit : fits ty v = true) (hl : k < fs.length) (hdg : decode cc pc = .ok (.putfield index, 3))
    (kk : ∀ (H1 : Heap) (locs1 : List Loc), Gw g ad (upE E i (.inr (ci, fs.set k v))) b M A s H1 locs1 → W p l e R s m args below meth c H1 locs1 cells slots Q (F0 m (pc + 3) ls rest)) : W p l e R s m args below meth c H locs cells slots Q (F0 m pc ls (v :: .ref a :: rest)) := by
  obtain ⟨hx, hb, hml, hts, hown, hKK, hN9⟩ := C0
  refine va_put hx hb hts hin ty0 hty hnm hown hKK w.1 w.2.1 w.2.2.1 (i - b) (n_in w h1 h2 ha he) hc k hk (hts _ hlink) (fun _ h => h) hfin ((hty k hk).trans (congrArg some hd)) hn hfit hl hdg (fun H1 locs1 hP hD hS => ?_)
  rw [← ha, wb_set h1 h2] at hP hD
  exact kk H1 locs1 ⟨hP, hD, hS, w.2.2.2⟩
theorem n_get (C0 : CxN g p s m args c own cc nL) (w : Gw g ad E b M A s H locs) {i ci k N a : Nat} {fs : List Value} {v : Value} {C : String} {T : u_T} {index : Nat} (h1 : b ≤ i) (h2 : i < M) (ha : ad i = a) (he : E i = .inr (ci, fs)) (hin : ∀ w ∈ u_ws C T N, w ∈ tb_G) (hc : vwCl[ci]? = some (C, T, N)) (hk : k < N) (hlink : Cond.fieldLink own index (T k).1 (T k).2.1 (T k).2.2.1 ∈ tb_G) (hv : fs[k]? = some v) (hdg : decode cc pc = .ok (.getfield index, 3))
    (kk : W p l e R s m args below meth c H locs cells slots Q (F0 m (pc + 3) ls (v :: rest))) : W p l e R s m args below meth c H locs cells slots Q (F0 m pc ls (.ref a :: rest)) := by
  obtain ⟨hx, hb, hml, hts, hown, hKK, hN9⟩ := C0
  exact va_get hx hb hts hin hown hKK w.1 (i - b) (n_in w h1 h2 ha he) hc k hk (hts _ hlink) (fun _ h => h) hv hdg kk
theorem n_alen (C0 : CxN g p s m args c own cc nL) (w : Gw g ad E b M A s H locs) {i a t : Nat} {x : vp_A} {ty : FieldType} (h1 : b ≤ i) (h2 : i < M) (ha : ad i = a) (he : E i = .inl (g.2 t, x)) (ht : (tysG g)[t]? = some (g.2 t, ty)) {v : Int32} (hv : Int32.ofNat x.1 = v) (hdg : decode cc pc = .ok (.arraylength, 1))
    (kk : W p l e R s m args below meth c H locs cells slots Q (F0 m (pc + 1) ls (.int v :: rest))) : W p l e R s m args below meth c H locs cells slots Q (F0 m pc ls (.ref a :: rest)) := by
  obtain ⟨hx, hb, hml, hts, hown, hKK, hN9⟩ := C0
  exact va_alen hx hb hKK w.1 (i - b) t (n_in w h1 h2 ha he) ht hv hdg kk
theorem n_iast (C0 : CxN g p s m args c own cc nL) (w : Gw g ad E b M A s H locs) {i a n jn' : Nat} {f : Nat → Int32} {j v : Int32} (h1 : b ≤ i) (h2 : i < M) (ha : ad i = a) (he : E i = .inl (g.2 0, n, .inl f)) (hj : j.toNatClampNeg = jn') (hin : vp_in j n) (hdg : decode cc pc = .ok (.iastore, 1))
    (kk : ∀ (H1 : Heap) (locs1 : List Loc), Gw g ad (upE E i (.inl (g.2 0, n, .inl (upd f jn' v)))) b M A s H1 locs1 → W p l e R s m args below meth c H1 locs1 cells slots Q (F0 m (pc + 1) ls rest)) : W p l e R s m args below meth c H locs cells slots Q (F0 m pc ls (.int v :: .int j :: .ref a :: rest)) := by
  subst hj
  obtain ⟨hx, hb, hml, hts, hown, hKK, hN9⟩ := C0
  refine va_iast hx hb hKK w.1 w.2.1 w.2.2.1 (i - b) 0 (n_in w h1 h2 ha he) rfl hin hdg (fun H1 locs1 hP hD hS => ?_)
  rw [← ha, wb_set h1 h2] at hP hD
  exact kk H1 locs1 ⟨hP, hD, hS, w.2.2.2⟩
theorem n_astq (C0 : CxN g p s m args c own cc nL) (w : Gw g ad E b M A s H locs) {i a n jn' t i2 v ci : Nat} {r : vw_C} {vs : List Value} {f : Nat → Option Nat} {j : Int32} (h1 : b ≤ i) (h2 : i < M) (ha : ad i = a) (he : E i = .inl (g.2 t, n, .inr (.inr (.inr (.inr f))))) (ht : (tysG g)[t]? = some (g.2 t, .object r.1)) (h3 : b ≤ i2) (h4 : i2 < M) (hv : ad i2 = v) (hve : E i2 = .inr (ci, vs)) (hc : vwCl[ci]? = some r) (hj : j.toNatClampNeg = jn') (hin : vp_in j n) (hdg : decode cc pc = .ok (.aastore, 1))
    (kk : ∀ (H1 : Heap) (locs1 : List Loc), Gw g ad (upE E i (.inl (g.2 t, n, .inr (.inr (.inr (.inr (va_up f jn' (some v)))))))) b M A s H1 locs1 → W p l e R s m args below meth c H1 locs1 cells slots Q (F0 m (pc + 1) ls rest)) : W p l e R s m args below meth c H locs cells slots Q (F0 m pc ls (.ref v :: .int j :: .ref a :: rest)) := by
  subst hj
  obtain ⟨hx, hb, hml, hts, hown, hKK, hN9⟩ := C0
  refine va_astq hx hb hKK w.1 w.2.1 w.2.2.1 (i - b) t (i2 - b) ci (n_in w h1 h2 ha he) ht (n_in w h3 h4 hv hve) hc hin hdg (fun H1 locs1 hP hD hS => ?_)
  rw [← ha, wb_set h1 h2] at hP hD
  exact kk H1 locs1 ⟨hP, hD, hS, w.2.2.2⟩
theorem n_obj (C0 : CxN g p s m args c own cc nL) (hls : ls.size = nL) {idx a : Nat} (hlink : Cond.methodLink own idx objectInit ∈ tb_G) (hdg : decode cc pc = .ok (.invokespecial idx, 3)) (hR : 1 ≤ R.frames) (hR2 : 12 ≤ R.locals)
    (kk : W p l e R s m args below meth c H locs cells slots Q (F0 m (pc + 3) ls [])) : W p l e R s m args below meth c H locs cells slots Q (F0 m pc ls [.ref a]) := by
  obtain ⟨hx, hb, hml, hts, hown, hKK, hN9⟩ := C0
  refine W.objInit hx hb hown (hts _ hlink) (hts _ oi_inst) (hts _ oi_code) rfl (by rw [hml]; exact hls) rfl hdg hR hR2 ?_
  exact W.eq (g2 := F0 m (pc + 3) ls []) rfl kk
end GR
end
section
/-! CONSTRUCTORS: calls and ends over a world that grows -/
theorem nd_of : ∀ l : List Nat, l.Nodup → va_nd l = true
  | [], _ => rfl
  | a :: l, h => by
    rw [List.nodup_cons] at h
    simp [va_nd, h.1, nd_of l h.2]
theorem upE_upE (E : Nat → va_E) (i : Nat) (x y : va_E) : upE (upE E i x) i y = upE E i y := by
  funext j
  unfold upE
  by_cases h : j = i <;> simp [h]
section GC
variable {g : Gv} {ad : Nat → Nat} {E : Nat → va_E} {b M : Nat} {A : Nat → Prop} {own : String} {cc : ByteArray} {nL : Nat}
variable {p : Program} {l : Launch} {e : Env} {R : Room} {s : State} {m : MethodId} {args : Array Value} {below : List Frame} {meth : Method} {c : Code} {H : Heap} {locs : List Loc} {cells slots mc ms : Nat} {Q : State → Prop}
variable {pc : Nat} {ls : Array Slot} {rest st : List Value} {q : Nat} {e1 : va_E}
theorem n_cut (w : Gw g ad E b (M + 1) A s H locs) (hbM : b ≤ M) (ha : ad M = q) (he : E M = e1) : [M - b].map (fun i => (wb ad E b (M + 1))[i]?) = [(q, e1)].map some := by
  show [(wb ad E b (M + 1))[M - b]?] = [some (q, e1)]
  rw [n_in w hbM (Nat.lt_succ_self M) ha he]
theorem n_free (w : Gw g ad E b (M + 1) A s H locs) (hbM : b ≤ M) (ha : ad M = q) (he : E M = e1) : ∀ z, va_A [(q, e1)] H.size z → A z := va_free w.2.1 w.2.2.1 w.2.2.2.1 [M - b] (n_cut w hbM ha he)
theorem n_pre (C0 : CxN g p s m args c own cc nL) (w : Gw g ad E b (M + 1) A s H locs) (hbM : b ≤ M) (ha : ad M = q) (he : E M = e1) (av : List Value) : ∀ U : State, U.heap = H → s.WarmedH U.vm → PreN g [(q, e1)] H.size av av.toArray U := by
  intro U hU hW
  obtain ⟨hx, hb, hml, hts, hown, hKK, hN9⟩ := C0
  refine ⟨rfl, by rw [hU], ?_, va_K.moved hW.alike hKK, ?_, hN9.warm hW, ?_⟩
  · rw [hU]
    exact w.1.sub [M - b] (by simp [n_in w hbM (Nat.lt_succ_self M) ha he])
  · exact (w.2.1.sub [M - b] (by simp [va_nd]) (n_cut w hbM ha he)).weaken (fun _ _ _ _ => trivial)
  · rw [hU]
    exact ((w.2.2.2.2.kept (fun a h1 h2 => w.2.2.1.2.1 a h1 h2)).narrow (n_free w hbM ha he)).moved hW.alike
theorem n_back {L : Nat} {aa : Array Value} (w : Gw g ad E b (M + 1) A s H locs) (hbM : b ≤ M) (hML : M + 1 ≤ L) (hL : L ≤ 287) (ha : ad M = q) (he : E M = e1)
    (hr : va_Run p l e R s m args below meth c H locs cells slots mc ms (F0 m pc ls st) rest (PostN g M L [(q, e1)] H.size q aa) (va_A [(q, e1)] H.size))
    (kk : ∀ (ad' : Nat → Nat) (H1 : Heap) (locs1 : List Loc), (∀ i, i ≤ M → ad' i = ad i) → Gw g ad' (jn M E (lay g ad' mu0)) b L A s H1 locs1 → W p l e R s m args below meth c H1 locs1 (cells + mc) (slots + ms) Q (F0 m (pc + 3) ls rest)) : W p l e R s m args below meth c H locs cells slots Q (F0 m pc ls st) := by
  have hFc := n_free w hbM ha he
  refine va_callv hr w.2.2.1 (fun q _ h => hFc q h) hFc (fun ad2 t H1 locs1 ht hvm h0 hB hz hk1 hS => ?_)
  obtain ⟨hP1, hD1⟩ := hB
  rw [ht] at hP1
  have hR : (List.range (M - b)).map (fun i => (wb ad E b (M + 1))[i]?) = (wb ad E b M).map some := by
    unfold wb
    rw [List.map_map]
    apply List.map_congr_left
    intro o ho
    have ho := List.mem_range.mp ho
    simp [show o < M + 1 - b by omega]
  obtain ⟨hP, hD⟩ := va_join (wr := wb ad E b M) (w1 := wb ad2 (lay g ad2 mu0) M L) w.1 w.2.1 [M - b] (List.range (M - b)) (n_cut w hbM ha he) hR (nd_of _ List.nodup_range) (fun i hi => by have := List.mem_range.mp hi; simp; omega) hk1 hFc hP1 hD1
  rw [wb_join hbM (by omega)] at hP hD
  have eE : wb (jn M ad ad2) (jn M E (lay g ad2 mu0)) b L = wb (jn M ad ad2) (jn M E (lay g (jn M ad ad2) mu0)) b L := wb_ext (fun i h1 h2 => ⟨rfl, by
    by_cases hi : i < M
    · rw [jn_lt _ _ hi, jn_lt _ _ hi]
    · rw [jn_ge _ _ (by omega), jn_ge _ _ (by omega)]
      exact lay_ge (by omega) (fun j hj => (jn_ge _ _ (by omega)).symm)⟩)
  rw [eE] at hP hD
  refine kk (jn M ad ad2) H1 locs1 (fun i hi => ?_) ⟨hP, hD, hS, w.2.2.2⟩
  by_cases hi2 : i < M
  · rw [jn_lt _ _ hi2]
  · have : i = M := by omega
    subst this
    rw [jn_ge _ _ (Nat.le_refl _), ha]
    exact h0
theorem n_runI {y : MethodName} {cY : ByteArray} {nY idx : Nat} {rm : Room} {Qc : Array Value → State → Outcome → State → Prop} (C0 : CxN g p s m args c own cc nL) (w : Gw g ad E b (M + 1) A s H locs) (hbM : b ≤ M) (ha : ad M = q) (he : E M = e1) (hM : Met l y (wX y cY nY none) rm (PreN g [(q, e1)] H.size [.ref q]) Qc mc ms (va_A [(q, e1)] H.size)) (hw : Cond.code y cY nY none ∈ tb_G) (hini : Cond.initialized y.cls ∈ tb_G) (hl : Cond.methodLink own idx y ∈ tb_G) (hinst : Cond.instanceMethod y ∈ tb_G) (hnm : y.name = "<init>") (hpar : y.cls ≠ "java/lang/invoke/MethodHandle" ∧ y.cls ≠ "java/lang/invoke/VarHandle" ∧ (parseMethodDescriptor y.desc).map (fun d => d.parameters.length) = some 0) (hrm : rm.cells = mc ∧ rm.slots = ms) (hR : rm.frames + 1 ≤ R.frames ∧ 8 + (nY + 11) + rm.locals ≤ R.locals) (hls : ls.size = nL) (hst : st = .ref q :: rest) (hW : (rest.map fun v => v.category).sum ≤ 8) (hdg : decode cc pc = .ok (.invokespecial idx, 3)) (hcs : cells + mc ≤ R.cells ∧ slots + ms ≤ R.slots) :
    va_Run p l e R s m args below meth c H locs cells slots mc ms (F0 m pc ls st) rest (Qc [Value.ref q].toArray) (va_A [(q, e1)] H.size) := by
  have C1 := C0
  obtain ⟨hx, hb, hml, hts, hown, hKK, hN9⟩ := C0
  exact va_runI (As := []) ⟨hx, hb, hml, hown, hts⟩ hM (cwI 0 hts (tb_gi (tb_wX hw)) rfl hrm.1 hrm.2 (hts _ hini) (hts _ hl) (hts _ hinst) hnm hpar hR) ⟨preN_blind _ _ _ _, n_pre C1 w hbM ha he _⟩ rfl rfl hls hst (lv_room hW) hdg hcs
theorem n_runN {y : MethodName} {cY : ByteArray} {nY idx : Nat} {host : String} {rm : Room} {Qc : Array Value → State → Outcome → State → Prop} (C0 : CxN g p s m args c own cc nL) (w : Gw g ad E b (M + 1) A s H locs) (hbM : b ≤ M) (ha : ad M = q) (he : E M = e1) (hM : Met l y (wX y cY nY none) rm (PreN g [(q, e1)] H.size [.ref q]) Qc mc ms (va_A [(q, e1)] H.size)) (hw : Cond.code y cY nY none ∈ tb_G) (hini : Cond.initialized y.cls ∈ tb_G) (hl : va_Nw (.methodLinkNest own idx y host) s) (hinst : Cond.instanceMethod y ∈ tb_G) (hnm : y.name = "<init>") (hpar : y.cls ≠ "java/lang/invoke/MethodHandle" ∧ y.cls ≠ "java/lang/invoke/VarHandle" ∧ (parseMethodDescriptor y.desc).map (fun d => d.parameters.length) = some 0) (hrm : rm.cells = mc ∧ rm.slots = ms) (hR : rm.frames + 1 ≤ R.frames ∧ 8 + (nY + 11) + rm.locals ≤ R.locals) (hls : ls.size = nL) (hst : st = .ref q :: rest) (hW : (rest.map fun v => v.category).sum ≤ 8) (hdg : decode cc pc = .ok (.invokespecial idx, 3)) (hcs : cells + mc ≤ R.cells ∧ slots + ms ≤ R.slots) :
    va_Run p l e R s m args below meth c H locs cells slots mc ms (F0 m pc ls st) rest (Qc [Value.ref q].toArray) (va_A [(q, e1)] H.size) := by
  have C1 := C0
  obtain ⟨hx, hb, hml, hts, hown, hKK, hN9⟩ := C0
  exact va_runIN (As := []) ⟨hx, hb, hml, hown, hts⟩ hM ⟨va_cnB 0 hts (tb_gi (tb_wX hw)) rfl hrm.1 hrm.2 hl (hts _ hini) hpar hR, hnm, hts _ hinst⟩ ⟨preN_blind _ _ _ _, n_pre C1 w hbM ha he _⟩ rfl rfl hls hst (lv_room hW) hdg hcs
theorem n_vret {h0 sz : Nat} {ws : va_W} (C0 : CxN g p s m args c own cc nL) (hr : meth.sig.returnType = none) (hlocks : meth.locks = false) (w : Gw g ad E b M (va_A ws sz) s H locs) (h : ad b = h0) (hcv : ∀ i, b ≤ i → i < M → Cv g.1 (E i) (lay g ad mu0 i)) (hdg : decode cc pc = .ok (.return_, 1)) : W p l e R s m args below meth c H locs cells slots (MQ below (PostN g b M ws sz h0) args s cells slots (va_A ws sz)) (F0 m pc ls []) := by
  obtain ⟨hx, hb, hml, hts, hown, hKK, hN9⟩ := C0
  exact W.vret hx hb hr (fun t ht hW => ⟨⟨ad, rfl, h, by rw [ht]; exact P_cv hcv w.1, D_cv w.2.1⟩, w.2.2.1.F ht⟩) w.2.2.1.2.2 hdg
end GC
/-! Person() and Pad() -/
abbrev B2 : List Value := [.int 0, .int 0, .int 0, .int 0, .int 0, .int 0, .int 0, .int 0, .int 0, .int 0]
theorem lay_13 {g : Gv} {ad : Nat → Nat} {i : Nat} (h : kd i = 13) : lay g ad mu0 i = .inr (2, B2) := by
  unfold lay mu0
  rw [h]
  rfl
abbrev rm_X2_init : Room := { frames := 1, cells := 0, slots := 0, locals := 12 }
set_option maxHeartbeats 4000000 in
set_option maxRecDepth 100000 in
theorem c_X2_init (l : Launch) (g : Gv) (h0 sz b : Nat) (hk : kd b = 13) : Met l yX2_init (wX yX2_init cX2_init 1 none) rm_X2_init (PreN g [(h0, .inr (2, B2))] sz [.ref h0]) (PostN g b (b + 1) [(h0, .inr (2, B2))] sz h0) 0 0 (va_A [(h0, .inr (2, B2))] sz) := by
  refine Met.ofW (cc := cX2_init) (maxL := 1) (ret := none) (by decide) rfl ?_
  intro p e s m args below meth c s₁ B hml hv
  obtain ⟨rfl, rfl, C, w⟩ := n_start (b := b) B hml hv
  obtain ⟨hx, hb, hml, hts, hown, hKK, hN⟩ := id C
  have hl := lv_entry ([.ref h0]) (n := 1) (Nat.le_of_ble_eq_true rfl)
  rw [lg_entry_eq]
  generalize (lg_sl ([.ref h0]) ++ List.replicate (1 - (lg_sl ([.ref h0])).length) Slot.unset).toArray = ls at hl ⊢
  have hl : lv_has ls 1 [(0, .ref h0)] := hl
  refine lv_aload_n hx hb dX2_init_0 rfl (lv_at hl 0 rfl) ?_
  refine n_obj C hl.1 ml2_Person_3 dX2_init_1 (Nat.le_of_ble_eq_true rfl) (Nat.le_of_ble_eq_true rfl) ?_
  refine n_vret C B.returns B.notSynchronized w rfl (fun i h1 h2 => ?_) dX2_init_4
  have : i = b := by omega
  subst this
  exact Cv.of (lay_13 hk).symm
abbrev rm_X1_init : Room := { frames := 1, cells := 1, slots := 60, locals := 12 }
abbrev B1 : List Value := [.null, .int 0]
set_option maxHeartbeats 4000000 in
set_option maxRecDepth 100000 in
theorem c_X1_init (l : Launch) (g : Gv) (h0 sz : Nat) : Met l yX1_init (wX yX1_init cX1_init 1 none) rm_X1_init (PreN g [(h0, .inr (1, B1))] sz [.ref h0]) (PostN g 229 231 [(h0, .inr (1, B1))] sz h0) 1 60 (va_A [(h0, .inr (1, B1))] sz) := by
  refine Met.ofW (cc := cX1_init) (maxL := 1) (ret := none) (by decide) rfl ?_
  intro p e s m args below meth c s₁ B hml hv
  obtain ⟨rfl, rfl, C, w⟩ := n_start (b := 229) B hml hv
  obtain ⟨hx, hb, hml, hts, hown, hKK, hN⟩ := id C
  have hin : meth.name = "<init>" := (name_of_methodNamed B.named B.method).1
  have hl := lv_entry ([.ref h0]) (n := 1) (Nat.le_of_ble_eq_true rfl)
  rw [lg_entry_eq]
  generalize (lg_sl ([.ref h0]) ++ List.replicate (1 - (lg_sl ([.ref h0])).length) Slot.unset).toArray = ls at hl ⊢
  have hl : lv_has ls 1 [(0, .ref h0)] := hl
  refine lv_aload_n hx hb dX1_init_0 rfl (lv_at hl 0 rfl) ?_
  refine n_obj C hl.1 ml2_Pad_3 dX1_init_1 (Nat.le_of_ble_eq_true rfl) (Nat.le_of_ble_eq_true rfl) ?_
  refine lv_aload_n hx hb dX1_init_4 rfl (lv_at hl 0 rfl) ?_
  refine lv_bipush (v := 60) hx hb dX1_init_5 (by decide) ?_
  refine n_newa C w (by omega) (atype := .char) (t := 2) (ty := .char) ac_char rfl rfl (N' := 60) (a0 := (60, .inl (fun _ => 0))) (fun _ => rfl) (by decide) rfl (by decide) (Nat.le_of_ble_eq_true rfl) (Nat.le_of_ble_eq_true rfl) dX1_init_7 (fun q1 H1 w => ?_)
  refine n_putF C w hin (i := 229) (ci := 1) (k := 0) (N := 2) (fs := B1) (C := RX1) (T := TX1) (by omega) (by omega) rfl rfl iX1 tyX1 tyX1_ok nmX1 rfl (by decide) fl_Pad_9 rfl rfl rfl rfl rfl (by decide) dX1_init_9 (fun H2 locs2 w => ?_)
  refine n_vret C B.returns B.notSynchronized w rfl (fun i h1 h2 => ?_) dX1_init_12
  have : i = 229 ∨ i = 230 := by omega
  rcases this with rfl | rfl
  · exact Cv.of rfl
  · exact Cv.of rfl
end
section
/-! Staircase() -/
abbrev B3 : List Value := [.null, .null, .null, .int 0, .int 0, .int 0]
abbrev rm_X3_init : Room := { frames := 2, cells := 27, slots := 279, locals := 32 }
set_option maxHeartbeats 4000000 in
set_option maxRecDepth 100000 in
/-- the first loop: the settings' first values -/
theorem t_X3_L40 {g : Gv} {ad : Nat → Nat} {E : Nat → va_E} {b M : Nat} {A : Nat → Prop} {l : Launch} {p : Program} {e : Env} {s : State} {m : MethodId} {args : Array Value} {below : List Frame} {meth : Method} {c : Code} {cells slots : Nat} {Q : State → Prop} (C : CxN g p s m args c "StairBows$Staircase" cX3_init 2) {h0 q1 : Nat} {fs : List Value} (hM : b + 2 ≤ M) (a0 : ad b = h0) (a1 : ad (b + 1) = q1) (e0 : E b = .inr (3, fs)) (f0 : fs[0]? = some (.ref q1))
    (kk : ∀ (f : Nat → Int32) (H : Heap) (locs : List Loc) (ls : Array Slot), (∀ k, k < 3 → f k = firstV k) → Gw g ad (upE E (b + 1) (.inl (g.2 0, 3, .inl f))) b M A s H locs → lv_has ls 2 [(0, .ref h0)] → W p l e rm_X3_init s m args below meth c H locs cells slots Q (F0 m 66 ls [])) :
    ∀ (d j : Nat) (f : Nat → Int32) (H : Heap) (locs : List Loc) (ls : Array Slot), j + d = 3 → (∀ k, k < j → f k = firstV k) → Gw g ad (upE E (b + 1) (.inl (g.2 0, 3, .inl f))) b M A s H locs → lv_has ls 2 [(0, .ref h0), (1, .int (nI j))] → W p l e rm_X3_init s m args below meth c H locs cells slots Q (F0 m 40 ls []) := by
  obtain ⟨hx, hb, hml, hts, hown, hKK, hN⟩ := id C
  intro d
  induction d with
  | zero =>
    intro j f H locs ls hj hf w hl
    have : j = 3 := by omega
    subst this
    refine lv_iload_n hx hb dX3_init_40 rfl (lv_at hl 1 rfl) ?_
    refine lv_aload_n hx hb dX3_init_41 rfl (lv_at hl 0 rfl) ?_
    refine n_get C w (i := b) (ci := 3) (k := 0) (N := 6) (fs := fs) (v := .ref q1) (C := RX3) (T := TX3) (by omega) (by omega) a0 (by rw [upE_ne _ _ (by omega)]; exact e0) iX3 rfl (by decide) fl_Staircase_13 f0 dX3_init_42 ?_
    refine n_alen C w (i := b + 1) (t := 0) (ty := .int) (v := 3) (by omega) (by omega) a1 (upE_at _ _ _) rfl rfl dX3_init_45 ?_
    refine lv_icmp_ge (tgt := 66) hx hb dX3_init_46 (by decide) (fun _ => ?_) (fun c1 => absurd (by decide) c1)
    exact kk f H locs ls (fun k hk => hf k hk) w (lv_sub hl [0] rfl)
  | succ d ih =>
    intro j f H locs ls hj hf w hl
    obtain ⟨tF, tL, tG, ⟨hZ, hT⟩, -, -⟩ := w.2.2.2.2
    refine lv_iload_n hx hb dX3_init_40 rfl (lv_at hl 1 rfl) ?_
    refine lv_aload_n hx hb dX3_init_41 rfl (lv_at hl 0 rfl) ?_
    refine n_get C w (i := b) (ci := 3) (k := 0) (N := 6) (fs := fs) (v := .ref q1) (C := RX3) (T := TX3) (by omega) (by omega) a0 (by rw [upE_ne _ _ (by omega)]; exact e0) iX3 rfl (by decide) fl_Staircase_13 f0 dX3_init_42 ?_
    refine n_alen C w (i := b + 1) (t := 0) (ty := .int) (v := 3) (by omega) (by omega) a1 (upE_at _ _ _) rfl rfl dX3_init_45 ?_
    refine lv_icmp_ge (tgt := 66) hx hb dX3_init_46 (by decide) (fun c1 => absurd c1 (nI_ge (b := 3) (by omega) (by omega))) (fun _ => ?_)
    refine lv_aload_n hx hb dX3_init_49 rfl (lv_at hl 0 rfl) ?_
    refine n_get C w (i := b) (ci := 3) (k := 0) (N := 6) (fs := fs) (v := .ref q1) (C := RX3) (T := TX3) (by omega) (by omega) a0 (by rw [upE_ne _ _ (by omega)]; exact e0) iX3 rfl (by decide) fl_Staircase_13 f0 dX3_init_50 ?_
    refine lv_iload_n hx hb dX3_init_53 rfl (lv_at hl 1 rfl) ?_
    refine va_getsN hx hb hZ w.2.2.1 hown (va_Nw.use rfl hN.2.2.1) (fun _ h => h) dX3_init_54 ?_
    refine lv_iload_n hx hb dX3_init_57 rfl (lv_at hl 1 rfl) ?_
    refine va_ti (v := .int (firstV j)) hx hb hT w.2.2.1 (vp_in_nI (by omega) (by omega)) (by rw [nI_clamp (by omega)]) dX3_init_58 ?_
    refine n_iast C w (i := b + 1) (n := 3) (jn' := j) (f := f) (by omega) (by omega) a1 (upE_at _ _ _) (nI_clamp (by omega)) (vp_in_nI (by omega) (by omega)) dX3_init_59 (fun H1 locs1 w => ?_)
    rw [upE_upE] at w
    refine lv_iinc (v := nI (j + 1)) (lv' := [(1, .int (nI (j + 1))), (0, .ref h0)]) hx hb dX3_init_60 hl (k := 1) rfl (nI_1 j) (by decide) rfl (fun ls hl => ?_)
    refine lv_goto (tgt := 40) hx hb dX3_init_63 (by decide) ?_
    refine ih (j + 1) _ _ _ _ (by omega) (fun k hk => ?_) w (lv_sub hl [1, 0] rfl)
    unfold upd
    by_cases hkj : k = j
    · subst hkj; simp
    · simp only [hkj, if_false]
      exact hf k (by omega)
def SI (g : Gv) (ad : Nat → Nat) (E : Nat → va_E) (b h0 j : Nat) : Prop :=
  ad b = h0 ∧ E b = .inr (3, [.ref (ad (b + 1)), .ref (ad (b + 2)), .ref (ad (b + 3)), .int 272, .int 0, .int 0]) ∧ (∃ f, E (b + 1) = .inl (g.2 0, 3, .inl f) ∧ ∀ k, k < 3 → f k = firstV k) ∧ (∃ f, E (b + 2) = .inl (g.2 3, 24, .inr (.inr (.inr (.inr f)))) ∧ ∀ k, k < j → f k = some (ad (b + 4 + k))) ∧ E (b + 3) = .inl (g.2 0, 12, .inl (fun _ => 0)) ∧ ∀ k, k < j → E (b + 4 + k) = .inr (2, B2)
set_option maxHeartbeats 4000000 in
set_option maxRecDepth 100000 in
/-- the second loop: twenty-four people -/
theorem t_X3_L68 {g : Gv} {b : Nat} {A : Nat → Prop} {l : Launch} {p : Program} {e : Env} {s : State} {m : MethodId} {args : Array Value} {below : List Frame} {meth : Method} {c : Code} {Q : State → Prop} (C : CxN g p s m args c "StairBows$Staircase" cX3_init 2) {h0 : Nat} (hb28 : b + 28 ≤ 287) (hk : ∀ k, k < 24 → kd (b + 4 + k) = 13)
    (kk : ∀ (ad : Nat → Nat) (E : Nat → va_E) (H : Heap) (locs : List Loc) (ls : Array Slot), SI g ad E b h0 24 → Gw g ad E b (b + 4 + 24) A s H locs → W p l e rm_X3_init s m args below meth c H locs 27 279 Q (F0 m 96 ls [])) :
    ∀ (d j : Nat) (ad : Nat → Nat) (E : Nat → va_E) (H : Heap) (locs : List Loc) (ls : Array Slot), j + d = 24 → SI g ad E b h0 j → Gw g ad E b (b + 4 + j) A s H locs → lv_has ls 2 [(0, .ref h0), (1, .int (nI j))] → W p l e rm_X3_init s m args below meth c H locs (3 + j) (39 + 10 * j) Q (F0 m 68 ls []) := by
  obtain ⟨hx, hb, hml, hts, hown, hKK, hN⟩ := id C
  intro d
  induction d with
  | zero =>
    intro j ad E H locs ls hj hI w hl
    have : j = 24 := by omega
    subst this
    obtain ⟨a0, e0, e1, ⟨f2, e2, hf2⟩, e3, e4⟩ := id hI
    refine lv_iload_n hx hb dX3_init_68 rfl (lv_at hl 1 rfl) ?_
    refine lv_aload_n hx hb dX3_init_69 rfl (lv_at hl 0 rfl) ?_
    refine n_get C w (i := b) (ci := 3) (k := 1) (N := 6) (C := RX3) (T := TX3) (by omega) (by omega) a0 e0 iX3 rfl (by decide) fl_Staircase_20 rfl dX3_init_70 ?_
    refine n_alen C w (i := b + 2) (t := 3) (ty := .object "StairBows$Person") (v := 24) (by omega) (by omega) rfl e2 rfl rfl dX3_init_73 ?_
    refine lv_icmp_ge (tgt := 96) hx hb dX3_init_74 (by decide) (fun _ => ?_) (fun c1 => absurd (by decide) c1)
    exact W.widen (k := 27) (n := 279) (by omega) (by omega) (kk ad E H locs ls hI w)
  | succ d ih =>
    intro j ad E H locs ls hj hI w hl
    obtain ⟨a0, e0, ⟨f1, e1, hf1⟩, ⟨f2, e2, hf2⟩, e3, e4⟩ := id hI
    refine lv_iload_n hx hb dX3_init_68 rfl (lv_at hl 1 rfl) ?_
    refine lv_aload_n hx hb dX3_init_69 rfl (lv_at hl 0 rfl) ?_
    refine n_get C w (i := b) (ci := 3) (k := 1) (N := 6) (C := RX3) (T := TX3) (by omega) (by omega) a0 e0 iX3 rfl (by decide) fl_Staircase_20 rfl dX3_init_70 ?_
    refine n_alen C w (i := b + 2) (t := 3) (ty := .object "StairBows$Person") (v := 24) (by omega) (by omega) rfl e2 rfl rfl dX3_init_73 ?_
    refine lv_icmp_ge (tgt := 96) hx hb dX3_init_74 (by decide) (fun c1 => absurd c1 (nI_ge (b := 24) (by omega) (by omega))) (fun _ => ?_)
    refine lv_aload_n hx hb dX3_init_77 rfl (lv_at hl 0 rfl) ?_
    refine n_get C w (i := b) (ci := 3) (k := 1) (N := 6) (C := RX3) (T := TX3) (by omega) (by omega) a0 e0 iX3 rfl (by decide) fl_Staircase_20 rfl dX3_init_78 ?_
    refine lv_iload_n hx hb dX3_init_81 rfl (lv_at hl 1 rfl) ?_
    refine n_new C w (by omega) (ci := 2) (fs := B2) (C := RX2) (T := TX2) (N := 10) iX2 tyX2 tyX2_ok cl_Staircase_18 ib_X2_init it_X2_init rfl (fun k hk => ?_) (by show 3 + j + 1 ≤ 27; omega) (by show 39 + 10 * j + 10 ≤ 279; omega) dX3_init_82 (fun q H1 w => ?_)
    · have : k = 0 ∨ k = 1 ∨ k = 2 ∨ k = 3 ∨ k = 4 ∨ k = 5 ∨ k = 6 ∨ k = 7 ∨ k = 8 ∨ k = 9 := by omega
      rcases this with rfl | rfl | rfl | rfl | rfl | rfl | rfl | rfl | rfl | rfl <;> rfl
    refine lv_dup hx hb dX3_init_85 rfl ?_
    refine n_back w (by omega) (Nat.le_refl _) (by omega) (q := q) (e1 := .inr (2, B2)) (upN_at _ _ _) (upE_at _ _ _) (n_runN C w (by omega) (upN_at _ _ _) (upE_at _ _ _) (c_X2_init l g q H1.size (b + 4 + j) (hk j (by omega))) cd_X2_init it_X2_init hN.1 in_X2_init rfl (by decide +kernel) ⟨rfl, rfl⟩ ⟨Nat.le_of_ble_eq_true rfl, Nat.le_of_ble_eq_true rfl⟩ hl.1 rfl (Nat.le_of_ble_eq_true rfl) dX3_init_86 ⟨by show 3 + j + 1 + 0 ≤ 27; omega, by show 39 + 10 * j + 10 + 0 ≤ 279; omega⟩) (fun ad' H2 locs2 hag w => ?_)
    have ag : ∀ i, i < b + 4 + j → ad' i = ad i := fun i hi => by rw [hag i (by omega), upN_ne _ _ (by omega)]
    have aq : ad' (b + 4 + j) = q := by rw [hag _ (Nat.le_refl _), upN_at]
    have Ee : ∀ i, i < b + 4 + j → jn (b + 4 + j) (upE E (b + 4 + j) (.inr (2, B2))) (lay g ad' mu0) i = E i := fun i hi => by rw [jn_lt _ _ hi, upE_ne _ _ (by omega)]
    have Eq : jn (b + 4 + j) (upE E (b + 4 + j) (.inr (2, B2))) (lay g ad' mu0) (b + 4 + j) = .inr (2, B2) := by rw [jn_ge _ _ (Nat.le_refl _), lay_13 (hk j (by omega))]
    refine n_astq C w (i := b + 2) (i2 := b + 4 + j) (t := 3) (n := 24) (jn' := j) (f := f2) (ci := 2) (r := (RX2, TX2, 10)) (by omega) (by omega) (ag _ (by omega)) ((Ee _ (by omega)).trans e2) rfl (by omega) (by omega) aq Eq rfl (nI_clamp (by omega)) (vp_in_nI (by omega) (by omega)) dX3_init_89 (fun H3 locs3 w => ?_)
    refine lv_iinc (v := nI (j + 1)) (lv' := [(1, .int (nI (j + 1))), (0, .ref h0)]) hx hb dX3_init_90 hl (k := 1) rfl (nI_1 j) (by decide) rfl (fun ls hl => ?_)
    refine lv_goto (tgt := 68) hx hb dX3_init_93 (by decide) ?_
    refine W.widen (k := 3 + (j + 1)) (n := 39 + 10 * (j + 1)) (by omega) (by omega) ?_
    refine ih (j + 1) ad' _ _ _ _ (by omega) ⟨?_, ?_, ⟨f1, ?_, hf1⟩, ⟨va_up f2 j (some q), upE_at _ _ _, fun k hk => ?_⟩, ?_, fun k hk => ?_⟩ w (lv_sub hl [1, 0] rfl)
    · rw [ag _ (by omega), a0]
    · rw [upE_ne _ _ (by omega), Ee _ (by omega), e0, ag _ (by omega), ag _ (by omega), ag _ (by omega)]
    · rw [upE_ne _ _ (by omega), Ee _ (by omega), e1]
    · unfold va_up
      by_cases hkj : k = j
      · subst hkj
        simp [aq]
      · simp only [hkj, if_false]
        rw [hf2 k (by omega), ag _ (by omega)]
    · rw [upE_ne _ _ (by omega), Ee _ (by omega), e3]
    · rw [upE_ne _ _ (by omega)]
      by_cases hkj : k = j
      · subst hkj
        exact Eq
      · rw [Ee _ (by omega), e4 k (by omega)]
set_option maxHeartbeats 4000000 in
set_option maxRecDepth 100000 in
theorem c_X3_init (l : Launch) (g : Gv) (h0 sz b : Nat) (hb28 : b + 28 ≤ 287) (hk : ∀ o, o < 28 → kd (b + o) = ks o) : Met l yX3_init (wX yX3_init cX3_init 2 none) rm_X3_init (PreN g [(h0, .inr (3, B3))] sz [.ref h0]) (PostN g b (b + 28) [(h0, .inr (3, B3))] sz h0) 27 279 (va_A [(h0, .inr (3, B3))] sz) := by
  have k13 : ∀ k, k < 24 → kd (b + 4 + k) = 13 := fun k hk2 => by
    have := hk (4 + k) (by omega)
    rw [show b + (4 + k) = b + 4 + k by omega] at this
    rw [this]
    unfold ks
    rw [if_neg (by omega), if_neg (by omega), if_neg (by omega), if_neg (by omega)]
  have dd : b ≠ b + 1 + 1 ∧ b ≠ b + 1 + 1 + 1 ∧ b + 1 ≠ b + 1 + 1 + 1 ∧ b + 1 ≠ b + 1 + 1 ∧ b + 1 + 1 ≠ b + 1 + 1 + 1 ∧ b + 2 = b + 1 + 1 ∧ b + 3 = b + 1 + 1 + 1 := by omega
  refine Met.ofW (cc := cX3_init) (maxL := 2) (ret := none) (by decide) rfl ?_
  intro p e s m args below meth c s₁ B hml hv
  obtain ⟨rfl, rfl, C, w⟩ := n_start (b := b) B hml hv
  obtain ⟨hx, hb, hml, hts, hown, hKK, hN⟩ := id C
  have hin : meth.name = "<init>" := (name_of_methodNamed B.named B.method).1
  have hl := lv_entry ([.ref h0]) (n := 2) (Nat.le_of_ble_eq_true rfl)
  rw [lg_entry_eq]
  generalize (lg_sl ([.ref h0]) ++ List.replicate (2 - (lg_sl ([.ref h0])).length) Slot.unset).toArray = ls at hl ⊢
  have hl : lv_has ls 2 [(0, .ref h0)] := hl
  obtain ⟨tF, tL, tG, ⟨hZ, hT⟩, -, -⟩ := w.2.2.2.2
  refine lv_aload_n hx hb dX3_init_0 rfl (lv_at hl 0 rfl) ?_
  refine n_obj C hl.1 ml2_Staircase_3 dX3_init_1 (Nat.le_of_ble_eq_true rfl) (Nat.le_of_ble_eq_true rfl) ?_
  refine lv_aload_n hx hb dX3_init_4 rfl (lv_at hl 0 rfl) ?_
  refine va_getsN hx hb hZ w.2.2.1 hown (va_Nw.use rfl hN.2.2.1) (fun _ h => h) dX3_init_5 ?_
  refine va_tlen (v := 3) hx hb hT w.2.2.1 rfl dX3_init_8 ?_
  refine n_newa C w (by omega) (atype := .int) (t := 0) (ty := .int) ac_int rfl rfl (N' := 3) (a0 := (3, .inl (fun _ => 0))) (fun _ => rfl) (by decide) rfl (by decide) (Nat.le_of_ble_eq_true rfl) (Nat.le_of_ble_eq_true rfl) dX3_init_9 (fun q1 H1 w => ?_)
  refine n_putF C w hin (i := b) (ci := 3) (k := 0) (N := 6) (fs := B3) (C := RX3) (T := TX3) (by omega) (by omega) (by simp [upN, dd]) (by simp [upE, dd]) iX3 tyX3 tyX3_ok nmX3 rfl (by decide) fl_Staircase_13 rfl rfl rfl rfl rfl (Nat.le_of_ble_eq_true rfl) dX3_init_11 (fun H2 locs2 w => ?_)
  refine lv_aload_n hx hb dX3_init_14 rfl (lv_at hl 0 rfl) ?_
  refine lv_bipush (v := 24) hx hb dX3_init_15 (by decide) ?_
  refine n_newq C w (by omega) (t := 3) (N' := 24) cl_Staircase_18 hN.2.2.2.1 rfl (by decide) rfl (by decide) (Nat.le_of_ble_eq_true rfl) (Nat.le_of_ble_eq_true rfl) dX3_init_17 (fun q2 H3 w => ?_)
  refine n_putF C w hin (i := b) (ci := 3) (k := 1) (N := 6) (fs := [.ref q1, .null, .null, .int 0, .int 0, .int 0]) (C := RX3) (T := TX3) (by omega) (by omega) (by simp [upN, dd]) (by simp [upE, dd]) iX3 tyX3 tyX3_ok nmX3 rfl (by decide) fl_Staircase_20 rfl rfl rfl rfl rfl (Nat.le_of_ble_eq_true rfl) dX3_init_20 (fun H4 locs4 w => ?_)
  refine lv_aload_n hx hb dX3_init_23 rfl (lv_at hl 0 rfl) ?_
  refine lv_bipush (v := 12) hx hb dX3_init_24 (by decide) ?_
  refine n_newa C w (by omega) (atype := .int) (t := 0) (ty := .int) ac_int rfl rfl (N' := 12) (a0 := (12, .inl (fun _ => 0))) (fun _ => rfl) (by decide) rfl (by decide) (Nat.le_of_ble_eq_true rfl) (Nat.le_of_ble_eq_true rfl) dX3_init_26 (fun q3 H5 w => ?_)
  refine n_putF C w hin (i := b) (ci := 3) (k := 2) (N := 6) (fs := [.ref q1, .ref q2, .null, .int 0, .int 0, .int 0]) (C := RX3) (T := TX3) (by omega) (by omega) (by simp [upN, dd]) (by simp [upE, dd]) iX3 tyX3 tyX3_ok nmX3 rfl (by decide) fl_Staircase_24 rfl rfl rfl rfl rfl (Nat.le_of_ble_eq_true rfl) dX3_init_28 (fun H6 locs6 w => ?_)
  refine lv_aload_n hx hb dX3_init_31 rfl (lv_at hl 0 rfl) ?_
  refine lv_sipush (v := 272) hx hb dX3_init_32 (by decide) ?_
  refine n_put C w (i := b) (ci := 3) (k := 3) (N := 6) (fs := [.ref q1, .ref q2, .ref q3, .int 0, .int 0, .int 0]) (C := RX3) (T := TX3) (by omega) (by omega) (by simp [upN, dd]) (by simp [upE, dd]) iX3 tyX3 tyX3_ok nmX3 rfl (by decide) fl_Staircase_27 rfl rfl rfl rfl (Nat.le_of_ble_eq_true rfl) dX3_init_35 (fun H7 locs7 w => ?_)
  refine lv_iconst (v := 0) hx hb dX3_init_38 (by decide) ?_
  refine lv_istore_n (lv' := [(1, .int 0), (0, .ref h0)]) hx hb dX3_init_39 rfl hl (by decide) rfl (fun ls hl => ?_)
  have rest : ∀ (ad : Nat → Nat) (E : Nat → va_E) (f1 f2) (H : Heap) (locs : List Loc) (ls : Array Slot), ad b = h0 → ad (b + 1) = q1 → ad (b + 2) = q2 → ad (b + 3) = q3 → E b = .inr (3, [.ref q1, .ref q2, .ref q3, .int 272, .int 0, .int 0]) → E (b + 1) = .inl (g.2 0, 3, .inl f1) → (∀ k, k < 0 → f1 k = firstV k) → E (b + 2) = .inl (g.2 3, 24, .inr (.inr (.inr (.inr f2)))) → E (b + 3) = .inl (g.2 0, 12, .inl (fun _ => 0)) → Gw g ad E b (b + 4) (va_A [(h0, .inr (3, B3))] s.heap.size) s H locs → lv_has ls 2 [(0, .ref h0), (1, .int (nI 0))] → W p l e rm_X3_init s m [Value.ref h0].toArray below meth c H locs 3 39 (MQ below (PostN g b (b + 28) [(h0, .inr (3, B3))] s.heap.size h0) [Value.ref h0].toArray s 27 279 (va_A [(h0, .inr (3, B3))] s.heap.size)) (F0 m 40 ls []) := by
    intro ad E f1 f2 H locs ls a0 a1 a2 a3 e0 e1 hf1 e2 e3 w hl
    have w' : Gw g ad (upE E (b + 1) (.inl (g.2 0, 3, .inl f1))) b (b + 4) (va_A [(h0, .inr (3, B3))] s.heap.size) s H locs := by
      have : upE E (b + 1) (.inl (g.2 0, 3, .inl f1)) = E := by
        funext i
        unfold upE
        by_cases hi : i = b + 1
        · rw [if_pos hi, hi, e1]
        · rw [if_neg hi]
      rw [this]
      exact w
    refine t_X3_L40 C (by omega) a0 a1 e0 rfl (fun f H locs ls hf w hl => ?_) 3 0 f1 H locs ls (by omega) hf1 w' hl
    refine lv_iconst (v := 0) hx hb dX3_init_66 (by decide) ?_
    refine lv_istore_n (lv' := [(1, .int 0), (0, .ref h0)]) hx hb dX3_init_67 rfl hl (by decide) rfl (fun ls hl => ?_)
    refine t_X3_L68 C hb28 k13 (fun ad E H locs ls hI w => ?_) 24 0 ad _ H locs ls (by omega) ⟨a0, ?_, ⟨f, upE_at _ _ _, hf⟩, ⟨f2, ?_, fun k hk => by omega⟩, ?_, fun k hk => by omega⟩ w (lv_sub hl [1, 0] rfl)
    · obtain ⟨a0, e0, ⟨f1, e1, hf1⟩, ⟨f2, e2, hf2⟩, e3, e4⟩ := hI
      refine n_vret C B.returns B.notSynchronized w a0 (fun i h1 h2 => ?_) dX3_init_96
      have k0 : kd b = 9 := hk 0 (by omega)
      have k1 : kd (b + 1) = 10 := hk 1 (by omega)
      have k2 : kd (b + 2) = 11 := hk 2 (by omega)
      have k3 : kd (b + 3) = 12 := hk 3 (by omega)
      have : i = b ∨ i = b + 1 ∨ i = b + 2 ∨ i = b + 3 ∨ ∃ k, k < 24 ∧ i = b + 4 + k := by
        by_cases h4 : b + 4 ≤ i
        · exact Or.inr (Or.inr (Or.inr (Or.inr ⟨i - (b + 4), by omega, by omega⟩)))
        · omega
      rcases this with rfl | rfl | rfl | rfl | ⟨k, hk2, rfl⟩
      · rw [e0]
        refine Cv.of ?_
        unfold lay mu0
        rw [k0]
        rfl
      · rw [e1]
        unfold lay mu0
        rw [k1]
        exact Cv.i hf1
      · rw [e2]
        unfold lay mu0
        rw [k2]
        exact Cv.q (fun j hj => by rw [hf2 j hj, show b + 2 + 2 + j = b + 4 + j by omega])
      · rw [e3]
        refine Cv.of ?_
        unfold lay mu0
        rw [k3]
        rfl
      · rw [e4 k hk2, lay_13 (k13 k hk2)]
        exact Cv.of rfl
    · rw [upE_ne _ _ (by omega), e0, a1, a2, a3]
    · rw [upE_ne _ _ (by omega), e2]
    · rw [upE_ne _ _ (by omega), e3]
  refine rest _ _ (fun _ => 0) (fun _ => none) _ _ ls (by simp [upN, dd]) (by simp [upN, dd]) (by simp [upN, dd]) (by simp [upN, dd]) ?_ ?_ (fun k hk => by omega) ?_ ?_ w (lv_sub hl [1, 0] rfl)
  · simp [upE, dd, Ne.symm dd.1, Ne.symm dd.2.1, Ne.symm dd.2.2.1, Ne.symm dd.2.2.2.1, Ne.symm dd.2.2.2.2.1]
  · simp [upE, dd, Ne.symm dd.1, Ne.symm dd.2.1, Ne.symm dd.2.2.1, Ne.symm dd.2.2.2.1, Ne.symm dd.2.2.2.2.1]
  · simp [upE, dd, Ne.symm dd.1, Ne.symm dd.2.1, Ne.symm dd.2.2.1, Ne.symm dd.2.2.2.1, Ne.symm dd.2.2.2.2.1]
  · simp [upE, dd, Ne.symm dd.1, Ne.symm dd.2.1, Ne.symm dd.2.2.1, Ne.symm dd.2.2.2.1, Ne.symm dd.2.2.2.2.1]
end
section
/-! History(): six staircases -/
theorem lay_9 {g : Gv} {ad : Nat → Nat} {i : Nat} (h : kd i = 9) : lay g ad mu0 i = .inr (3, fsK ad 9 i (mu0 i)) := by
  unfold lay
  rw [h]
  rfl
theorem jn_upE {M : Nat} {E F : Nat → va_E} {x : va_E} : jn M (upE E M x) F = jn M E F := by
  funext i
  by_cases h : i < M
  · rw [jn_lt _ _ h, jn_lt _ _ h, upE_ne _ _ (by omega)]
  · rw [jn_ge _ _ (by omega), jn_ge _ _ (by omega)]
/-- new Staircase(), on the stack -/
theorem n_stair {g : Gv} {ad : Nat → Nat} {E : Nat → va_E} {b M : Nat} {A : Nat → Prop} {own : String} {cc : ByteArray} {nL : Nat} {p : Program} {l : Launch} {e : Env} {R : Room} {s : State} {m : MethodId} {args : Array Value} {below : List Frame} {meth : Method} {c : Code} {H : Heap} {locs : List Loc} {cells slots : Nat} {Q : State → Prop} {pc : Nat} {ls : Array Slot} {rest : List Value}
    (C0 : CxN g p s m args c own cc nL) (w : Gw g ad E b M A s H locs) (hbM : b ≤ M) (hM28 : M + 28 ≤ 287) (hk : ∀ o, o < 28 → kd (M + o) = ks o) {i1 i2 : Nat} (hcl : Cond.classLink own i1 RX3 ∈ tb_G) (hlk : Cond.methodLink own i2 yX3_init ∈ tb_G) (hls : ls.size = nL) (hR : 3 ≤ R.frames ∧ 53 ≤ R.locals) (hW : 1 + (rest.map fun v => v.category).sum ≤ 8) (hcs : cells + 28 ≤ R.cells ∧ slots + 285 ≤ R.slots) (d1 : decode cc pc = .ok (.new i1, 3)) (d2 : decode cc (pc + 3) = .ok (.dup, 1)) (d3 : decode cc (pc + 4) = .ok (.invokespecial i2, 3))
    (kk : ∀ (ad' : Nat → Nat) (H1 : Heap) (locs1 : List Loc), (∀ i, i < M → ad' i = ad i) → Gw g ad' (jn M E (lay g ad' mu0)) b (M + 28) A s H1 locs1 → W p l e R s m args below meth c H1 locs1 (cells + 28) (slots + 285) Q (F0 m (pc + 7) ls (.ref (ad' M) :: rest))) : W p l e R s m args below meth c H locs cells slots Q (F0 m pc ls rest) := by
  obtain ⟨hx, hb, hml, hts, hown, hKK, hN⟩ := id C0
  refine n_new C0 w hbM (ci := 3) (fs := B3) (C := RX3) (T := TX3) (N := 6) iX3 tyX3 tyX3_ok hcl ib_X3_init it_X3_init rfl (fun k hk => ?_) (by omega) (by omega) d1 (fun q H1 w => ?_)
  · have : k = 0 ∨ k = 1 ∨ k = 2 ∨ k = 3 ∨ k = 4 ∨ k = 5 := by omega
    rcases this with rfl | rfl | rfl | rfl | rfl | rfl <;> rfl
  refine lv_dup hx hb d2 rfl ?_
  refine n_back w hbM (by omega) hM28 (q := q) (e1 := .inr (3, B3)) (upN_at _ _ _) (upE_at _ _ _) (n_runI C0 w hbM (upN_at _ _ _) (upE_at _ _ _) (c_X3_init l g q H1.size M hM28 hk) cd_X3_init it_X3_init hlk in_X3_init rfl (by decide +kernel) ⟨rfl, rfl⟩ ⟨hR.1, hR.2⟩ hls rfl ?_ d3 ⟨by omega, by omega⟩) (fun ad' H2 locs2 hag w => ?_)
  · rw [List.map_cons, List.sum_cons]
    exact hW
  have aq : ad' M = q := by rw [hag _ (Nat.le_refl _), upN_at]
  rw [jn_upE] at w
  refine W.widen (k := cells + 28) (n := slots + 285) (by omega) (by omega) ?_
  have := kk ad' H2 locs2 (fun i hi => by rw [hag i (by omega), upN_ne _ _ (by omega)]) w
  rw [aq] at this
  exact this
abbrev B0 : List Value := [.null, .int 0]
abbrev rm_X0_init : Room := { frames := 3, cells := 169, slots := 1716, locals := 53 }
def HV (g : Gv) (ad : Nat → Nat) (E : Nat → va_E) (h0 j : Nat) : Prop :=
  ad 57 = h0 ∧ E 57 = .inr (0, [.ref (ad 58), .int 0]) ∧ (∃ f, E 58 = .inl (g.2 4, 6, .inr (.inr (.inr (.inr f)))) ∧ ∀ k, k < j → f k = some (ad (59 + 28 * k))) ∧ ∀ i, 59 ≤ i → i < 59 + 28 * j → Cv g.1 (E i) (lay g ad mu0 i)
theorem hi_59 : ∀ j, j < 7 → ∀ i, i < 59 + 28 * j → 59 ≤ i → hiR i ≤ 59 + 28 * j := by decide +kernel
theorem kd_59 : ∀ j, j < 6 → ∀ o, o < 28 → kd (59 + 28 * j + o) = ks o := by decide +kernel
set_option maxHeartbeats 4000000 in
set_option maxRecDepth 100000 in
theorem t_X0_L15 {g : Gv} {A : Nat → Prop} {l : Launch} {p : Program} {e : Env} {s : State} {m : MethodId} {args : Array Value} {below : List Frame} {meth : Method} {c : Code} {Q : State → Prop} (C : CxN g p s m args c "StairBows$History" cX0_init 2) {h0 : Nat}
    (kk : ∀ (ad : Nat → Nat) (E : Nat → va_E) (H : Heap) (locs : List Loc) (ls : Array Slot), HV g ad E h0 6 → Gw g ad E 57 227 A s H locs → W p l e rm_X0_init s m args below meth c H locs 169 1716 Q (F0 m 43 ls [])) :
    ∀ (d j : Nat) (ad : Nat → Nat) (E : Nat → va_E) (H : Heap) (locs : List Loc) (ls : Array Slot), j + d = 6 → HV g ad E h0 j → Gw g ad E 57 (59 + 28 * j) A s H locs → lv_has ls 2 [(0, .ref h0), (1, .int (nI j))] → W p l e rm_X0_init s m args below meth c H locs (1 + 28 * j) (6 + 285 * j) Q (F0 m 15 ls []) := by
  obtain ⟨hx, hb, hml, hts, hown, hKK, hN⟩ := id C
  intro d
  induction d with
  | zero =>
    intro j ad E H locs ls hj hI w hl
    have : j = 6 := by omega
    subst this
    obtain ⟨a0, e0, ⟨f, e1, hf⟩, e2⟩ := id hI
    refine lv_iload_n hx hb dX0_init_15 rfl (lv_at hl 1 rfl) ?_
    refine lv_aload_n hx hb dX0_init_16 rfl (lv_at hl 0 rfl) ?_
    refine n_get C w (i := 57) (ci := 0) (k := 0) (N := 2) (C := RX0) (T := TX0) (by omega) (by omega) a0 e0 iX0 rfl (by decide) fl_History_11 rfl dX0_init_17 ?_
    refine n_alen C w (i := 58) (t := 4) (ty := .object "StairBows$Staircase") (v := 6) (by omega) (by omega) rfl e1 rfl rfl dX0_init_20 ?_
    refine lv_icmp_ge (tgt := 43) hx hb dX0_init_21 (by decide) (fun _ => ?_) (fun c1 => absurd (by decide) c1)
    exact W.widen (k := 169) (n := 1716) (by omega) (by omega) (kk ad E H locs ls hI w)
  | succ d ih =>
    intro j ad E H locs ls hj hI w hl
    obtain ⟨a0, e0, ⟨f, e1, hf⟩, e2⟩ := id hI
    refine lv_iload_n hx hb dX0_init_15 rfl (lv_at hl 1 rfl) ?_
    refine lv_aload_n hx hb dX0_init_16 rfl (lv_at hl 0 rfl) ?_
    refine n_get C w (i := 57) (ci := 0) (k := 0) (N := 2) (C := RX0) (T := TX0) (by omega) (by omega) a0 e0 iX0 rfl (by decide) fl_History_11 rfl dX0_init_17 ?_
    refine n_alen C w (i := 58) (t := 4) (ty := .object "StairBows$Staircase") (v := 6) (by omega) (by omega) rfl e1 rfl rfl dX0_init_20 ?_
    refine lv_icmp_ge (tgt := 43) hx hb dX0_init_21 (by decide) (fun c1 => absurd c1 (nI_ge (b := 6) (by omega) (by omega))) (fun _ => ?_)
    refine lv_aload_n hx hb dX0_init_24 rfl (lv_at hl 0 rfl) ?_
    refine n_get C w (i := 57) (ci := 0) (k := 0) (N := 2) (C := RX0) (T := TX0) (by omega) (by omega) a0 e0 iX0 rfl (by decide) fl_History_11 rfl dX0_init_25 ?_
    refine lv_iload_n hx hb dX0_init_28 rfl (lv_at hl 1 rfl) ?_
    refine n_stair C w (by omega) (by omega) (kd_59 j (by omega)) cl_History_9 ml2_History_17 hl.1 ⟨Nat.le_of_ble_eq_true rfl, Nat.le_of_ble_eq_true rfl⟩ (Nat.le_of_ble_eq_true rfl) ⟨by show 1 + 28 * j + 28 ≤ 169; omega, by show 6 + 285 * j + 285 ≤ 1716; omega⟩ dX0_init_29 dX0_init_32 dX0_init_33 (fun ad' H1 locs1 ag w => ?_)
    have Ee : ∀ i, i < 59 + 28 * j → jn (59 + 28 * j) E (lay g ad' mu0) i = E i := fun i hi => jn_lt _ _ hi
    have Eq : jn (59 + 28 * j) E (lay g ad' mu0) (59 + 28 * j) = .inr (3, fsK ad' 9 (59 + 28 * j) (mu0 (59 + 28 * j))) := by
      rw [jn_ge _ _ (Nat.le_refl _)]
      exact lay_9 (kd_59 j (by omega) 0 (by omega))
    refine n_astq C w (i := 58) (i2 := 59 + 28 * j) (t := 4) (n := 6) (jn' := j) (f := f) (ci := 3) (r := (RX3, TX3, 6)) (by omega) (by omega) (ag _ (by omega)) ((Ee _ (by omega)).trans e1) rfl (by omega) (by omega) rfl Eq rfl (nI_clamp (by omega)) (vp_in_nI (by omega) (by omega)) dX0_init_36 (fun H3 locs3 w => ?_)
    refine lv_iinc (v := nI (j + 1)) (lv' := [(1, .int (nI (j + 1))), (0, .ref h0)]) hx hb dX0_init_37 hl (k := 1) rfl (nI_1 j) (by decide) rfl (fun ls hl => ?_)
    refine lv_goto (tgt := 15) hx hb dX0_init_40 (by decide) ?_
    refine W.widen (k := 1 + 28 * (j + 1)) (n := 6 + 285 * (j + 1)) (by omega) (by omega) ?_
    refine ih (j + 1) ad' _ _ _ _ (by omega) ⟨?_, ?_, ⟨_, upE_at _ _ _, fun k hk => ?_⟩, fun i h1 h2 => ?_⟩ (by rw [show 59 + 28 * (j + 1) = 59 + 28 * j + 28 by omega]; exact w) (lv_sub hl [1, 0] rfl)
    · rw [ag _ (by omega), a0]
    · rw [upE_ne _ _ (by omega), Ee _ (by omega), e0, ag _ (by omega)]
    · unfold va_up
      by_cases hkj : k = j
      · subst hkj
        simp
      · simp only [hkj, if_false]
        rw [hf k (by omega), ag _ (by omega)]
    · rw [upE_ne _ _ (by omega)]
      by_cases hi : i < 59 + 28 * j
      · rw [Ee i hi]
        exact (e2 i h1 hi).trans (lay_cv (by omega) (fun z _ hz => (ag z (Nat.lt_of_lt_of_le hz (hi_59 j (by omega) i hi h1))).symm))
      · rw [jn_ge _ _ (by omega)]
        exact Cv.of rfl
set_option maxHeartbeats 4000000 in
set_option maxRecDepth 100000 in
theorem c_X0_init (l : Launch) (g : Gv) (h0 sz : Nat) : Met l yX0_init (wX yX0_init cX0_init 2 none) rm_X0_init (PreN g [(h0, .inr (0, B0))] sz [.ref h0]) (PostN g 57 227 [(h0, .inr (0, B0))] sz h0) 169 1716 (va_A [(h0, .inr (0, B0))] sz) := by
  refine Met.ofW (cc := cX0_init) (maxL := 2) (ret := none) (by decide) rfl ?_
  intro p e s m args below meth c s₁ B hml hv
  obtain ⟨rfl, rfl, C, w⟩ := n_start (b := 57) B hml hv
  obtain ⟨hx, hb, hml, hts, hown, hKK, hN⟩ := id C
  have hin : meth.name = "<init>" := (name_of_methodNamed B.named B.method).1
  have hl := lv_entry ([.ref h0]) (n := 2) (Nat.le_of_ble_eq_true rfl)
  rw [lg_entry_eq]
  generalize (lg_sl ([.ref h0]) ++ List.replicate (2 - (lg_sl ([.ref h0])).length) Slot.unset).toArray = ls at hl ⊢
  have hl : lv_has ls 2 [(0, .ref h0)] := hl
  refine lv_aload_n hx hb dX0_init_0 rfl (lv_at hl 0 rfl) ?_
  refine n_obj C hl.1 ml2_History_3 dX0_init_1 (Nat.le_of_ble_eq_true rfl) (Nat.le_of_ble_eq_true rfl) ?_
  refine lv_aload_n hx hb dX0_init_4 rfl (lv_at hl 0 rfl) ?_
  refine lv_bipush (v := 6) hx hb dX0_init_5 (by decide) ?_
  refine n_newq C w (by omega) (t := 4) (N' := 6) cl_History_9 hN.2.2.2.2 rfl (by decide) rfl (by decide) (Nat.le_of_ble_eq_true rfl) (Nat.le_of_ble_eq_true rfl) dX0_init_7 (fun q1 H1 w => ?_)
  refine n_putF C w hin (i := 57) (ci := 0) (k := 0) (N := 2) (fs := B0) (C := RX0) (T := TX0) (by omega) (by omega) rfl rfl iX0 tyX0 tyX0_ok nmX0 rfl (by decide) fl_History_11 rfl rfl rfl rfl rfl (Nat.le_of_ble_eq_true rfl) dX0_init_10 (fun H2 locs2 w => ?_)
  refine lv_iconst (v := 0) hx hb dX0_init_13 (by decide) ?_
  refine lv_istore_n (lv' := [(1, .int 0), (0, .ref h0)]) hx hb dX0_init_14 rfl hl (by decide) rfl (fun ls hl => ?_)
  refine W.widen (k := 1 + 28 * 0) (n := 6 + 285 * 0) (by omega) (by omega) ?_
  refine t_X0_L15 C (fun ad E H locs ls hI w => ?_) 6 0 _ _ _ _ ls (by omega) ⟨rfl, rfl, ⟨fun _ => none, rfl, fun k hk => by omega⟩, fun i h1 h2 => by omega⟩ w (lv_sub hl [1, 0] rfl)
  obtain ⟨a0, e0, ⟨f, e1, hf⟩, e2⟩ := hI
  refine n_vret C B.returns B.notSynchronized w a0 (fun i h1 h2 => ?_) dX0_init_43
  by_cases h57 : i = 57
  · subst h57
    rw [e0]
    exact Cv.of rfl
  · by_cases h58 : i = 58
    · subst h58
      rw [e1]
      refine Cv.q (fun j hj => ?_)
      rw [hf j hj]
      show _ = some (ad (59 + 28 * (nI j).toNatClampNeg))
      rw [nI_clamp (by omega)]
    · exact e2 i (by omega) (by omega)
end
section
/-! StairBows() -/
abbrev B4 : List Value := [.null, .null, .null, .null, .null, .null]
abbrev rm_X4_init : Room := { frames := 4, cells := 286, slots := 2924, locals := 74 }
def BI (g : Gv) (ad : Nat → Nat) (E : Nat → va_E) (h0 M : Nat) (vs : List Value) : Prop :=
  ad 0 = h0 ∧ E 0 = .inr (4, vs) ∧ ∀ i, 1 ≤ i → i < M → i ≠ 227 → Cv g.1 (E i) (lay g ad mu0 i)
theorem bi_step {g : Gv} {ad ad' : Nat → Nat} {E : Nat → va_E} {h0 M L : Nat} {vs : List Value} {k : Nat} {v : Value} (hM : 1 ≤ M) (hM2 : M ≤ 287) (hh : ∀ i, i < M → 1 ≤ i → i ≠ 227 → hiR i ≤ M) (ag : ∀ i, i < M → ad' i = ad i) (h : BI g ad E h0 M vs) : BI g ad' (upE (jn M E (lay g ad' mu0)) 0 (.inr (4, vs.set k v))) h0 L (vs.set k v) := by
  obtain ⟨a, b, c⟩ := h
  refine ⟨by rw [ag 0 (by omega), a], upE_at _ _ _, fun i h1 h2 h3 => ?_⟩
  rw [upE_ne _ _ (by omega)]
  by_cases hi : i < M
  · rw [jn_lt _ _ hi]
    exact (c i h1 hi h3).trans (lay_cv (by omega) (fun z _ hz => (ag z (Nat.lt_of_lt_of_le hz (hh i hi h1 h3))).symm))
  · rw [jn_ge _ _ (by omega)]
    exact Cv.of rfl
theorem bi_push {g : Gv} {ad : Nat → Nat} {E : Nat → va_E} {h0 M q : Nat} {vs : List Value} {k : Nat} {v : Value} {x : va_E} (hM : 1 ≤ M) (hM2 : M ≤ 287) (hh : ∀ i, i < M → 1 ≤ i → i ≠ 227 → hiR i ≤ M) (hx : M = 227 ∨ Cv g.1 x (lay g (upN ad M q) mu0 M)) (h : BI g ad E h0 M vs) : BI g (upN ad M q) (upE (upE E M x) 0 (.inr (4, vs.set k v))) h0 (M + 1) (vs.set k v) := by
  obtain ⟨a, b, c⟩ := h
  refine ⟨by rw [upN_ne _ _ (by omega), a], upE_at _ _ _, fun i h1 h2 h3 => ?_⟩
  rw [upE_ne _ _ (by omega)]
  by_cases hi : i < M
  · rw [upE_ne _ _ (by omega)]
    exact (c i h1 hi h3).trans (lay_cv (by omega) (fun z _ hz => by
      have := hh i hi h1 h3
      rw [upN_ne _ _ (by omega)]))
  · have : i = M := by omega
    subst this
    rw [upE_at]
    exact hx.resolve_left (by omega)
theorem hi_1 : ∀ i, i < 1 → 1 ≤ i → i ≠ 227 → hiR i ≤ 1 := by decide +kernel
theorem hi_29 : ∀ i, i < 29 → 1 ≤ i → i ≠ 227 → hiR i ≤ 29 := by decide +kernel
theorem hi_57 : ∀ i, i < 57 → 1 ≤ i → i ≠ 227 → hiR i ≤ 57 := by decide +kernel
theorem hi_227 : ∀ i, i < 227 → 1 ≤ i → i ≠ 227 → hiR i ≤ 227 := by decide +kernel
theorem hi_228 : ∀ i, i < 228 → 1 ≤ i → i ≠ 227 → hiR i ≤ 228 := by decide +kernel
theorem hi_229 : ∀ i, i < 229 → 1 ≤ i → i ≠ 227 → hiR i ≤ 229 := by decide +kernel
theorem hi_231 : ∀ j, j < 3 → ∀ i, i < 231 + 28 * j → 1 ≤ i → i ≠ 227 → hiR i ≤ 231 + 28 * j := by decide +kernel
theorem kd_1 : ∀ o, o < 28 → kd (1 + o) = ks o := by decide +kernel
theorem kd_29 : ∀ o, o < 28 → kd (29 + o) = ks o := by decide +kernel
theorem kd_231 : ∀ j, j < 2 → ∀ o, o < 28 → kd (231 + 28 * j + o) = ks o := by decide +kernel
def BV (g : Gv) (ad : Nat → Nat) (E : Nat → va_E) (h0 j : Nat) : Prop :=
  BI g ad E h0 (231 + 28 * j) [.ref (ad 1), .ref (ad 29), .ref (ad 57), .ref (ad 227), .ref (ad 228), .ref (ad 229)] ∧ ∃ f, E 227 = .inl (g.2 4, 2, .inr (.inr (.inr (.inr f)))) ∧ ∀ k, k < j → f k = some (ad (231 + 28 * k))
set_option maxHeartbeats 4000000 in
set_option maxRecDepth 100000 in
theorem t_X4_L65 {g : Gv} {A : Nat → Prop} {l : Launch} {p : Program} {e : Env} {s : State} {m : MethodId} {args : Array Value} {below : List Frame} {meth : Method} {c : Code} {Q : State → Prop} (C : CxN g p s m args c "StairBows" cX4_init 2) {h0 : Nat}
    (kk : ∀ (ad : Nat → Nat) (E : Nat → va_E) (H : Heap) (locs : List Loc) (ls : Array Slot), BV g ad E h0 2 → Gw g ad E 0 287 A s H locs → W p l e rm_X4_init s m args below meth c H locs 286 2924 Q (F0 m 89 ls [])) :
    ∀ (d j : Nat) (ad : Nat → Nat) (E : Nat → va_E) (H : Heap) (locs : List Loc) (ls : Array Slot), j + d = 2 → BV g ad E h0 j → Gw g ad E 0 (231 + 28 * j) A s H locs → lv_has ls 2 [(0, .ref h0), (1, .int (nI j))] → W p l e rm_X4_init s m args below meth c H locs (230 + 28 * j) (2354 + 285 * j) Q (F0 m 65 ls []) := by
  obtain ⟨hx, hb, hml, hts, hown, hKK, hN⟩ := id C
  intro d
  induction d with
  | zero =>
    intro j ad E H locs ls hj hI w hl
    have : j = 2 := by omega
    subst this
    refine lv_iload_n hx hb dX4_init_65 rfl (lv_at hl 1 rfl) ?_
    refine lv_iconst (v := 2) hx hb dX4_init_66 (by decide) ?_
    refine lv_icmp_ge (tgt := 89) hx hb dX4_init_67 (by decide) (fun _ => ?_) (fun c1 => absurd (by decide) c1)
    exact W.widen (k := 286) (n := 2924) (by omega) (by omega) (kk ad E H locs ls hI w)
  | succ d ih =>
    intro j ad E H locs ls hj hI w hl
    obtain ⟨⟨a0, e0, cv⟩, f, e1, hf⟩ := id hI
    refine lv_iload_n hx hb dX4_init_65 rfl (lv_at hl 1 rfl) ?_
    refine lv_iconst (v := 2) hx hb dX4_init_66 (by decide) ?_
    refine lv_icmp_ge (tgt := 89) hx hb dX4_init_67 (by decide) (fun c1 => absurd c1 (nI_ge (b := 2) (by omega) (by omega))) (fun _ => ?_)
    refine lv_aload_n hx hb dX4_init_70 rfl (lv_at hl 0 rfl) ?_
    refine n_get C w (i := 0) (ci := 4) (k := 3) (N := 6) (C := RX4) (T := TX4) (by omega) (by omega) a0 e0 iX4 rfl (by decide) fl_StairBows_26 rfl dX4_init_71 ?_
    refine lv_iload_n hx hb dX4_init_74 rfl (lv_at hl 1 rfl) ?_
    refine n_stair C w (by omega) (by omega) (kd_231 j (by omega)) cl_StairBows_7 ml2_StairBows_9 hl.1 ⟨Nat.le_of_ble_eq_true rfl, Nat.le_of_ble_eq_true rfl⟩ (Nat.le_of_ble_eq_true rfl) ⟨by show 230 + 28 * j + 28 ≤ 286; omega, by show 2354 + 285 * j + 285 ≤ 2924; omega⟩ dX4_init_75 dX4_init_78 dX4_init_79 (fun ad' H1 locs1 ag w => ?_)
    have Ee : ∀ i, i < 231 + 28 * j → jn (231 + 28 * j) E (lay g ad' mu0) i = E i := fun i hi => jn_lt _ _ hi
    have Eq : jn (231 + 28 * j) E (lay g ad' mu0) (231 + 28 * j) = .inr (3, fsK ad' 9 (231 + 28 * j) (mu0 (231 + 28 * j))) := by
      rw [jn_ge _ _ (Nat.le_refl _)]
      exact lay_9 (kd_231 j (by omega) 0 (by omega))
    refine n_astq C w (i := 227) (i2 := 231 + 28 * j) (t := 4) (n := 2) (jn' := j) (f := f) (ci := 3) (r := (RX3, TX3, 6)) (by omega) (by omega) (ag _ (by omega)) ((Ee _ (by omega)).trans e1) rfl (by omega) (by omega) rfl Eq rfl (nI_clamp (by omega)) (vp_in_nI (by omega) (by omega)) dX4_init_82 (fun H3 locs3 w => ?_)
    refine lv_iinc (v := nI (j + 1)) (lv' := [(1, .int (nI (j + 1))), (0, .ref h0)]) hx hb dX4_init_83 hl (k := 1) rfl (nI_1 j) (by decide) rfl (fun ls hl => ?_)
    refine lv_goto (tgt := 65) hx hb dX4_init_86 (by decide) ?_
    refine W.widen (k := 230 + 28 * (j + 1)) (n := 2354 + 285 * (j + 1)) (by omega) (by omega) ?_
    refine ih (j + 1) ad' _ _ _ _ (by omega) ⟨⟨?_, ?_, fun i h1 h2 h3 => ?_⟩, _, upE_at _ _ _, fun k hk => ?_⟩ (by rw [show 231 + 28 * (j + 1) = 231 + 28 * j + 28 by omega]; exact w) (lv_sub hl [1, 0] rfl)
    · rw [ag _ (by omega), a0]
    · rw [upE_ne _ _ (by omega), Ee _ (by omega), e0, ag _ (by omega), ag _ (by omega), ag _ (by omega), ag _ (by omega), ag _ (by omega), ag _ (by omega)]
    · rw [upE_ne _ _ (by omega)]
      by_cases hi : i < 231 + 28 * j
      · rw [Ee i hi]
        exact (cv i h1 hi h3).trans (lay_cv (by omega) (fun z _ hz => (ag z (Nat.lt_of_lt_of_le hz (hi_231 j (by omega) i hi h1 h3))).symm))
      · rw [jn_ge _ _ (by omega)]
        exact Cv.of rfl
    · unfold va_up
      by_cases hkj : k = j
      · subst hkj
        simp
      · simp only [hkj, if_false]
        rw [hf k (by omega), ag _ (by omega)]
set_option maxHeartbeats 4000000 in
set_option maxRecDepth 100000 in
theorem c_X4_init (l : Launch) (g : Gv) (h0 sz : Nat) : Met l yX4_init (wX yX4_init cX4_init 2 none) rm_X4_init (PreN g [(h0, .inr (4, B4))] sz [.ref h0]) (PostN g 0 287 [(h0, .inr (4, B4))] sz h0) 286 2924 (va_A [(h0, .inr (4, B4))] sz) := by
  refine Met.ofW (cc := cX4_init) (maxL := 2) (ret := none) (by decide) rfl ?_
  intro p e s m args below meth c s₁ B hml hv
  obtain ⟨rfl, rfl, C, w⟩ := n_start (b := 0) B hml hv
  obtain ⟨hx, hb, hml, hts, hown, hKK, hN⟩ := id C
  have hin : meth.name = "<init>" := (name_of_methodNamed B.named B.method).1
  have hl := lv_entry ([.ref h0]) (n := 2) (Nat.le_of_ble_eq_true rfl)
  rw [lg_entry_eq]
  generalize (lg_sl ([.ref h0]) ++ List.replicate (2 - (lg_sl ([.ref h0])).length) Slot.unset).toArray = ls at hl ⊢
  have hl : lv_has ls 2 [(0, .ref h0)] := hl
  have I0 : BI g (fun _ => h0) (fun _ => .inr (4, B4)) h0 1 B4 := ⟨rfl, rfl, fun i h1 h2 _ => by omega⟩
  refine lv_aload_n hx hb dX4_init_0 rfl (lv_at hl 0 rfl) ?_
  refine n_obj C hl.1 ml2_StairBows_1 dX4_init_1 (Nat.le_of_ble_eq_true rfl) (Nat.le_of_ble_eq_true rfl) ?_
  -- now
  refine lv_aload_n hx hb dX4_init_4 rfl (lv_at hl 0 rfl) ?_
  refine n_stair C w (by omega) (by omega) kd_1 cl_StairBows_7 ml2_StairBows_9 hl.1 ⟨Nat.le_of_ble_eq_true rfl, Nat.le_of_ble_eq_true rfl⟩ (Nat.le_of_ble_eq_true rfl) ⟨Nat.le_of_ble_eq_true rfl, Nat.le_of_ble_eq_true rfl⟩ dX4_init_5 dX4_init_8 dX4_init_9 (fun ad1 H1 locs1 ag1 w => ?_)
  refine n_putF C w hin (i := 0) (ci := 4) (k := 0) (N := 6) (fs := B4) (C := RX4) (T := TX4) (by omega) (by omega) (ag1 0 (by omega)) (jn_lt _ _ (by omega)) iX4 tyX4 tyX4_ok nmX4 rfl (by decide) fl_StairBows_10 rfl rfl rfl rfl rfl (Nat.le_of_ble_eq_true rfl) dX4_init_12 (fun H2 locs2 w => ?_)
  have I1 := bi_step (L := 29) (k := 0) (v := .ref (ad1 1)) (by omega) (by omega) hi_1 ag1 I0
  generalize (upE (jn 1 (fun _ => Sum.inr (4, B4)) (lay g ad1 mu0)) 0 (.inr (4, B4.set 0 (.ref (ad1 1))))) = E1 at w I1
  have I1 : BI g ad1 E1 h0 29 [.ref (ad1 1), .null, .null, .null, .null, .null] := I1
  -- trial
  refine lv_aload_n hx hb dX4_init_15 rfl (lv_at hl 0 rfl) ?_
  refine n_stair C w (by omega) (by omega) kd_29 cl_StairBows_7 ml2_StairBows_9 hl.1 ⟨Nat.le_of_ble_eq_true rfl, Nat.le_of_ble_eq_true rfl⟩ (Nat.le_of_ble_eq_true rfl) ⟨Nat.le_of_ble_eq_true rfl, Nat.le_of_ble_eq_true rfl⟩ dX4_init_16 dX4_init_19 dX4_init_20 (fun ad2 H1 locs1 ag2 w => ?_)
  refine n_putF C w hin (i := 0) (ci := 4) (k := 1) (N := 6) (C := RX4) (T := TX4) (by omega) (by omega) ((ag2 0 (by omega)).trans I1.1) ((jn_lt _ _ (by omega)).trans I1.2.1) iX4 tyX4 tyX4_ok nmX4 rfl (by decide) fl_StairBows_16 rfl rfl rfl rfl rfl (Nat.le_of_ble_eq_true rfl) dX4_init_23 (fun H2 locs2 w => ?_)
  have I2 := bi_step (L := 57) (k := 1) (v := .ref (ad2 29)) (by omega) (by omega) hi_29 ag2 I1
  rw [← ag2 1 (by omega)] at I2 w
  generalize (upE (jn 29 E1 (lay g ad2 mu0)) 0 (.inr (4, [.ref (ad2 1), .null, .null, .null, .null, .null].set 1 (.ref (ad2 29))))) = E2 at w I2
  have I2 : BI g ad2 E2 h0 57 [.ref (ad2 1), .ref (ad2 29), .null, .null, .null, .null] := I2
  -- history
  refine lv_aload_n hx hb dX4_init_26 rfl (lv_at hl 0 rfl) ?_
  refine n_new C w (by omega) (ci := 0) (fs := B0) (C := RX0) (T := TX0) (N := 2) iX0 tyX0 tyX0_ok cl_StairBows_19 ib_X0_init it_X0_init rfl (fun k hk => by rcases (show k = 0 ∨ k = 1 by omega) with rfl | rfl <;> rfl) (Nat.le_of_ble_eq_true rfl) (Nat.le_of_ble_eq_true rfl) dX4_init_27 (fun q H1 w => ?_)
  refine lv_dup hx hb dX4_init_30 rfl ?_
  refine n_back (L := 227) w (by omega) (by omega) (by omega) (q := q) (e1 := .inr (0, B0)) (upN_at _ _ _) (upE_at _ _ _) (n_runI C w (by omega) (upN_at _ _ _) (upE_at _ _ _) (c_X0_init l g q H1.size) cd_X0_init it_X0_init ml2_StairBows_21 in_X0_init rfl (by decide +kernel) ⟨rfl, rfl⟩ ⟨Nat.le_of_ble_eq_true rfl, Nat.le_of_ble_eq_true rfl⟩ hl.1 rfl (Nat.le_of_ble_eq_true rfl) dX4_init_31 ⟨Nat.le_of_ble_eq_true rfl, Nat.le_of_ble_eq_true rfl⟩) (fun ad3 H2 locs2 hag w => ?_)
  have aq : ad3 57 = q := by rw [hag _ (Nat.le_refl _), upN_at]
  have ag3 : ∀ i, i < 57 → ad3 i = ad2 i := fun i hi => by rw [hag i (by omega), upN_ne _ _ (by omega)]
  rw [jn_upE] at w
  rw [← aq]
  refine n_putF C w hin (i := 0) (ci := 4) (k := 2) (N := 6) (C := RX4) (T := TX4) (by omega) (by omega) ((ag3 0 (by omega)).trans I2.1) ((jn_lt _ _ (by omega)).trans I2.2.1) iX4 tyX4 tyX4_ok nmX4 rfl (by decide) fl_StairBows_22 rfl rfl rfl rfl rfl (Nat.le_of_ble_eq_true rfl) dX4_init_34 (fun H2 locs2 w => ?_)
  have I3 := bi_step (L := 227) (k := 2) (v := .ref (ad3 57)) (by omega) (by omega) hi_57 ag3 I2
  rw [← ag3 1 (by omega), ← ag3 29 (by omega)] at I3 w
  generalize (upE (jn 57 E2 (lay g ad3 mu0)) 0 (.inr (4, [.ref (ad3 1), .ref (ad3 29), .null, .null, .null, .null].set 2 (.ref (ad3 57))))) = E3 at w I3
  have I3 : BI g ad3 E3 h0 227 [.ref (ad3 1), .ref (ad3 29), .ref (ad3 57), .null, .null, .null] := I3
  -- slots
  refine lv_aload_n hx hb dX4_init_37 rfl (lv_at hl 0 rfl) ?_
  refine lv_iconst (v := 2) hx hb dX4_init_38 (by decide) ?_
  refine n_newq C w (by omega) (t := 4) (N' := 2) cl_StairBows_7 hN.2.2.2.2 rfl (by decide) rfl (by decide) (Nat.le_of_ble_eq_true rfl) (Nat.le_of_ble_eq_true rfl) dX4_init_39 (fun q4 H4 w => ?_)
  refine n_putF C w hin (i := 0) (ci := 4) (k := 3) (N := 6) (C := RX4) (T := TX4) (by omega) (by omega) ((upN_ne _ _ (by omega)).trans I3.1) ((upE_ne _ _ (by omega)).trans I3.2.1) iX4 tyX4 tyX4_ok nmX4 rfl (by decide) fl_StairBows_26 rfl rfl rfl rfl rfl (Nat.le_of_ble_eq_true rfl) dX4_init_42 (fun H5 locs5 w => ?_)
  have I4 := bi_push (k := 3) (v := .ref q4) (q := q4) (x := .inl (g.2 4, 2, .inr (.inr (.inr (.inr (fun _ => none)))))) (by omega) (by omega) hi_227 (Or.inl rfl) I3
  have ag4 : ∀ i, i < 227 → upN ad3 227 q4 i = ad3 i := fun i hi => upN_ne _ _ (by omega)
  have aq4 : upN ad3 227 q4 227 = q4 := upN_at _ _ _
  rw [← ag4 1 (by omega), ← ag4 29 (by omega), ← ag4 57 (by omega)] at I4 w
  generalize hE4 : (upE (upE E3 227 (.inl (g.2 4, 2, .inr (.inr (.inr (.inr (fun _ => none))))))) 0 (.inr (4, [.ref (upN ad3 227 q4 1), .ref (upN ad3 227 q4 29), .ref (upN ad3 227 q4 57), .null, .null, .null].set 3 (.ref q4)))) = E4 at w I4
  have s4 : E4 227 = .inl (g.2 4, 2, .inr (.inr (.inr (.inr (fun _ => none))))) := by rw [← hE4, upE_ne _ _ (by omega), upE_at]
  clear hE4
  generalize upN ad3 227 q4 = ad4 at w I4 aq4
  rw [← aq4] at I4
  have I4 : BI g ad4 E4 h0 228 [.ref (ad4 1), .ref (ad4 29), .ref (ad4 57), .ref (ad4 227), .null, .null] := I4
  -- isSaved
  refine lv_aload_n hx hb dX4_init_45 rfl (lv_at hl 0 rfl) ?_
  refine lv_iconst (v := 2) hx hb dX4_init_46 (by decide) ?_
  refine n_newa C w (by omega) (atype := .boolean) (t := 1) (ty := .boolean) ac_boolean rfl rfl (N' := 2) (a0 := (2, .inl (fun _ => 0))) (fun _ => rfl) (by decide) rfl (by decide) (Nat.le_of_ble_eq_true rfl) (Nat.le_of_ble_eq_true rfl) dX4_init_47 (fun q5 H4 w => ?_)
  refine n_putF C w hin (i := 0) (ci := 4) (k := 4) (N := 6) (C := RX4) (T := TX4) (by omega) (by omega) ((upN_ne _ _ (by omega)).trans I4.1) ((upE_ne _ _ (by omega)).trans I4.2.1) iX4 tyX4 tyX4_ok nmX4 rfl (by decide) fl_StairBows_30 rfl rfl rfl rfl rfl (Nat.le_of_ble_eq_true rfl) dX4_init_49 (fun H5 locs5 w => ?_)
  have I5 := bi_push (k := 4) (v := .ref q5) (q := q5) (x := .inl (g.2 1, 2, .inl (fun _ => 0))) (by omega) (by omega) hi_228 (Or.inr (Cv.of rfl)) I4
  have ag5 : ∀ i, i < 228 → upN ad4 228 q5 i = ad4 i := fun i hi => upN_ne _ _ (by omega)
  have aq5 : upN ad4 228 q5 228 = q5 := upN_at _ _ _
  rw [← ag5 1 (by omega), ← ag5 29 (by omega), ← ag5 57 (by omega), ← ag5 227 (by omega)] at I5 w
  generalize hE5 : (upE (upE E4 228 (.inl (g.2 1, 2, .inl (fun _ => 0)))) 0 (.inr (4, [.ref (upN ad4 228 q5 1), .ref (upN ad4 228 q5 29), .ref (upN ad4 228 q5 57), .ref (upN ad4 228 q5 227), .null, .null].set 4 (.ref q5)))) = E5 at w I5
  have s5 : E5 227 = .inl (g.2 4, 2, .inr (.inr (.inr (.inr (fun _ => none))))) := by rw [← hE5, upE_ne _ _ (by omega), upE_ne _ _ (by omega), s4]
  clear hE5
  generalize upN ad4 228 q5 = ad5 at w I5 aq5
  rw [← aq5] at I5
  have I5 : BI g ad5 E5 h0 229 [.ref (ad5 1), .ref (ad5 29), .ref (ad5 57), .ref (ad5 227), .ref (ad5 228), .null] := I5
  -- pad
  refine lv_aload_n hx hb dX4_init_52 rfl (lv_at hl 0 rfl) ?_
  refine n_new C w (by omega) (ci := 1) (fs := B1) (C := RX1) (T := TX1) (N := 2) iX1 tyX1 tyX1_ok cl_StairBows_34 ib_X1_init it_X1_init rfl (fun k hk => by rcases (show k = 0 ∨ k = 1 by omega) with rfl | rfl <;> rfl) (Nat.le_of_ble_eq_true rfl) (Nat.le_of_ble_eq_true rfl) dX4_init_53 (fun q6 H1 w => ?_)
  refine lv_dup hx hb dX4_init_56 rfl ?_
  refine n_back (L := 231) w (by omega) (by omega) (by omega) (q := q6) (e1 := .inr (1, B1)) (upN_at _ _ _) (upE_at _ _ _) (n_runN C w (by omega) (upN_at _ _ _) (upE_at _ _ _) (c_X1_init l g q6 H1.size) cd_X1_init it_X1_init hN.2.1 in_X1_init rfl (by decide +kernel) ⟨rfl, rfl⟩ ⟨Nat.le_of_ble_eq_true rfl, Nat.le_of_ble_eq_true rfl⟩ hl.1 rfl (Nat.le_of_ble_eq_true rfl) dX4_init_57 ⟨Nat.le_of_ble_eq_true rfl, Nat.le_of_ble_eq_true rfl⟩) (fun ad6 H2 locs2 hag w => ?_)
  have aq6 : ad6 229 = q6 := by rw [hag _ (Nat.le_refl _), upN_at]
  have ag6 : ∀ i, i < 229 → ad6 i = ad5 i := fun i hi => by rw [hag i (by omega), upN_ne _ _ (by omega)]
  rw [jn_upE] at w
  rw [← aq6]
  refine n_putF C w hin (i := 0) (ci := 4) (k := 5) (N := 6) (C := RX4) (T := TX4) (by omega) (by omega) ((ag6 0 (by omega)).trans I5.1) ((jn_lt _ _ (by omega)).trans I5.2.1) iX4 tyX4 tyX4_ok nmX4 rfl (by decide) fl_StairBows_37 rfl rfl rfl rfl rfl (Nat.le_of_ble_eq_true rfl) dX4_init_60 (fun H2 locs2 w => ?_)
  have I6 := bi_step (L := 231) (k := 5) (v := .ref (ad6 229)) (by omega) (by omega) hi_229 ag6 I5
  rw [← ag6 1 (by omega), ← ag6 29 (by omega), ← ag6 57 (by omega), ← ag6 227 (by omega), ← ag6 228 (by omega)] at I6 w
  generalize hE6 : (upE (jn 229 E5 (lay g ad6 mu0)) 0 (.inr (4, [.ref (ad6 1), .ref (ad6 29), .ref (ad6 57), .ref (ad6 227), .ref (ad6 228), .null].set 5 (.ref (ad6 229))))) = E6 at w I6
  have s6 : E6 227 = .inl (g.2 4, 2, .inr (.inr (.inr (.inr (fun _ => none))))) := by rw [← hE6, upE_ne _ _ (by omega), jn_lt _ _ (by omega), s5]
  clear hE6
  have I6 : BI g ad6 E6 h0 231 [.ref (ad6 1), .ref (ad6 29), .ref (ad6 57), .ref (ad6 227), .ref (ad6 228), .ref (ad6 229)] := I6
  refine lv_iconst (v := 0) hx hb dX4_init_63 (by decide) ?_
  refine lv_istore_n (lv' := [(1, .int 0), (0, .ref h0)]) hx hb dX4_init_64 rfl hl (by decide) rfl (fun ls hl => ?_)
  refine W.widen (k := 230 + 28 * 0) (n := 2354 + 285 * 0) (Nat.le_of_ble_eq_true rfl) (Nat.le_of_ble_eq_true rfl) ?_
  refine t_X4_L65 C (fun ad E H locs ls hI w => ?_) 2 0 _ _ _ _ ls (by omega) ⟨I6, _, s6, fun k hk => by omega⟩ w (lv_sub hl [1, 0] rfl)
  obtain ⟨⟨a0, e0, cv⟩, f, e1, hf⟩ := hI
  refine n_vret C B.returns B.notSynchronized w a0 (fun i h1 h2 => ?_) dX4_init_89
  by_cases hi0 : i = 0
  · subst hi0
    rw [e0]
    exact Cv.of rfl
  · by_cases h227 : i = 227
    · subst h227
      rw [e1]
      exact Cv.q (fun j hj => hf j hj)
    · exact cv i (by omega) (by omega) h227
end

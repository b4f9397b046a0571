/-! THE WORLD: 287 cells at fixed places; the numbers in them are one function μ of place and slot -/
abbrev Mem : Type := Nat → Nat → Int32
def up2 (μ : Mem) (i k : Nat) (v : Int32) : Mem := fun a => if a = i then upd (μ i) k v else μ a
def upR (μ : Mem) (i : Nat) (f : Nat → Int32) : Mem := fun a => if a = i then f else μ a
theorem up2_row (μ : Mem) (i k : Nat) (v : Int32) : up2 μ i k v i = upd (μ i) k v := by simp [up2]
theorem up2_ne (μ : Mem) (i k : Nat) (v : Int32) {a : Nat} (h : a ≠ i) : up2 μ i k v a = μ a := by simp [up2, h]
theorem upR_row (μ : Mem) (i : Nat) (f : Nat → Int32) : upR μ i f i = f := by simp [upR]
theorem upR_ne (μ : Mem) (i : Nat) (f : Nat → Int32) {a : Nat} (h : a ≠ i) : upR μ i f a = μ a := by simp [upR, h]
/-- the kind of a staircase's cell, by its place in it -/
def ks (o : Nat) : Nat := if o = 0 then 9 else if o = 1 then 10 else if o = 2 then 11 else if o = 3 then 12 else 13
/-- the kind of a cell -/
def kd (i : Nat) : Nat :=
  if i = 0 then 0
  else if i < 57 then ks ((i - 1) % 28)
  else if i = 57 then 1
  else if i = 58 then 2
  else if i < 227 then ks ((i - 59) % 28)
  else if i = 227 then 3
  else if i = 228 then 4
  else if i = 229 then 5
  else if i = 230 then 6
  else if i < 287 then ks ((i - 231) % 28)
  else 99
/-- a field that holds a reference, for good: the place that it refers to -/
def fr (K i k : Nat) : Option Nat :=
  if K = 9 then (if k < 3 then some (i + 1 + k) else none)
  else if K = 0 then some ([1, 29, 57, 227, 228, 229].getD k 0)
  else if K = 1 then (if k = 0 then some 58 else none)
  else if K = 5 then (if k = 0 then some 230 else none)
  else none
def fvl (ad : Nat → Nat) (K i k : Nat) (v : Int32) : Value := match fr K i k with
  | some t => .ref (ad t)
  | none => .int v
def nfK (K : Nat) : Nat := if K = 13 then 10 else if K = 9 then 6 else if K = 0 then 6 else 2
def ciK (K : Nat) : Nat := if K = 13 then 2 else if K = 9 then 3 else if K = 0 then 4 else if K = 5 then 1 else 0
def fsK (ad : Nat → Nat) (K i : Nat) (f : Nat → Int32) : List Value := (List.range (nfK K)).map (fun k => fvl ad K i k (f k))
abbrev Gv : Type := va_G × (Nat → ClassId)
def rfs (f : Nat → Option Nat) : vp_A → vp_A := fun a => (a.1, .inr (.inr (.inr (.inr f))))
def alK (K : Nat) : Nat := if K = 10 then 3 else if K = 12 then 12 else 0
def cellK (g : Gv) (ad : Nat → Nat) (K i : Nat) (f : Nat → Int32) : va_E :=
  if K = 11 then .inl (g.2 3, 24, .inr (.inr (.inr (.inr (fun k => some (ad (i + 2 + k)))))))
  else if K = 2 then .inl (g.2 4, 6, .inr (.inr (.inr (.inr (fun k => some (ad (59 + 28 * (f k).toNatClampNeg)))))))
  else if K = 3 then .inl (g.2 4, 2, .inr (.inr (.inr (.inr (fun k => some (ad (231 + 28 * k)))))))
  else if K = 4 then .inl (g.2 1, 2, .inl f)
  else if K = 6 then .inl (g.2 2, 60, .inl f)
  else if alK K = 0 then .inr (ciK K, fsK ad K i f)
  else .inl (g.2 0, alK K, .inl f)
def lay (g : Gv) (ad : Nat → Nat) (μ : Mem) (i : Nat) : va_E := cellK g ad (kd i) i (μ i)
def wl (g : Gv) (ad : Nat → Nat) (μ : Mem) : va_W := (List.range 287).map (fun i => (ad i, lay g ad μ i))
theorem kd_lt {i K : Nat} (h : kd i = K) (hK : K < 99) : i < 287 := by
  rcases Nat.lt_or_ge i 287 with q | q
  · exact q
  · exfalso
    have : kd i = 99 := by
      unfold kd
      repeat rw [if_neg (by omega)]
    omega
theorem wl_at (g : Gv) (ad : Nat → Nat) (μ : Mem) {i K : Nat} (h : kd i = K) (hK : K < 99) : (wl g ad μ)[i]? = some (ad i, cellK g ad K i (μ i)) := by
  have hi := kd_lt h hK
  subst h
  simp [wl, hi, lay]
theorem wl_len (g : Gv) (ad : Nat → Nat) (μ : Mem) : (wl g ad μ).length = 287 := by simp [wl]
theorem wl_set (g : Gv) (ad : Nat → Nat) (μ μ' : Mem) {i : Nat} {e : va_E} (he : lay g ad μ' i = e) (hne : ∀ j, j ≠ i → μ' j = μ j) : (wl g ad μ).set i (ad i, e) = wl g ad μ' := by
  apply List.ext_getElem?
  intro j
  by_cases hj : j = i
  · subst hj
    by_cases hl : j < 287
    · rw [List.getElem?_set_self (by rw [wl_len]; exact hl)]
      simp [wl, hl, he]
    · simp [wl, hl]
  · rw [List.getElem?_set_ne (Ne.symm hj)]
    by_cases hl : j < 287
    · simp [wl, hl, lay, hne j hj]
    · simp [wl, hl]
/-- the addresses of the world, and what comes behind sz -/
def Aw (ad : Nat → Nat) (sz : Nat) : Nat → Prop := fun q => (∃ i, i < 287 ∧ q = ad i) ∨ sz ≤ q
def RX0 : String := "StairBows$History"
def TX0 : u_T := fun k => match k with
  | 0 => ("StairBows$History", "states", "[LStairBows$Staircase;", true)
  | _ => ("StairBows$History", "size", "I", false)
def RX1 : String := "StairBows$Pad"
def TX1 : u_T := fun k => match k with
  | 0 => ("StairBows$Pad", "signs", "[C", true)
  | _ => ("StairBows$Pad", "length", "I", false)
def RX2 : String := "StairBows$Person"
def TX2 : u_T := fun k => match k with
  | 0 => ("StairBows$Person", "rank", "I", false)
  | 1 => ("StairBows$Person", "goesUp", "Z", false)
  | 2 => ("StairBows$Person", "place", "I", false)
  | 3 => ("StairBows$Person", "at", "I", false)
  | 4 => ("StairBows$Person", "waits", "I", false)
  | 5 => ("StairBows$Person", "yields", "I", false)
  | 6 => ("StairBows$Person", "bows", "I", false)
  | 7 => ("StairBows$Person", "endedAt", "I", false)
  | 8 => ("StairBows$Person", "stayed", "I", false)
  | _ => ("StairBows$Person", "deed", "I", false)
def RX3 : String := "StairBows$Staircase"
def TX3 : u_T := fun k => match k with
  | 0 => ("StairBows$Staircase", "settings", "[I", true)
  | 1 => ("StairBows$Staircase", "people", "[LStairBows$Person;", true)
  | 2 => ("StairBows$Staircase", "crowds", "[I", true)
  | 3 => ("StairBows$Staircase", "landings", "I", false)
  | 4 => ("StairBows$Staircase", "size", "I", false)
  | _ => ("StairBows$Staircase", "ticks", "I", false)
def RX4 : String := "StairBows"
def TX4 : u_T := fun k => match k with
  | 0 => ("StairBows", "now", "LStairBows$Staircase;", true)
  | 1 => ("StairBows", "trial", "LStairBows$Staircase;", true)
  | 2 => ("StairBows", "history", "LStairBows$History;", true)
  | 3 => ("StairBows", "slots", "[LStairBows$Staircase;", true)
  | 4 => ("StairBows", "isSaved", "[Z", true)
  | _ => ("StairBows", "pad", "LStairBows$Pad;", true)
def tyX0 : Nat → FieldType := fun k => match k with
  | 0 => .array (.object "StairBows$Staircase")
  | _ => .int
theorem nmX0 : ∀ a, a < 2 → ∀ b, b < 2 → a ≠ b → (TX0 a).2.1 ≠ (TX0 b).2.1 := by decide +kernel
theorem tyX0_ok : ∀ k, k < 2 → parseFieldDescriptor (TX0 k).2.2.1 = some (tyX0 k) := by decide +kernel
theorem iX0 : ∀ w ∈ u_ws RX0 TX0 2, w ∈ tb_G := fun w hw => List.mem_filter.mpr ((by decide +kernel : ∀ w ∈ u_ws RX0 TX0 2, w ∈ lw_tbl ∧ goodWord w = true) w hw)
def tyX1 : Nat → FieldType := fun k => match k with
  | 0 => .array .char
  | _ => .int
theorem nmX1 : ∀ a, a < 2 → ∀ b, b < 2 → a ≠ b → (TX1 a).2.1 ≠ (TX1 b).2.1 := by decide +kernel
theorem tyX1_ok : ∀ k, k < 2 → parseFieldDescriptor (TX1 k).2.2.1 = some (tyX1 k) := by decide +kernel
theorem iX1 : ∀ w ∈ u_ws RX1 TX1 2, w ∈ tb_G := fun w hw => List.mem_filter.mpr ((by decide +kernel : ∀ w ∈ u_ws RX1 TX1 2, w ∈ lw_tbl ∧ goodWord w = true) w hw)
def tyX2 : Nat → FieldType := fun k => match k with
  | 0 => .int
  | 1 => .boolean
  | 2 => .int
  | 3 => .int
  | 4 => .int
  | 5 => .int
  | 6 => .int
  | 7 => .int
  | 8 => .int
  | _ => .int
theorem nmX2 : ∀ a, a < 10 → ∀ b, b < 10 → a ≠ b → (TX2 a).2.1 ≠ (TX2 b).2.1 := by decide +kernel
theorem tyX2_ok : ∀ k, k < 10 → parseFieldDescriptor (TX2 k).2.2.1 = some (tyX2 k) := by decide +kernel
theorem iX2 : ∀ w ∈ u_ws RX2 TX2 10, w ∈ tb_G := fun w hw => List.mem_filter.mpr ((by decide +kernel : ∀ w ∈ u_ws RX2 TX2 10, w ∈ lw_tbl ∧ goodWord w = true) w hw)
def tyX3 : Nat → FieldType := fun k => match k with
  | 0 => .array .int
  | 1 => .array (.object "StairBows$Person")
  | 2 => .array .int
  | 3 => .int
  | 4 => .int
  | _ => .int
theorem nmX3 : ∀ a, a < 6 → ∀ b, b < 6 → a ≠ b → (TX3 a).2.1 ≠ (TX3 b).2.1 := by decide +kernel
theorem tyX3_ok : ∀ k, k < 6 → parseFieldDescriptor (TX3 k).2.2.1 = some (tyX3 k) := by decide +kernel
theorem iX3 : ∀ w ∈ u_ws RX3 TX3 6, w ∈ tb_G := fun w hw => List.mem_filter.mpr ((by decide +kernel : ∀ w ∈ u_ws RX3 TX3 6, w ∈ lw_tbl ∧ goodWord w = true) w hw)
def tyX4 : Nat → FieldType := fun k => match k with
  | 0 => .object "StairBows$Staircase"
  | 1 => .object "StairBows$Staircase"
  | 2 => .object "StairBows$History"
  | 3 => .array (.object "StairBows$Staircase")
  | 4 => .array .boolean
  | _ => .object "StairBows$Pad"
theorem nmX4 : ∀ a, a < 6 → ∀ b, b < 6 → a ≠ b → (TX4 a).2.1 ≠ (TX4 b).2.1 := by decide +kernel
theorem tyX4_ok : ∀ k, k < 6 → parseFieldDescriptor (TX4 k).2.2.1 = some (tyX4 k) := by decide +kernel
theorem iX4 : ∀ w ∈ u_ws RX4 TX4 6, w ∈ tb_G := fun w hw => List.mem_filter.mpr ((by decide +kernel : ∀ w ∈ u_ws RX4 TX4 6, w ∈ lw_tbl ∧ goodWord w = true) w hw)
abbrev vwCl : List vw_C := [(RX0, TX0, 2), (RX1, TX1, 2), (RX2, TX2, 10), (RX3, TX3, 6), (RX4, TX4, 6)]

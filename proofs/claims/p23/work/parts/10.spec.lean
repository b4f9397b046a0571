/-! WHAT A TICK IS, over rows of nine numbers: A 0 the staircase's, A (p + 1) the person p's (9: what it did) -/
theorem fa_lt (a b : Int32) : a < b ↔ a.toInt < b.toInt := Int32.lt_iff_toInt_lt
theorem fa_le (a b : Int32) : a ≤ b ↔ a.toInt ≤ b.toInt := Int32.le_iff_toInt_le
theorem fa_eq (a b : Int32) : a = b ↔ a.toInt = b.toInt := Int32.toInt_inj.symm
theorem fa_lt64 (a b : Int64) : a < b ↔ a.toInt < b.toInt := Int64.lt_iff_toInt_lt
theorem fa_le64 (a b : Int64) : a ≤ b ↔ a.toInt ≤ b.toInt := Int64.le_iff_toInt_le
theorem up2_app (μ : Mem) (i k : Nat) (v : Int32) (a b : Nat) : up2 μ i k v a b = if a = i ∧ b = k then v else μ a b := by
  unfold up2 upd
  by_cases h : a = i
  · subst h
    by_cases h2 : b = k <;> simp [h2]
  · simp [h]
abbrev stp (x : Int32) : Prop := ¬ x < 0 ∧ ¬ 12 ≤ x
def cntA (A : Mem) (s : Int32) : Nat → Nat
  | 0 => 0
  | n + 1 => cntA A s n + (if A (n + 1) 2 = 1 ∧ A (n + 1) 3 = s then 1 else 0)
abbrev lndA (A : Mem) (s : Int32) : Prop := ((A 0 5 >>> (s &&& 31)) &&& 1) = 1
def roomA (A : Mem) (n : Nat) (s : Int32) : Int32 := (if lndA A s then A 0 0 else 1) - nI (cntA A s n)
def wayA (A : Mem) (p : Nat) : Int32 := if A (p + 1) 1 = 1 then 1 else -1
def nextA (A : Mem) (p : Nat) : Int32 := if A (p + 1) 2 = 0 then (if A (p + 1) 1 = 1 then 0 else 11) else A (p + 1) 3 + wayA A p
abbrev yldA (A : Mem) (o p : Nat) : Prop := ¬ A (o + 1) 1 = A (p + 1) 1 ∧ (A (o + 1) 0 < A (p + 1) 0 ∨ (A (o + 1) 0 = A (p + 1) 0 ∧ A (p + 1) 1 = 0)) ∧ ¬ A (p + 1) 8 < A 0 2
def yrP (A : Mem) (n : Nat) : Option Nat → Option Nat
  | none => some n
  | some q => if A (n + 1) 0 < A (q + 1) 0 then some n else some q
def yrA (A : Mem) (s : Int32) (p : Nat) : Nat → Option Nat
  | 0 => none
  | n + 1 => if (A (n + 1) 2 = 1 ∧ A (n + 1) 3 = s) ∧ yldA A n p then yrP A n (yrA A s p n) else yrA A s p n
def oI : Option Nat → Int32
  | none => -6
  | some q => nI q
def endsA (A : Mem) (p : Nat) (w : Int32) : Mem := up2 (up2 (up2 (up2 (up2 A (p + 1) 2 w) (p + 1) 3 (-6)) (p + 1) 7 (A 0 3 + 1)) (p + 1) 8 0) (p + 1) 9 (if w = 2 then 2 else 5)
def goesA (A : Mem) (p : Nat) (s d : Int32) : Mem := up2 (up2 (up2 (up2 A (p + 1) 2 1) (p + 1) 3 s) (p + 1) 8 0) (p + 1) 9 d
def bwA (A : Mem) (o p : Nat) : Int32 := A 0 1 * ((A (p + 1) 0 - A (o + 1) 0) + 1)
def bowA (A : Mem) (o p : Nat) : Mem := up2 (up2 (up2 (up2 A (o + 1) 6 (A (o + 1) 6 + bwA A o p)) (o + 1) 5 (A (o + 1) 5 + 1)) 0 6 (A 0 6 + bwA A o p)) 0 7 (A 0 7 + 1)
def waysA (A : Mem) (o p n : Nat) : Option Mem :=
  if stp (A (o + 1) 3 + wayA A p) then
    (if 0 < roomA A n (A (o + 1) 3 + wayA A p) then some (goesA (bowA A o p) o (A (o + 1) 3 + wayA A p) 4) else none)
  else some (endsA (bowA A o p) o 3)
def staysA (A : Mem) (p : Nat) : Mem := up2 (up2 (up2 (up2 A (p + 1) 4 (A (p + 1) 4 + 1)) (p + 1) 8 (A (p + 1) 8 + 1)) 0 8 (A 0 8 + 1)) (p + 1) 9 3
def wyA (A : Mem) (p : Nat) (nx : Int32) : Option Mem → Mem
  | none => staysA A p
  | some B => goesA B p nx 1
def ylA (A : Mem) (p n : Nat) (nx : Int32) : Option Nat → Mem
  | none => staysA A p
  | some o => wyA A p nx (waysA A o p n)
def actsA (A : Mem) (p n : Nat) : Mem :=
  if stp (nextA A p) then
    (if 0 < roomA A n (nextA A p) then goesA A p (nextA A p) 1 else ylA A p n (nextA A p) (yrA A (nextA A p) p n))
  else endsA A p 2
theorem br_nt {c A B : Prop} (h : ¬ c) (a : A) : (¬ c → A) ∧ (c → B) := ⟨fun _ => a, fun z => absurd z h⟩
theorem br_nf {c A B : Prop} (h : c) (b : B) : (¬ c → A) ∧ (c → B) := ⟨fun z => absurd h z, fun _ => b⟩
def stepA (A : Mem) (r : Int32) (p n : Nat) : Mem := if A (p + 1) 0 = r ∧ A (p + 1) 2 < 2 ∧ A (p + 1) 9 = 0 then actsA A p n else A
def rowsA (A : Mem) (r : Int32) (n : Nat) : Nat → Mem
  | 0 => A
  | p + 1 => stepA (rowsA A r n p) r p n
def ranksA (A : Mem) (n : Nat) : Nat → Mem
  | 0 => A
  | k + 1 => rowsA (ranksA A n k) (nI (9 - k)) n n
def clearA (A : Mem) : Mem := fun i k => if k = 9 ∧ 1 ≤ i ∧ i ≤ 24 then 0 else A i k
def tickA (A : Mem) (n : Nat) : Mem := up2 (ranksA (clearA A) n 9) 0 3 (ranksA (clearA A) n 9 0 3 + 1)
/-! ===== the reference's memory holds A ===== -/
def rowA (A : Mem) : Nat → Int32 := fun j => A (j / 9) (j % 9)
def didA (A : Mem) : Nat → Int32 := fun p => A (p + 1) 9
theorem rowA_at (A : Mem) (i k : Nat) (hk : k < 9) : rowA A (9 * i + k) = A i k := by
  unfold rowA
  rw [show (9 * i + k) / 9 = i by omega, show (9 * i + k) % 9 = k by omega]
theorem lt12 (x : Int32) : 11 < x ↔ 12 ≤ x := by
  rw [fa_lt, fa_le]
  show (11 : Int) < _ ↔ (12 : Int) ≤ _
  omega
theorem ixA {p k : Nat} {a1 a2 : Int32} (h1 : a1 = nI p) (h2 : a2 = nI k) : (9 + (9 * a1)) + a2 = nI (9 * (p + 1) + k) := by
  subst h1 h2
  show (nI 9 + (nI 9 * nI p)) + nI k = _
  rw [pk_mul, nI_add, nI_add, show 9 + 9 * p + k = 9 * (p + 1) + k by omega]
theorem nI_addz (c : Nat) : nI c + 0 = nI c := by rw [show (0 : Int32) = nI 0 from rfl, nI_add, Nat.add_zero]
theorem yrA_lt {A : Mem} {s : Int32} {p : Nat} : ∀ {n q : Nat}, yrA A s p n = some q → q < n ∧ (A (q + 1) 2 = 1 ∧ A (q + 1) 3 = s) ∧ yldA A q p
  | 0, q, h => by simp [yrA] at h
  | n + 1, q, h => by
    unfold yrA at h
    split at h
    · rename_i hc
      cases hy : yrA A s p n with
      | none =>
        rw [hy] at h
        simp only [yrP, Option.some.injEq] at h
        subst h
        exact ⟨by omega, hc⟩
      | some q2 =>
        rw [hy] at h
        simp only [yrP] at h
        split at h
        · simp only [Option.some.injEq] at h
          subst h
          exact ⟨by omega, hc⟩
        · simp only [Option.some.injEq] at h
          subst h
          have := yrA_lt hy
          exact ⟨by omega, this.2⟩
    · have := yrA_lt h
      exact ⟨by omega, this.2⟩
theorem oI_ne {q : Nat} (h : q < 24) : ¬ nI q = (-6 : Int32) := by
  intro e
  have h1 : (nI q).toInt = (-6 : Int32).toInt := by rw [e]
  rw [nI_toInt (by omega)] at h1
  have h2 : (-6 : Int32).toInt = -6 := by decide
  omega
theorem n_le0 {x : Int32} (h : 0 < x) : ¬ x ≤ 0 := by rw [fa_lt] at h; rw [fa_le]; omega
theorem n_lt0 {x : Int32} (h : ¬ 0 < x) : x ≤ 0 := by rw [fa_lt] at h; rw [fa_le]; omega
/-- the number of people stays through a deed -/
theorem keep04_up {A : Mem} {i k : Nat} {v : Int32} (h : ¬ (0 = i ∧ 4 = k)) : up2 A i k v 0 4 = A 0 4 := by rw [up2_app, if_neg h]
theorem goesA_04 (A : Mem) (p : Nat) (s d : Int32) : goesA A p s d 0 4 = A 0 4 := by simp [goesA, up2_app]
theorem endsA_04 (A : Mem) (p : Nat) (w : Int32) : endsA A p w 0 4 = A 0 4 := by simp [endsA, up2_app]
theorem bowA_04 (A : Mem) (o p : Nat) : bowA A o p 0 4 = A 0 4 := by simp [bowA, up2_app]
theorem staysA_04 (A : Mem) (p : Nat) : staysA A p 0 4 = A 0 4 := by simp [staysA, up2_app]
theorem waysA_04 {A B : Mem} {o p n : Nat} (h : waysA A o p n = some B) : B 0 4 = A 0 4 := by
  unfold waysA at h
  split at h
  · split at h
    · cases h; rw [goesA_04, bowA_04]
    · cases h
  · cases h; rw [endsA_04, bowA_04]
theorem actsA_04 (A : Mem) (p n : Nat) : actsA A p n 0 4 = A 0 4 := by
  unfold actsA
  split
  · split
    · rw [goesA_04]
    · cases hy : yrA A (nextA A p) p n with
      | none => simp only [ylA]; rw [staysA_04]
      | some o =>
        simp only [ylA]
        cases hw : waysA A o p n with
        | none => simp only [wyA]; rw [staysA_04]
        | some B => simp only [wyA]; rw [goesA_04, waysA_04 hw]
  · rw [endsA_04]
theorem stepA_04 (A : Mem) (r : Int32) (p n : Nat) : stepA A r p n 0 4 = A 0 4 := by
  unfold stepA
  split
  · rw [actsA_04]
  · rfl
theorem rowsA_04 (A : Mem) (r : Int32) (n : Nat) : ∀ p, rowsA A r n p 0 4 = A 0 4
  | 0 => rfl
  | p + 1 => by rw [rowsA, stepA_04, rowsA_04]
theorem ranksA_04 (A : Mem) (n : Nat) : ∀ k, ranksA A n k 0 4 = A 0 4
  | 0 => rfl
  | k + 1 => by rw [ranksA, rowsA_04, ranksA_04]
theorem clearA_04 (A : Mem) : clearA A 0 4 = A 0 4 := by simp [clearA]
theorem tickA_04 (A : Mem) (n : Nat) : tickA A n 0 4 = A 0 4 := by simp [tickA, up2_app, ranksA_04, clearA_04]
theorem lt2 (x : Int32) : ¬ 2 ≤ x ↔ x < 2 := by rw [fa_le, fa_lt]; omega
def clrA (A : Mem) (j : Nat) : Mem := fun i k => if k = 9 ∧ 1 ≤ i ∧ i ≤ j then 0 else A i k
theorem clrA_s (A : Mem) (j : Nat) : up2 (clrA A j) (j + 1) 9 0 = clrA A (j + 1) := by
  funext a b
  rw [up2_app]
  unfold clrA
  by_cases h : a = j + 1 ∧ b = 9
  · rw [if_pos h, if_pos ⟨h.2, by omega, by omega⟩]
  · rw [if_neg h]
    by_cases h2 : b = 9 ∧ 1 ≤ a ∧ a ≤ j
    · rw [if_pos h2, if_pos ⟨h2.1, h2.2.1, by omega⟩]
    · rw [if_neg h2, if_neg (by omega)]

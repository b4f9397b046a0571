/-- the rows of the history, with one more -/
def pushH (g : Nat) : Nat := if g < 6 then g + 1 else 6
def pushR (g : Nat) (R : Nat → Nat → Int32) (r : Nat → Int32) : Nat → Nat → Int32 := fun k => if g < 6 then (if k = g then r else R k) else (if k = 5 then r else R (k + 1))
def tfA (A : Mem) (n : Nat) (v : Int32) : Nat → Bool
  | 0 => false
  | s + 1 => tfA A n v s || decide (lndA A (nI s) ∧ ¬ nI (cntA A (nI s) n) ≤ v)
theorem tfA_ex {A : Mem} {n : Nat} {v : Int32} : ∀ {s : Nat}, tfA A n v s = true ↔ ∃ j, j < s ∧ lndA A (nI j) ∧ ¬ nI (cntA A (nI j) n) ≤ v
  | 0 => by simp [tfA]
  | s + 1 => by
    unfold tfA
    rw [Bool.or_eq_true, tfA_ex (s := s), decide_eq_true_eq]
    constructor
    · rintro (⟨p, hp, e⟩ | e)
      · exact ⟨p, by omega, e⟩
      · exact ⟨s, by omega, e⟩
    · rintro ⟨p, hp, e⟩
      by_cases hps : p = s
      · subst hps; exact Or.inr e
      · exact Or.inl ⟨p, by omega, e⟩
def bI (b : Bool) : Int32 := if b = true then 1 else 0
def lbA (A : Mem) : Nat → Nat
  | 0 => 0
  | s + 1 => lbA A s + (if lndA A (nI s) then 1 else 0)
theorem sub1_wide : ∀ n, n ≤ 24 → (nI n).toInt64 - 1 = (nI n - 1).toInt64 := by decide
theorem per_lt {n : Nat} (hn : n ≤ 24) (x : Int32) : nI n - 1 < x ↔ nI n ≤ x := by
  rw [fa_lt, fa_le, show (1 : Int32) = nI 1 from rfl, pk_sub_toInt (by omega) (by omega), nI_toInt (by omega)]
  omega
theorem per_ex {n : Nat} (hn : n ≤ 24) {x : Int32} (h0 : ¬ x < 0) (h1 : ¬ nI n ≤ x) : ∃ p, p < n ∧ x = nI p := by
  obtain ⟨j, hj, rfl⟩ := nI_of h0
  refine ⟨j, ?_, rfl⟩
  rcases Nat.lt_or_ge j n with q | q
  · exact q
  · exact absurd (nI_le q hj) h1
theorem c_isPerson {n : Nat} {x : Int32} {μ : Mem} {K : Int32 → Mem → Prop} (hn : n ≤ 24) (h4 : μ 1 4 = nI n) (h1 : ∀ p, p < n → x = nI p → K 1 μ) (h0 : (x < 0 ∨ nI n ≤ x) → K 0 μ) : wp_X4_isPerson x μ K := by
  unfold wp_X4_isPerson
  rw [h4]
  refine ⟨fun z => h0 (Or.inl z), fun z => ⟨fun z2 => h0 (Or.inr z2), fun z2 => ?_⟩⟩
  obtain ⟨p, hp, e⟩ := per_ex hn z z2
  exact h1 p hp e


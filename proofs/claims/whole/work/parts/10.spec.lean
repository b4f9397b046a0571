/-! WHAT A TICK IS, over rows of nine numbers: A 0 the staircase's, A (p + 1) the person p's (9: what it did) -/
theorem fa_lt (a b : Int32) : a < b ↔ a.toInt < b.toInt := Int32.lt_iff_toInt_lt
theorem fa_le (a b : Int32) : a ≤ b ↔ a.toInt ≤ b.toInt := Int32.le_iff_toInt_le
theorem fa_eq (a b : Int32) : a = b ↔ a.toInt = b.toInt := Int32.toInt_inj.symm
theorem fa_lt64 (a b : Int64) : a < b ↔ a.toInt < b.toInt := Int64.lt_iff_toInt_lt
theorem fa_le64 (a b : Int64) : a ≤ b ↔ a.toInt ≤ b.toInt := Int64.le_iff_toInt_le
theorem fa_wide_lt (a b : Int32) : a.toInt64 < b.toInt64 ↔ a < b := by rw [fa_lt64, fa_lt, Int32.toInt_toInt64, Int32.toInt_toInt64]
theorem fa_wide_le (a b : Int32) : a.toInt64 ≤ b.toInt64 ↔ a ≤ b := by rw [fa_le64, fa_le, Int32.toInt_toInt64, Int32.toInt_toInt64]
theorem up2_app (μ : Mem) (i k : Nat) (v : Int32) (a b : Nat) : up2 μ i k v a b = if a = i ∧ b = k then v else μ a b := by
  unfold up2 upd
  by_cases h : a = i
  · subst h
    by_cases h2 : b = k <;> simp [h2]
  · simp [h]
abbrev stp (x : Int32) : Prop := ¬ x < 0 ∧ ¬ 12 ≤ x
def cntA (A : Mem) (s : Int32) : Nat → Nat
  | 0 => 0
  | n + 1 => cntA A s n + (if A (n + 1) 2 = 1 ∧ A (n + 1) 3 = s then 1 else 0)
abbrev lndA (A : Mem) (s : Int32) : Prop := ((A 0 5 >>> (s &&& 31)) &&& 1) = 1
def roomA (A : Mem) (n : Nat) (s : Int32) : Int32 := (if lndA A s then A 0 0 else 1) - nI (cntA A s n)
def wayA (A : Mem) (p : Nat) : Int32 := if A (p + 1) 1 = 1 then 1 else -1
def nextA (A : Mem) (p : Nat) : Int32 := if A (p + 1) 2 = 0 then (if A (p + 1) 1 = 1 then 0 else 11) else A (p + 1) 3 + wayA A p
abbrev yldA (A : Mem) (o p : Nat) : Prop := ¬ A (o + 1) 1 = A (p + 1) 1 ∧ (A (o + 1) 0 < A (p + 1) 0 ∨ (A (o + 1) 0 = A (p + 1) 0 ∧ A (p + 1) 1 = 0)) ∧ ¬ A (p + 1) 8 < A 0 2
def yrP (A : Mem) (n : Nat) : Option Nat → Option Nat
  | none => some n
  | some q => if A (n + 1) 0 < A (q + 1) 0 then some n else some q
def yrA (A : Mem) (s : Int32) (p : Nat) : Nat → Option Nat
  | 0 => none
  | n + 1 => if (A (n + 1) 2 = 1 ∧ A (n + 1) 3 = s) ∧ yldA A n p then yrP A n (yrA A s p n) else yrA A s p n
def oI : Option Nat → Int32
  | none => -6
  | some q => nI q
def endsA (A : Mem) (p : Nat) (w : Int32) : Mem := up2 (up2 (up2 (up2 (up2 A (p + 1) 2 w) (p + 1) 3 (-6)) (p + 1) 7 (A 0 3 + 1)) (p + 1) 8 0) (p + 1) 9 (if w = 2 then 2 else 5)
def goesA (A : Mem) (p : Nat) (s d : Int32) : Mem := up2 (up2 (up2 (up2 A (p + 1) 2 1) (p + 1) 3 s) (p + 1) 8 0) (p + 1) 9 d
def bwA (A : Mem) (o p : Nat) : Int32 := A 0 1 * ((A (p + 1) 0 - A (o + 1) 0) + 1)
def bowA (A : Mem) (o p : Nat) : Mem := up2 (up2 (up2 (up2 A (o + 1) 6 (A (o + 1) 6 + bwA A o p)) (o + 1) 5 (A (o + 1) 5 + 1)) 0 6 (A 0 6 + bwA A o p)) 0 7 (A 0 7 + 1)
def waysA (A : Mem) (o p n : Nat) : Option Mem :=
  if stp (A (o + 1) 3 + wayA A p) then
    (if 0 < roomA A n (A (o + 1) 3 + wayA A p) then some (goesA (bowA A o p) o (A (o + 1) 3 + wayA A p) 4) else none)
  else some (endsA (bowA A o p) o 3)
def staysA (A : Mem) (p : Nat) : Mem := up2 (up2 (up2 (up2 A (p + 1) 4 (A (p + 1) 4 + 1)) (p + 1) 8 (A (p + 1) 8 + 1)) 0 8 (A 0 8 + 1)) (p + 1) 9 3
def wyA (A : Mem) (p : Nat) (nx : Int32) : Option Mem → Mem
  | none => staysA A p
  | some B => goesA B p nx 1
def ylA (A : Mem) (p n : Nat) (nx : Int32) : Option Nat → Mem
  | none => staysA A p
  | some o => wyA A p nx (waysA A o p n)
def actsA (A : Mem) (p n : Nat) : Mem :=
  if stp (nextA A p) then
    (if 0 < roomA A n (nextA A p) then goesA A p (nextA A p) 1 else ylA A p n (nextA A p) (yrA A (nextA A p) p n))
  else endsA A p 2
theorem br_nt {c A B : Prop} (h : ¬ c) (a : A) : (¬ c → A) ∧ (c → B) := ⟨fun _ => a, fun z => absurd z h⟩
theorem br_nf {c A B : Prop} (h : c) (b : B) : (¬ c → A) ∧ (c → B) := ⟨fun z => absurd h z, fun _ => b⟩
def stepA (A : Mem) (r : Int32) (p n : Nat) : Mem := if A (p + 1) 0 = r ∧ A (p + 1) 2 < 2 ∧ A (p + 1) 9 = 0 then actsA A p n else A
def rowsA (A : Mem) (r : Int32) (n : Nat) : Nat → Mem
  | 0 => A
  | p + 1 => stepA (rowsA A r n p) r p n
def ranksA (A : Mem) (n : Nat) : Nat → Mem
  | 0 => A
  | k + 1 => rowsA (ranksA A n k) (nI (9 - k)) n n
def clearA (A : Mem) : Mem := fun i k => if k = 9 ∧ 1 ≤ i ∧ i ≤ 24 then 0 else A i k
def tickA (A : Mem) (n : Nat) : Mem := up2 (ranksA (clearA A) n 9) 0 3 (ranksA (clearA A) n 9 0 3 + 1)
/-! ===== the reference's memory holds A ===== -/
def rowA (A : Mem) : Nat → Int32 := fun j => A (j / 9) (j % 9)
def didA (A : Mem) : Nat → Int32 := fun p => A (p + 1) 9
def conA (A μ : Mem) : Mem := upR (upR μ 288 (rowA A)) 293 (didA A)
theorem conA_288 (A μ : Mem) : conA A μ 288 = rowA A := by simp [conA, upR]
theorem conA_293 (A μ : Mem) : conA A μ 293 = didA A := by simp [conA, upR]
theorem conA_ne (A μ : Mem) {i : Nat} (h : i ≠ 288) (h2 : i ≠ 293) : conA A μ i = μ i := by simp [conA, upR, h, h2]
theorem rowA_at (A : Mem) (i k : Nat) (hk : k < 9) : rowA A (9 * i + k) = A i k := by
  unfold rowA
  rw [show (9 * i + k) / 9 = i by omega, show (9 * i + k) % 9 = k by omega]
theorem conA_0 (A μ : Mem) (k : Nat) (hk : k < 9) : conA A μ 288 k = A 0 k := by
  rw [conA_288]
  have := rowA_at A 0 k hk
  simpa using this
theorem conA_up (A μ : Mem) (i k : Nat) (v : Int32) (hk : k < 9) : up2 (conA A μ) 288 (9 * i + k) v = conA (up2 A i k v) μ := by
  funext a j
  rw [up2_app]
  by_cases ha : a = 288
  · subst ha
    rw [conA_288, conA_288]
    simp only [rowA, up2_app, true_and]
    by_cases hj : j = 9 * i + k
    · subst hj
      rw [if_pos rfl, if_pos ⟨by omega, by omega⟩]
    · rw [if_neg hj, if_neg (by omega)]
  · rw [if_neg (by omega)]
    by_cases h2 : a = 293
    · subst h2
      rw [conA_293, conA_293]
      simp only [didA, up2_app]
      rw [if_neg (by omega)]
    · rw [conA_ne _ _ ha h2, conA_ne _ _ ha h2]
theorem conA_up0 (A μ : Mem) (k : Nat) (v : Int32) (hk : k < 9) : up2 (conA A μ) 288 k v = conA (up2 A 0 k v) μ := by
  have := conA_up A μ 0 k v hk
  simpa using this
theorem conA_did (A μ : Mem) (p : Nat) (v : Int32) : up2 (conA A μ) 293 p v = conA (up2 A (p + 1) 9 v) μ := by
  funext a j
  rw [up2_app]
  by_cases ha : a = 293
  · subst ha
    rw [conA_293, conA_293]
    simp only [didA, up2_app, true_and]
    by_cases hj : j = p
    · subst hj; simp
    · rw [if_neg hj, if_neg (by omega)]
  · rw [if_neg (by omega)]
    by_cases h2 : a = 288
    · subst h2
      rw [conA_288, conA_288]
      funext
      simp only [rowA, up2_app]
      rw [if_neg (by omega)]
    · rw [conA_ne _ _ h2 ha, conA_ne _ _ h2 ha]
/-- every memory is of that form -/
def absA (μ : Mem) : Mem := fun i k => if k = 9 then (if i = 0 then 0 else μ 293 (i - 1)) else μ 288 (9 * i + k)
theorem conA_abs (μ : Mem) : conA (absA μ) μ = μ := by
  funext a j
  by_cases h : a = 288
  · subst h
    rw [conA_288]
    simp only [rowA, absA]
    rw [if_neg (by omega), show 9 * (j / 9) + j % 9 = j by omega]
  · by_cases h2 : a = 293
    · subst h2
      rw [conA_293]
      simp [didA, absA]
    · rw [conA_ne _ _ h h2]
/-! ===== its small methods ===== -/
theorem m_in {x : Int32} {lo hi : Int32} {a b : Int64} {μ : Mem} {K : Int32 → Mem → Prop} (ha : a = lo.toInt64) (hb : b = hi.toInt64) (h1 : ¬ x < lo ∧ ¬ hi < x → K 1 μ) (h0 : (x < lo ∨ hi < x) → K 0 μ) : wp_X5_in x.toInt64 a b μ K := by
  subst ha hb
  unfold wp_X5_in
  rw [lg_cmp_lt, lg_cmp_gt, fa_wide_lt, fa_wide_lt]
  exact ⟨fun h => h0 (Or.inl h), fun h => ⟨fun h2 => h0 (Or.inr h2), fun h2 => h1 ⟨h, h2⟩⟩⟩
theorem lt12 (x : Int32) : 11 < x ↔ 12 ≤ x := by
  rw [fa_lt, fa_le]
  show (11 : Int) < _ ↔ (12 : Int) ≤ _
  omega
theorem m_isStep {x : Int32} {μ : Mem} {K : Int32 → Mem → Prop} (h1 : stp x → K 1 μ) (h0 : ¬ stp x → K 0 μ) : wp_X5_isStep x μ K := by
  unfold wp_X5_isStep
  refine m_in (lo := 0) (hi := 11) rfl rfl (fun h => ⟨Or.inr rfl, h1 ⟨h.1, fun q => h.2 ((lt12 x).mpr q)⟩⟩) (fun h => ⟨Or.inl rfl, h0 (fun q => ?_)⟩)
  rcases h with h | h
  · exact q.1 h
  · exact q.2 ((lt12 x).mp h)
theorem ixA {p k : Nat} {a1 a2 : Int32} (h1 : a1 = nI p) (h2 : a2 = nI k) : (9 + (9 * a1)) + a2 = nI (9 * (p + 1) + k) := by
  subst h1 h2
  show (nI 9 + (nI 9 * nI p)) + nI k = _
  rw [pk_mul, nI_add, nI_add, show 9 + 9 * p + k = 9 * (p + 1) + k by omega]
theorem m_get {p k : Nat} {a1 a2 : Int32} {A μ : Mem} {K : Int32 → Mem → Prop} (hp : p < 24) (hk : k < 9) (h1 : a1 = nI p) (h2 : a2 = nI k) (h : K (A (p + 1) k) (conA A μ)) : wp_X5_get a1 a2 (conA A μ) K := by
  unfold wp_X5_get
  rw [ixA h1 h2, nI_clamp (by omega), conA_288, rowA_at _ _ _ hk]
  exact ⟨vp_in_nI (by omega) (by omega), h⟩
theorem m_lays {p k : Nat} {a1 a2 v : Int32} {A μ : Mem} {K : Mem → Prop} (hp : p < 24) (hk : k < 9) (h1 : a1 = nI p) (h2 : a2 = nI k) (h : K (conA (up2 A (p + 1) k v) μ)) : wp_X5_lays a1 a2 v (conA A μ) K := by
  unfold wp_X5_lays
  rw [ixA h1 h2, nI_clamp (by omega)]
  refine ⟨vp_in_nI (by omega) (by omega), nm_e ?_⟩
  rw [conA_up _ _ _ _ _ hk]
  exact h
theorem m_adds {p k : Nat} {a1 a2 v : Int32} {A μ : Mem} {K : Mem → Prop} (hp : p < 24) (hk : k < 9) (h1 : a1 = nI p) (h2 : a2 = nI k) (h : K (conA (up2 A (p + 1) k (A (p + 1) k + v)) μ)) : wp_X5_adds a1 a2 v (conA A μ) K := by
  unfold wp_X5_adds
  rw [ixA h1 h2, nI_clamp (by omega), conA_288, rowA_at _ _ _ hk]
  refine ⟨vp_in_nI (by omega) (by omega), vp_in_nI (by omega) (by omega), nm_e ?_⟩
  rw [conA_up _ _ _ _ _ hk]
  exact h
theorem m_isLanding {x : Int32} {A μ : Mem} {K : Int32 → Mem → Prop} (h1 : lndA A x → K 1 (conA A μ)) (h0 : ¬ lndA A x → K 0 (conA A μ)) : wp_X5_isLanding x (conA A μ) K := by
  unfold wp_X5_isLanding
  rw [conA_0 _ _ _ (by decide)]
  exact ⟨h0, h1⟩
theorem m_isAt {p : Nat} {a1 x : Int32} {A μ : Mem} {K : Int32 → Mem → Prop} (hp : p < 24) (e : a1 = nI p) (h1 : (A (p + 1) 2 = 1 ∧ A (p + 1) 3 = x) → K 1 (conA A μ)) (h0 : ¬ (A (p + 1) 2 = 1 ∧ A (p + 1) 3 = x) → K 0 (conA A μ)) : wp_X5_isAt a1 x (conA A μ) K := by
  unfold wp_X5_isAt
  refine m_get hp (k := 2) (by decide) e rfl ⟨fun h => h0 (fun q => h q.1), fun h => ?_⟩
  exact m_get hp (k := 3) (by decide) e rfl ⟨fun h2 => h0 (fun q => h2 q.2), fun h2 => h1 ⟨h, h2⟩⟩
theorem m_way {p : Nat} {a1 : Int32} {A μ : Mem} {K : Int32 → Mem → Prop} (hp : p < 24) (e : a1 = nI p) (h : K (wayA A p) (conA A μ)) : wp_X5_way a1 (conA A μ) K := by
  unfold wp_X5_way
  unfold wayA at h
  refine m_get hp (k := 1) (by decide) e rfl ⟨fun q => ?_, fun q => ?_⟩
  · rwa [if_neg q] at h
  · rwa [if_pos q] at h
theorem m_nextOf {p : Nat} {a1 : Int32} {A μ : Mem} {K : Int32 → Mem → Prop} (hp : p < 24) (e : a1 = nI p) (h : K (nextA A p) (conA A μ)) : wp_X5_nextOf a1 (conA A μ) K := by
  unfold wp_X5_nextOf
  unfold nextA at h
  refine m_get hp (k := 2) (by decide) e rfl ⟨fun q => ?_, fun q => ?_⟩
  · rw [if_neg q] at h
    exact m_get hp (k := 3) (by decide) e rfl (m_way hp e h)
  · rw [if_pos q] at h
    refine m_get hp (k := 1) (by decide) e rfl ⟨fun q2 => ?_, fun q2 => ?_⟩
    · rwa [if_neg q2] at h
    · rwa [if_pos q2] at h
theorem nI_addz (c : Nat) : nI c + 0 = nI c := by rw [show (0 : Int32) = nI 0 from rfl, nI_add, Nat.add_zero]
theorem m_peopleAt {n : Nat} {x : Int32} {A μ : Mem} {K : Int32 → Mem → Prop} (hn : n ≤ 24) (h4 : A 0 4 = nI n) (h : K (nI (cntA A x n)) (conA A μ)) : wp_X5_peopleAt x (conA A μ) K := by
  have key : ∀ d j, j + d = n → wp_X5_peopleAt_L4 x K (d + 1) (nI (cntA A x j)) (nI j) (conA A μ) := by
    intro d
    induction d with
    | zero =>
      intro j hj
      rw [wp_X5_peopleAt_L4_s]
      simp only
      rw [conA_0 _ _ _ (by decide), h4]
      have : j = n := by omega
      subst this
      exact br_t (nI_le (Nat.le_refl _) (by omega)) h
    | succ d ih =>
      intro j hj
      rw [wp_X5_peopleAt_L4_s]
      simp only
      rw [conA_0 _ _ _ (by decide), h4]
      refine br_f (nI_ge (by omega) (by omega)) ?_
      have h1 := ih (j + 1) (by omega)
      rw [show cntA A x (j + 1) = cntA A x j + (if A (j + 1) 2 = 1 ∧ A (j + 1) 3 = x then 1 else 0) from rfl] at h1
      refine m_isAt (by omega) rfl (fun q => br_f (by decide) ?_) (fun q => br_t rfl ?_)
      · rw [if_pos q] at h1
        rw [nI_1, nI_1]
        exact h1
      · rw [if_neg q] at h1
        rw [nI_addz, nI_1]
        exact h1
  exact ⟨n + 1, key n 0 (by omega)⟩
theorem m_roomAt {n : Nat} {x : Int32} {A μ : Mem} {K : Int32 → Mem → Prop} (hn : n ≤ 24) (h4 : A 0 4 = nI n) (h : K (roomA A n x) (conA A μ)) : wp_X5_roomAt x (conA A μ) K := by
  unfold wp_X5_roomAt
  unfold roomA at h
  refine m_isLanding (fun q => br_f (by decide) ?_) (fun q => br_t rfl ?_)
  · rw [if_pos q] at h
    refine m_peopleAt hn h4 ?_
    rw [conA_0 _ _ _ (by decide)]
    exact h
  · rw [if_neg q] at h
    exact m_peopleAt hn h4 h

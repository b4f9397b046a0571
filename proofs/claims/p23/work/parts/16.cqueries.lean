/-! THE CLASS: what it tells of a staircase; copies; who comes in -/
theorem relc_congr {S T A : Mem} {n : Nat} (h : ∀ o, o < 28 → T o = S o) (hR : RelC S A n) : RelC T A n := by
  obtain ⟨hn, r4, s4, s3, s5, rs, rc, rp⟩ := hR
  refine ⟨hn, r4, by rw [h 0 (by omega), s4], by rw [h 0 (by omega), s3], by rw [h 0 (by omega), s5], fun k hk => by rw [h 1 (by omega), rs k hk], fun s hs => by rw [h 3 (by omega), rc s hs], fun p hp => by rw [h (4 + p) (by omega)]; exact rp p hp⟩
def CpS (T S : Mem) (n : Nat) : Prop := T 0 3 = S 0 3 ∧ T 0 4 = S 0 4 ∧ T 0 5 = S 0 5 ∧ (∀ k, k < 3 → T 1 k = S 1 k) ∧ (∀ s, s < 12 → T 3 s = S 3 s) ∧ ∀ p, p < n → ∀ k, k < 9 → T (4 + p) k = S (4 + p) k
theorem relc_copy {S T A : Mem} {n : Nat} (h : CpS T S n) (hR : RelC S A n) : RelC T A n := by
  obtain ⟨hn, r4, s4, s3, s5, rs, rc, rp⟩ := hR
  obtain ⟨c3, c4, c5, cs, cc, cp⟩ := h
  refine ⟨hn, r4, by rw [c4, s4], by rw [c3, s3], by rw [c5, s5], fun k hk => by rw [cs k hk, rs k hk], fun s hs => by rw [cc s hs, rc s hs], fun p hp => ?_⟩
  have := rp p hp
  unfold RelP at this ⊢
  rw [cp p hp 0 (by omega), cp p hp 1 (by omega), cp p hp 2 (by omega), cp p hp 3 (by omega), cp p hp 4 (by omega), cp p hp 5 (by omega), cp p hp 6 (by omega), cp p hp 7 (by omega), cp p hp 8 (by omega)]
  exact this
theorem c_takeP {d q : Nat} {μ : Mem} {K : Mem → Prop} (hne : d ≠ q) (hz : bz (μ q 1)) (h : ∀ μ', (∀ a, a ≠ d → μ' a = μ a) → (∀ k, k < 9 → μ' d k = μ q k) → (∀ k, 9 ≤ k → μ' d k = μ d k) → K μ') : wp_X2_takeFrom d q μ K := by
  have hq : ∀ (ν : Mem) (k : Nat) (v : Int32), up2 ν d k v q = ν q := fun ν k v => up2_ne _ _ _ _ (Ne.symm hne)
  unfold wp_X2_takeFrom
  refine nm_e ?_
  rw [hq]
  refine ⟨hz, nm_e ?_⟩
  rw [hq, hq]
  refine nm_e ?_
  rw [hq, hq, hq]
  refine nm_e ?_
  rw [hq, hq, hq, hq]
  refine nm_e ?_
  rw [hq, hq, hq, hq, hq]
  refine nm_e ?_
  rw [hq, hq, hq, hq, hq, hq]
  refine nm_e ?_
  rw [hq, hq, hq, hq, hq, hq, hq]
  refine nm_e ?_
  rw [hq, hq, hq, hq, hq, hq, hq, hq]
  refine nm_e ?_
  refine h _ (fun a ha => ?_) (fun k hk => ?_) (fun k hk => ?_)
  · rw [up2_ne _ _ _ _ ha, up2_ne _ _ _ _ ha, up2_ne _ _ _ _ ha, up2_ne _ _ _ _ ha, up2_ne _ _ _ _ ha, up2_ne _ _ _ _ ha, up2_ne _ _ _ _ ha, up2_ne _ _ _ _ ha, up2_ne _ _ _ _ ha]
  · have : k = 0 ∨ k = 1 ∨ k = 2 ∨ k = 3 ∨ k = 4 ∨ k = 5 ∨ k = 6 ∨ k = 7 ∨ k = 8 := by omega
    rcases this with rfl | rfl | rfl | rfl | rfl | rfl | rfl | rfl | rfl <;> simp [up2_app]
  · simp [up2_app, show k ≠ 0 by omega, show k ≠ 1 by omega, show k ≠ 2 by omega, show k ≠ 3 by omega, show k ≠ 4 by omega, show k ≠ 5 by omega, show k ≠ 6 by omega, show k ≠ 7 by omega, show k ≠ 8 by omega]
/-- one staircase is copied over another -/
theorem c_takeFrom {d q n : Nat} {μ : Mem} {K : Mem → Prop} (hdis : d + 28 ≤ q ∨ q + 28 ≤ d) (hn : n ≤ 24) (hs : μ q 4 = nI n) (hz : ∀ p, p < n → bz (μ (q + 2 + 2 + p) 1)) (h : ∀ S', CpS S' (getS q μ) n → K (putS d S' μ)) : wp_X3_takeFrom d q μ K := by
  unfold wp_X3_takeFrom
  refine nm_e (nm_e (nm_e (nm_e (nm_e ?_))))
  -- the memory ahead of the loop
  have key : ∀ i j ν, j + i = n → (∀ a, ¬ (d ≤ a ∧ a < d + 28) → ν a = μ a) → CpS (getS d ν) (getS q μ) j → wp_X3_takeFrom_L62 d q K (i + 1) (nI j) ν := by
    intro i
    induction i with
    | zero =>
      intro j ν hj hν hC
      have : j = n := by omega
      subst this
      rw [wp_X3_takeFrom_L62_s]
      simp only
      have e : ν d 4 = nI j := by
        have := hC.2.1
        unfold getS at this
        rw [Nat.add_zero, Nat.add_zero] at this
        rw [this, hs]
      rw [e]
      refine br_t (nI_le (Nat.le_refl _) (by omega)) ?_
      have h1 := h (getS d ν) hC
      have e2 : putS d (getS d ν) μ = ν := by
        funext a
        unfold putS getS
        by_cases ha : d ≤ a ∧ a < d + 28
        · rw [if_pos ha, show d + (a - d) = a by omega]
        · rw [if_neg ha, hν a ha]
      rw [e2] at h1
      exact h1
    | succ i ih =>
      intro j ν hj hν hC
      rw [wp_X3_takeFrom_L62_s]
      simp only
      have e : ν d 4 = nI n := by
        have := hC.2.1
        unfold getS at this
        rw [Nat.add_zero, Nat.add_zero] at this
        rw [this, hs]
      rw [e]
      refine br_f (nI_ge (by omega) (by omega)) ⟨vp_in_nI (by omega) (by omega), vp_in_nI (by omega) (by omega), ?_⟩
      rw [nI_clamp (by omega)]
      have hq : ν (q + 2 + 2 + j) = μ (q + 2 + 2 + j) := hν _ (by omega)
      refine c_takeP (by omega) (by rw [hq]; exact hz j (by omega)) (fun ν' h1 h2 h3 => ?_)
      rw [nI_1]
      refine ih (j + 1) ν' (by omega) (fun a ha => by rw [h1 a (by omega), hν a ha]) ?_
      obtain ⟨c3, c4, c5, cs, cc, cp⟩ := hC
      unfold getS at c3 c4 c5 cs cc cp
      have hrow : ∀ o, o < 28 → o ≠ 4 + j → getS d ν' o = getS d ν o := fun o ho hne => by
        unfold getS
        exact h1 _ (by omega)
      refine ⟨by rw [hrow 0 (by omega) (by omega)]; exact c3, by rw [hrow 0 (by omega) (by omega)]; exact c4, by rw [hrow 0 (by omega) (by omega)]; exact c5, fun k hk => by rw [hrow 1 (by omega) (by omega)]; exact cs k hk, fun s hs => by rw [hrow 3 (by omega) (by omega)]; exact cc s hs, fun p hp k hk => ?_⟩
      by_cases hpj : p = j
      · subst hpj
        unfold getS
        rw [show d + (4 + p) = d + 2 + 2 + p by omega, h2 k hk, hq, show q + (4 + p) = q + 2 + 2 + p by omega]
      · rw [hrow (4 + p) (by omega) (by omega)]
        exact cp p (by omega) k hk
  refine ⟨n + 1, key n 0 _ (by omega) (fun a ha => ?_) ?_⟩
  · rw [up2_ne _ _ _ _ (by omega), up2_ne _ _ _ _ (by omega), up2_ne _ _ _ _ (by omega), upR_ne _ _ _ (by omega), upR_ne _ _ _ (by omega)]
  · unfold getS
    have n1 : ∀ o, q + o ≠ d ∨ ¬ o < 28 := fun o => by omega
    refine ⟨?_, ?_, ?_, fun k hk => ?_, fun s hs => ?_, fun p hp => by omega⟩
    · simp [up2_app, upR_ne, show q ≠ d by omega, show q ≠ d + 3 by omega, show q ≠ d + 1 by omega]
    · simp [up2_app, upR_ne, show q ≠ d by omega, show q ≠ d + 3 by omega, show q ≠ d + 1 by omega]
    · simp [up2_app, upR_ne, show q ≠ d by omega, show q ≠ d + 3 by omega, show q ≠ d + 1 by omega]
    · dsimp only
      rw [up2_ne _ _ _ _ (by omega), up2_ne _ _ _ _ (by omega), up2_ne _ _ _ _ (by omega), upR_ne _ _ _ (by omega), upR_row, pk_cpy_in (by omega) (by omega), show 0 + (k - 0) = k by omega]
    · dsimp only
      rw [up2_ne _ _ _ _ (by omega), up2_ne _ _ _ _ (by omega), up2_ne _ _ _ _ (by omega), upR_row, pk_cpy_in (by omega) (by omega), upR_ne _ _ _ (by omega), show 0 + (s - 0) = s by omega]
/-! what is told of a person -/
theorem c_tell {q : Nat} {x : Int32} {μ a : Mem} {i : Nat} {K : Int32 → Mem → Prop} (hR : RelP (μ q) (a i)) (hO : OkP (a i)) (hk : ∀ k : Nat, k < 9 → x = nI k → K (a i k) μ) (h0 : (x < 0 ∨ 8 < x) → K (-2) μ) : wp_X2_tell q x μ K := by
  obtain ⟨⟨f0, f1, f2, f4, f5, f6, f8⟩, g1, g2, g3, g4, g5⟩ := hR
  have xk : ∀ k : Nat, k < 9 → x.toInt = k → x = nI k := fun k hk e => Int32.toInt_inj.mp (by rw [e, nI_toInt (by omega)])
  unfold wp_X2_tell
  refine ⟨fun c => h0 ?_, fun c => ?_, fun c => ?_, fun c => ?_, fun c => ?_, fun c => ?_, fun c => ?_, fun c => ?_, fun c => ?_, fun c => ?_⟩
  · rcases c with c | c
    · exact Or.inl (by rw [fa_lt]; exact c)
    · exact Or.inr (by rw [fa_lt]; exact c)
  · have := hk 0 (by omega) (xk 0 (by omega) c)
    rw [← f0] at this
    exact this
  · have := hk 1 (by omega) (xk 1 (by omega) c)
    rw [f1]
    rcases hO.1 with e | e
    · rw [e] at this ⊢
      exact br_t rfl this
    · rw [e] at this ⊢
      exact br_f (by decide) this
  · have := hk 2 (by omega) (xk 2 (by omega) c)
    rw [← f2] at this
    exact this
  · have := hk 3 (by omega) (xk 3 (by omega) c)
    rw [f2]
    refine ⟨fun z => ?_, fun z => ?_⟩
    · rw [g2 z] at this
      exact this
    · rw [← g1 z] at this
      exact this
  · have := hk 4 (by omega) (xk 4 (by omega) c)
    rw [← f4] at this
    exact this
  · have := hk 5 (by omega) (xk 5 (by omega) c)
    rw [← f5] at this
    exact this
  · have := hk 6 (by omega) (xk 6 (by omega) c)
    rw [← f6] at this
    exact this
  · have := hk 7 (by omega) (xk 7 (by omega) c)
    refine c_isOnWay (fun z => br_f (by decide) ?_) (fun z => br_t rfl ?_)
    · rw [f2] at z
      rw [g4 z] at this
      exact this
    · rw [f2] at z
      rw [← g5 z] at this
      exact this
  · have := hk 8 (by omega) (xk 8 (by omega) c)
    rw [← f8] at this
    exact this
/-! what is told of all -/
def whoA (A : Mem) (w : Int32) : Nat → Nat
  | 0 => 0
  | n + 1 => whoA A w n + (if A (n + 1) 2 = w then 1 else 0)
theorem c_peopleWho {b n : Nat} {w : Int32} {S μ A : Mem} {K : Int32 → Mem → Prop} (hR : RelC S A n) (h : K (nI (whoA A w n)) (putS b S μ)) : wp_X3_peopleWho b w (putS b S μ) K := by
  have hn := hR.1
  have key : ∀ d j, j + d = n → wp_X3_peopleWho_L4 b w K (d + 1) (nI (whoA A w j)) (nI j) (putS b S μ) := by
    intro d
    induction d with
    | zero =>
      intro j hj
      have : j = n := by omega
      subst this
      rw [wp_X3_peopleWho_L4_s]
      simp only
      rw [putS_b, hR.2.2.1]
      exact br_t (nI_le (Nat.le_refl _) (by omega)) h
    | succ d ih =>
      intro j hj
      rw [wp_X3_peopleWho_L4_s]
      simp only
      rw [putS_b, hR.2.2.1]
      refine br_f (nI_ge (by omega) (by omega)) ⟨vp_in_nI (by omega) (by omega), ?_⟩
      rw [nI_clamp (by omega), putS_P b S μ (by omega), (hR.2.2.2.2.2.2.2 j (by omega)).1.2.2.1]
      have h1 := ih (j + 1) (by omega)
      rw [whoA, ← nI_1] at h1
      refine ⟨fun q => ?_, fun q => ?_⟩
      · rw [if_neg q] at h1
        exact h1
      · rw [if_pos q] at h1
        rw [nI_1]
        exact h1
  exact ⟨n + 1, key n 0 (by omega)⟩
theorem c_sumOf {b n k : Nat} {w : Int32} {S μ A : Mem} {K : Int32 → Mem → Prop} (hk : k < 9) (hw : w = nI k) (hR : RelC S A n) (hO : OkA A n) (h : K (sumA A k n) (putS b S μ)) : wp_X3_sumOf b w (putS b S μ) K := by
  have hn := hR.1
  subst hw
  have key : ∀ d j, j + d = n → wp_X3_sumOf_L4 b (nI k) K (d + 1) (sumA A k j) (nI j) (putS b S μ) := by
    intro d
    induction d with
    | zero =>
      intro j hj
      have : j = n := by omega
      subst this
      rw [wp_X3_sumOf_L4_s]
      simp only
      rw [putS_b, hR.2.2.1]
      exact br_t (nI_le (Nat.le_refl _) (by omega)) h
    | succ d ih =>
      intro j hj
      rw [wp_X3_sumOf_L4_s]
      simp only
      rw [putS_b, hR.2.2.1]
      refine br_f (nI_ge (by omega) (by omega)) ⟨vp_in_nI (by omega) (by omega), ?_⟩
      rw [nI_clamp (by omega)]
      have h1 := ih (j + 1) (by omega)
      rw [sumA, ← nI_1] at h1
      refine c_tell (a := A) (i := j + 1) (by rw [putS_P b S μ (by omega)]; exact hR.2.2.2.2.2.2.2 j (by omega)) (hO j (by omega)) (fun k2 hk2 e => ?_) (fun z => ?_)
      · have : k = k2 := nI_inj (by omega) (by omega) e
        rw [← this]
        exact h1
      · rcases z with z | z
        · exact absurd z (nI_pos (by omega))
        · exact absurd z (nI_nlt (b := k) (a := 8) (by omega) (by omega))
  exact ⟨n + 1, key n 0 (by omega)⟩
/-- somebody is on the way -/
def wayN (A : Mem) : Nat → Bool
  | 0 => false
  | n + 1 => wayN A n || decide (A (n + 1) 2 = 0 ∨ A (n + 1) 2 = 1)
theorem wayN_ex {A : Mem} : ∀ {n : Nat}, wayN A n = true ↔ ∃ p, p < n ∧ (A (p + 1) 2 = 0 ∨ A (p + 1) 2 = 1)
  | 0 => by simp [wayN]
  | n + 1 => by
    unfold wayN
    rw [Bool.or_eq_true, wayN_ex (n := n), decide_eq_true_eq]
    constructor
    · rintro (⟨p, hp, e⟩ | e)
      · exact ⟨p, by omega, e⟩
      · exact ⟨n, by omega, e⟩
    · rintro ⟨p, hp, e⟩
      by_cases hpn : p = n
      · subst hpn; exact Or.inr e
      · exact Or.inl ⟨p, by omega, e⟩
theorem c_anybody {b n : Nat} {S μ A : Mem} {K : Int32 → Mem → Prop} (hR : RelC S A n) (h1 : wayN A n = true → K 1 (putS b S μ)) (h0 : ¬ wayN A n = true → K 0 (putS b S μ)) : wp_X3_isAnybodyOnWay b (putS b S μ) K := by
  have hn := hR.1
  have key : ∀ d j, j + d = n → (¬ ∃ p, p < j ∧ (A (p + 1) 2 = 0 ∨ A (p + 1) 2 = 1)) → wp_X3_isAnybodyOnWay_L2 b K (d + 1) (nI j) (putS b S μ) := by
    intro d
    induction d with
    | zero =>
      intro j hj hno
      have : j = n := by omega
      subst this
      rw [wp_X3_isAnybodyOnWay_L2_s]
      simp only
      rw [putS_b, hR.2.2.1]
      exact br_t (nI_le (Nat.le_refl _) (by omega)) (h0 (fun z => hno (wayN_ex.mp z)))
    | succ d ih =>
      intro j hj hno
      rw [wp_X3_isAnybodyOnWay_L2_s]
      simp only
      rw [putS_b, hR.2.2.1]
      refine br_f (nI_ge (by omega) (by omega)) ⟨vp_in_nI (by omega) (by omega), ?_⟩
      rw [nI_clamp (by omega)]
      have rj := (hR.2.2.2.2.2.2.2 j (by omega)).1.2.2.1
      refine c_isOnWay (fun q => br_f (by decide) ?_) (fun q => br_t rfl ?_)
      · rw [putS_P b S μ (by omega), rj] at q
        exact h1 (wayN_ex.mpr ⟨j, by omega, q⟩)
      · rw [putS_P b S μ (by omega), rj] at q
        rw [nI_1]
        refine ih (j + 1) (by omega) ?_
        rintro ⟨p, hp, e⟩
        by_cases hpj : p = j
        · subst hpj; exact q e
        · exact hno ⟨p, by omega, e⟩
  exact ⟨n + 1, key n 0 (by omega) (by rintro ⟨p, hp, _⟩; omega)⟩
/-- the highest on a step -/
def hiA (A : Mem) (s : Int32) : Nat → Option Nat
  | 0 => none
  | n + 1 => if A (n + 1) 2 = 1 ∧ A (n + 1) 3 = s then
      (match hiA A s n with
        | none => some n
        | some q => if A (q + 1) 0 < A (n + 1) 0 then some n else some q)
    else hiA A s n
theorem hiA_s {A : Mem} {s : Int32} {n : Nat} (h : A (n + 1) 2 = 1 ∧ A (n + 1) 3 = s) (hn : hiA A s n = none) : hiA A s (n + 1) = some n := by
  unfold hiA
  rw [if_pos h, hn]
theorem hiA_s2 {A : Mem} {s : Int32} {n q : Nat} (h : A (n + 1) 2 = 1 ∧ A (n + 1) 3 = s) (hn : hiA A s n = some q) : hiA A s (n + 1) = if A (q + 1) 0 < A (n + 1) 0 then some n else some q := by
  conv => lhs; unfold hiA
  rw [if_pos h, hn]
theorem hiA_n {A : Mem} {s : Int32} {n : Nat} (h : ¬ (A (n + 1) 2 = 1 ∧ A (n + 1) 3 = s)) : hiA A s (n + 1) = hiA A s n := by
  conv => lhs; unfold hiA
  rw [if_neg h]
theorem hiA_lt {A : Mem} {s : Int32} : ∀ {n q : Nat}, hiA A s n = some q → q < n
  | 0, q, h => by simp [hiA] at h
  | n + 1, q, h => by
    by_cases hc : A (n + 1) 2 = 1 ∧ A (n + 1) 3 = s
    · cases hh : hiA A s n with
      | none =>
        rw [hiA_s hc hh] at h
        cases h
        omega
      | some q2 =>
        rw [hiA_s2 hc hh] at h
        have := hiA_lt hh
        split at h <;> cases h <;> omega
    · rw [hiA_n hc] at h
      have := hiA_lt h
      omega
def rkI (A : Mem) : Option Nat → Int32
  | none => 0
  | some q => A (q + 1) 0
theorem c_highestOn {b n : Nat} {x : Int32} {S μ A : Mem} {K : Int32 → Mem → Prop} (hR : RelC S A n) (hO : OkA A n) (h : K (oI (hiA A x n)) (putS b S μ)) : wp_X3_highestOn b x (putS b S μ) K := by
  have hn := hR.1
  have key : ∀ d j, j + d = n → wp_X3_highestOn_L8 b x K (d + 1) (oI (hiA A x j)) (rkI A (hiA A x j)) (nI j) (putS b S μ) := by
    intro d
    induction d with
    | zero =>
      intro j hj
      have : j = n := by omega
      subst this
      rw [wp_X3_highestOn_L8_s]
      simp only
      rw [putS_b, hR.2.2.1]
      exact br_t (nI_le (Nat.le_refl _) (by omega)) h
    | succ d ih =>
      intro j hj
      rw [wp_X3_highestOn_L8_s]
      simp only
      rw [putS_b, hR.2.2.1]
      refine br_f (nI_ge (by omega) (by omega)) ⟨vp_in_nI (by omega) (by omega), ?_⟩
      rw [nI_clamp (by omega)]
      have rj := hR.2.2.2.2.2.2.2 j (by omega)
      have h1 := ih (j + 1) (by omega)
      rw [← nI_1] at h1
      refine c_standsOn (fun q => br_f (by decide) ⟨vp_in_nI (by omega) (by omega), ?_⟩) (fun q => br_t rfl ?_)
      · rw [putS_P b S μ (by omega), at_iff rj] at q
        rw [putS_P b S μ (by omega), rj.1.1]
        cases hh : hiA A x j with
        | none =>
          rw [hiA_s q hh] at h1
          obtain ⟨r, r1, r9, e⟩ := (hO j (by omega)).2.1
          refine br_f ?_ ⟨vp_in_nI (by omega) (by omega), h1⟩
          show ¬ A (j + 1) 0 ≤ 0
          rw [e]
          exact nI_nle (by omega) (by omega)
        | some q2 =>
          rw [hiA_s2 q hh] at h1
          show (A (j + 1) 0 ≤ A (q2 + 1) 0 → _) ∧ _
          by_cases hc : A (q2 + 1) 0 < A (j + 1) 0
          · rw [if_pos hc] at h1
            exact br_f (by rw [fa_lt] at hc; rw [fa_le]; omega) ⟨vp_in_nI (by omega) (by omega), h1⟩
          · rw [if_neg hc] at h1
            exact br_t (by rw [fa_lt] at hc; rw [fa_le]; omega) h1
      · rw [putS_P b S μ (by omega), at_iff rj] at q
        rw [hiA_n q] at h1
        exact h1
  exact ⟨n + 1, key n 0 (by omega)⟩
/-- the greatest crowd -/
def gcA (A : Mem) (n : Nat) : Nat → Nat
  | 0 => 0
  | s + 1 => max (gcA A n s) (cntA A (nI s) n)
theorem gcA_le {A : Mem} {n : Nat} : ∀ {s : Nat}, gcA A n s ≤ n
  | 0 => Nat.zero_le _
  | s + 1 => by
    unfold gcA
    have := gcA_le (A := A) (n := n) (s := s)
    have := cnt_le (A := A) (s := nI s) n
    omega
theorem gcA_iff {A : Mem} {n v : Nat} : ∀ {s : Nat}, gcA A n s ≤ v ↔ ∀ j, j < s → cntA A (nI j) n ≤ v
  | 0 => ⟨fun _ j hj => by omega, fun _ => Nat.zero_le _⟩
  | s + 1 => by
    unfold gcA
    rw [Nat.max_le, gcA_iff (s := s)]
    constructor
    · rintro ⟨h1, h2⟩ j hj
      by_cases e : j = s
      · subst e; exact h2
      · exact h1 j (by omega)
    · intro h
      exact ⟨fun j hj => h j (by omega), h s (by omega)⟩
theorem c_greatest {b n : Nat} {S μ A : Mem} {K : Int32 → Mem → Prop} (hR : RelC S A n) (h : K (nI (gcA A n 12)) (putS b S μ)) : wp_X3_greatestCrowd b (putS b S μ) K := by
  have hn := hR.1
  have key : ∀ d j, j + d = 12 → wp_X3_greatestCrowd_L4 b K (d + 1) (nI (gcA A n j)) (nI j) (putS b S μ) := by
    intro d
    induction d with
    | zero =>
      intro j hj
      have : j = 12 := by omega
      subst this
      rw [wp_X3_greatestCrowd_L4_s]
      simp only
      exact br_t (by decide) h
    | succ d ih =>
      intro j hj
      rw [wp_X3_greatestCrowd_L4_s]
      simp only
      refine br_f (nI_ge (b := 12) (by omega) (by omega)) ⟨vp_in_nI (by omega) (by omega), ?_⟩
      rw [nI_clamp (by omega), putS_at b S μ (by omega), hR.2.2.2.2.2.2.1 j (by omega), nI_1]
      have h1 := ih (j + 1) (by omega)
      rw [gcA] at h1
      have e : (if nI (gcA A n j) < nI (cntA A (nI j) n) then nI (cntA A (nI j) n) else nI (gcA A n j)) = nI (max (gcA A n j) (cntA A (nI j) n)) := by
        have a1 := gcA_le (A := A) (n := n) (s := j)
        have a2 := cnt_le (A := A) (s := nI j) n
        by_cases hc : gcA A n j < cntA A (nI j) n
        · rw [if_pos (nI_lt hc (by omega)), Nat.max_eq_right (by omega)]
        · rw [if_neg (nI_nlt (by omega) (by omega)), Nat.max_eq_left (by omega)]
      rw [e]
      exact h1
  exact ⟨13, key 12 0 (by omega)⟩


/-! THE CLASS'S STAIRCASE at place b: its 28 rows S -/
def getS (b : Nat) (μ : Mem) : Mem := fun o => μ (b + o)
def putS (b : Nat) (S μ : Mem) : Mem := fun a => if b ≤ a ∧ a < b + 28 then S (a - b) else μ a
theorem putS_at (b : Nat) (S μ : Mem) {o : Nat} (h : o < 28) : putS b S μ (b + o) = S o := by
  unfold putS
  rw [if_pos ⟨by omega, by omega⟩, show b + o - b = o by omega]
theorem putS_b (b : Nat) (S μ : Mem) : putS b S μ b = S 0 := putS_at b S μ (o := 0) (by omega)
theorem putS_P (b : Nat) (S μ : Mem) {p : Nat} (h : p < 24) : putS b S μ (b + 2 + 2 + p) = S (4 + p) := by
  rw [show b + 2 + 2 + p = b + (4 + p) by omega]
  exact putS_at b S μ (by omega)
theorem putS_ne (b : Nat) (S μ : Mem) {a : Nat} (h : ¬ (b ≤ a ∧ a < b + 28)) : putS b S μ a = μ a := by unfold putS; rw [if_neg h]
theorem putS_R (b : Nat) (S μ : Mem) {o : Nat} (h : o < 28) (f : Nat → Int32) : upR (putS b S μ) (b + o) f = putS b (upR S o f) μ := by
  funext a
  unfold upR putS
  by_cases ha : a = b + o
  · subst ha
    rw [if_pos rfl, if_pos ⟨by omega, by omega⟩]
    dsimp only
    rw [if_pos (by omega)]
  · rw [if_neg ha]
    by_cases h2 : b ≤ a ∧ a < b + 28
    · rw [if_pos h2, if_pos h2]
      dsimp only
      rw [if_neg (by omega)]
    · rw [if_neg h2, if_neg h2]
theorem putS_up (b : Nat) (S μ : Mem) {o : Nat} (h : o < 28) (k : Nat) (v : Int32) : up2 (putS b S μ) (b + o) k v = putS b (up2 S o k v) μ := by
  have h1 := putS_R b S μ h (upd (S o) k v)
  have e1 : up2 (putS b S μ) (b + o) k v = upR (putS b S μ) (b + o) (upd (S o) k v) := by
    unfold up2 upR
    rw [putS_at b S μ h]
  rw [e1, h1]
  rfl
theorem putS_up0 (b : Nat) (S μ : Mem) (k : Nat) (v : Int32) : up2 (putS b S μ) b k v = putS b (up2 S 0 k v) μ := putS_up b S μ (o := 0) (by omega) k v
theorem putS_upP (b : Nat) (S μ : Mem) {p : Nat} (h : p < 24) (k : Nat) (v : Int32) : up2 (putS b S μ) (b + 2 + 2 + p) k v = putS b (up2 S (4 + p) k v) μ := by
  rw [show b + 2 + 2 + p = b + (4 + p) by omega]
  exact putS_up b S μ (by omega) k v
theorem putS_get (b : Nat) (μ : Mem) : putS b (getS b μ) μ = μ := by
  funext a
  unfold putS getS
  by_cases h2 : b ≤ a ∧ a < b + 28
  · rw [if_pos h2, show b + (a - b) = a by omega]
  · rw [if_neg h2]
theorem getS_put (b : Nat) (S μ : Mem) {o : Nat} (h : o < 28) : getS b (putS b S μ) o = S o := putS_at b S μ h
theorem putS_put (b : Nat) (S T μ : Mem) : putS b S (putS b T μ) = putS b S μ := by
  funext a
  unfold putS
  by_cases h2 : b ≤ a ∧ a < b + 28
  · rw [if_pos h2, if_pos h2]
  · rw [if_neg h2, if_neg h2, if_neg h2]
/-- a person's row in the class, and in A -/
def RelP (f a : Nat → Int32) : Prop :=
  (f 0 = a 0 ∧ f 1 = a 1 ∧ f 2 = a 2 ∧ f 4 = a 4 ∧ f 5 = a 5 ∧ f 6 = a 6 ∧ f 8 = a 8) ∧ (a 2 = 1 → f 3 = a 3) ∧ (¬ a 2 = 1 → a 3 = -6) ∧ (a 2 = 0 → f 3 = if a 1 = 1 then -1 else 12) ∧ ((a 2 = 0 ∨ a 2 = 1) → a 7 = -6) ∧ (¬ (a 2 = 0 ∨ a 2 = 1) → f 7 = a 7)
def OkP (a : Nat → Int32) : Prop := (a 1 = 0 ∨ a 1 = 1) ∧ (∃ r : Nat, 1 ≤ r ∧ r ≤ 9 ∧ a 0 = nI r) ∧ (a 2 = 0 ∨ a 2 = 1 ∨ a 2 = 2 ∨ a 2 = 3) ∧ (a 2 = 1 → ∃ s : Nat, s < 12 ∧ a 3 = nI s)
def RelC (S A : Mem) (n : Nat) : Prop :=
  n ≤ 24 ∧ A 0 4 = nI n ∧ S 0 4 = nI n ∧ S 0 3 = A 0 5 ∧ S 0 5 = A 0 3 ∧ (∀ k, k < 3 → S 1 k = A 0 k) ∧ (∀ s, s < 12 → S 3 s = nI (cntA A (nI s) n)) ∧ ∀ p, p < n → RelP (S (4 + p)) (A (p + 1))
def RelD (S A : Mem) (n : Nat) : Prop := ∀ p, p < n → S (4 + p) 9 = A (p + 1) 9
def OkA (A : Mem) (n : Nat) : Prop := ∀ p, p < n → OkP (A (p + 1))
theorem stp_of {s : Nat} (h : s < 12) : stp (nI s) := ⟨nI_pos (by omega), nI_ge (b := 12) (by omega) (by omega)⟩
theorem stp_ex {x : Int32} (h : stp x) : ∃ s : Nat, s < 12 ∧ x = nI s := by
  obtain ⟨j, hj, rfl⟩ := nI_of h.1
  refine ⟨j, ?_, rfl⟩
  rcases Nat.lt_or_ge j 12 with q | q
  · exact q
  · exact absurd (nI_le (a := 12) q hj) h.2
theorem stp_in {x : Int32} (h : stp x) : vp_in x 12 := by
  obtain ⟨s, hs, rfl⟩ := stp_ex h
  exact vp_in_nI hs (by omega)
theorem nstp_1 : ¬ stp (-1) := by decide
theorem nstp_12 : ¬ stp 12 := by decide
/-! ===== small methods ===== -/
theorem c_isStep {x : Int32} {μ : Mem} {K : Int32 → Mem → Prop} (h1 : stp x → K 1 μ) (h0 : ¬ stp x → K 0 μ) : wp_X4_isStep x μ K := by
  unfold wp_X4_isStep
  exact ⟨fun q => h0 (fun z => z.1 q), fun q => ⟨fun q2 => h0 (fun z => z.2 q2), fun q2 => h1 ⟨q, q2⟩⟩⟩
theorem c_isLanding {b : Nat} {x : Int32} {S μ A : Mem} {K : Int32 → Mem → Prop} (hL : S 0 3 = A 0 5) (h1 : lndA A x → K 1 (putS b S μ)) (h0 : ¬ lndA A x → K 0 (putS b S μ)) : wp_X3_isLanding b x (putS b S μ) K := by
  unfold wp_X3_isLanding
  rw [putS_b, hL]
  exact ⟨h0, h1⟩
theorem c_crowdOn {b n : Nat} {x : Int32} {S μ A : Mem} {K : Int32 → Mem → Prop} (hR : RelC S A n) (hx : stp x) (h : K (nI (cntA A x n)) (putS b S μ)) : wp_X3_crowdOn b x (putS b S μ) K := by
  unfold wp_X3_crowdOn
  refine c_isStep (fun _ => br_f (by decide) ⟨stp_in hx, ?_⟩) (fun z => absurd hx z)
  obtain ⟨s, hs, rfl⟩ := stp_ex hx
  rw [putS_at b S μ (by omega), nI_clamp (by omega), hR.2.2.2.2.2.2.1 s hs]
  exact h
theorem c_roomOn {b n : Nat} {x : Int32} {S μ A : Mem} {K : Int32 → Mem → Prop} (hR : RelC S A n) (hx : stp x) (h : K (roomA A n x) (putS b S μ)) : wp_X3_roomOn b x (putS b S μ) K := by
  unfold wp_X3_roomOn
  unfold roomA at h
  refine c_isLanding hR.2.2.2.1 (fun q => br_f (by decide) ?_) (fun q => br_t rfl ?_)
  · rw [if_pos q] at h
    refine c_crowdOn hR hx ?_
    rw [putS_at b S μ (by omega), hR.2.2.2.2.2.1 0 (by omega)]
    exact h
  · rw [if_neg q] at h
    exact c_crowdOn hR hx h
theorem c_isOnWay {q : Nat} {μ : Mem} {K : Int32 → Mem → Prop} (h1 : (μ q 2 = 0 ∨ μ q 2 = 1) → K 1 μ) (h0 : ¬ (μ q 2 = 0 ∨ μ q 2 = 1) → K 0 μ) : wp_X2_isOnWay q μ K := by
  unfold wp_X2_isOnWay
  exact ⟨fun z => h1 (Or.inl z), fun z => ⟨fun z2 => h0 (fun y => y.elim z z2), fun z2 => h1 (Or.inr z2)⟩⟩
theorem c_standsOn {q : Nat} {x : Int32} {μ : Mem} {K : Int32 → Mem → Prop} (h1 : (μ q 2 = 1 ∧ μ q 3 = x) → K 1 μ) (h0 : ¬ (μ q 2 = 1 ∧ μ q 3 = x) → K 0 μ) : wp_X2_standsOn q x μ K := by
  unfold wp_X2_standsOn
  exact ⟨fun z => h0 (fun y => z y.1), fun z => ⟨fun z2 => h0 (fun y => z2 y.2), fun z2 => h1 ⟨z, z2⟩⟩⟩
/-- on a step x: in the class as in A -/
theorem at_iff {f a : Nat → Int32} {x : Int32} (h : RelP f a) : (f 2 = 1 ∧ f 3 = x) ↔ (a 2 = 1 ∧ a 3 = x) := by
  rw [h.1.2.2.1]
  exact ⟨fun z => ⟨z.1, by rw [← h.2.1 z.1]; exact z.2⟩, fun z => ⟨z.1, by rw [h.2.1 z.1]; exact z.2⟩⟩
theorem c_nextStep {b n p : Nat} {S μ A : Mem} {K : Int32 → Mem → Prop} (hR : RelC S A n) (hO : OkA A n) (hp : p < n) (hw : A (p + 1) 2 = 0 ∨ A (p + 1) 2 = 1) (h : K (nextA A p) (putS b S μ)) : wp_X2_nextStep (b + 2 + 2 + p) (putS b S μ) K := by
  have hn := hR.1
  obtain ⟨⟨-, f1, -⟩, g1, -, g3, -⟩ := hR.2.2.2.2.2.2.2 p hp
  unfold wp_X2_nextStep
  rw [putS_P b S μ (by omega), f1]
  unfold nextA wayA at h
  rcases (hO p hp).1 with hu | hu
  · refine br_t hu ?_
    have hu1 : ¬ A (p + 1) 1 = 1 := by rw [hu]; decide
    rcases hw with hw | hw
    · rw [if_pos hw, if_neg hu1] at h
      rw [g3 hw, if_neg hu1, show (12 : Int32) - 1 = 11 by decide]
      exact h
    · rw [if_neg (by rw [hw]; decide), if_neg hu1] at h
      rw [g1 hw, Int32.sub_eq_add_neg]
      exact h
  · refine br_f (by rw [hu]; decide) ?_
    rcases hw with hw | hw
    · rw [if_pos hw, if_pos hu] at h
      rw [g3 hw, if_pos hu, show (-1 : Int32) + 1 = 0 by decide]
      exact h
    · rw [if_neg (by rw [hw]; decide), if_pos hu] at h
      rw [g1 hw]
      exact h
/-- a step against the own way is a step on the other's way -/
theorem c_stepBehind {b n o p : Nat} {S μ A : Mem} {K : Int32 → Mem → Prop} (hR : RelC S A n) (hO : OkA A n) (ho : o < n) (hp : p < n) (hw : A (o + 1) 2 = 1) (hne : ¬ A (o + 1) 1 = A (p + 1) 1) (h : K (A (o + 1) 3 + wayA A p) (putS b S μ)) : wp_X2_stepBehind (b + 2 + 2 + o) (putS b S μ) K := by
  have hn := hR.1
  obtain ⟨⟨-, f1, -⟩, g1, -⟩ := hR.2.2.2.2.2.2.2 o ho
  unfold wp_X2_stepBehind
  rw [putS_P b S μ (by omega), f1, g1 hw]
  unfold wayA at h
  rcases (hO o ho).1 with hu | hu <;> rcases (hO p hp).1 with hv | hv
  · exact absurd (hu.trans hv.symm) hne
  · rw [if_pos hv] at h
    exact br_t hu h
  · rw [if_neg (by rw [hv]; decide)] at h
    refine br_f (by rw [hu]; decide) ?_
    rw [Int32.sub_eq_add_neg]
    exact h
  · exact absurd (hu.trans hv.symm) hne
/-! ===== counting ===== -/
abbrev a1A (A : Mem) (p : Nat) (s : Int32) : Nat := if A (p + 1) 2 = 1 ∧ A (p + 1) 3 = s then 1 else 0
theorem cnt_congr {A B : Mem} {s : Int32} : ∀ {n : Nat}, (∀ q, q < n → B (q + 1) 2 = A (q + 1) 2 ∧ B (q + 1) 3 = A (q + 1) 3) → cntA B s n = cntA A s n
  | 0, _ => rfl
  | n + 1, h => by
    unfold cntA
    rw [cnt_congr (n := n) (fun q hq => h q (by omega)), (h n (by omega)).1, (h n (by omega)).2]
theorem cnt_mod {A B : Mem} {s : Int32} {p : Nat} : ∀ {n : Nat}, p < n → (∀ q, q < n → q ≠ p → B (q + 1) 2 = A (q + 1) 2 ∧ B (q + 1) 3 = A (q + 1) 3) → cntA B s n + a1A A p s = cntA A s n + a1A B p s
  | 0, h, _ => by omega
  | n + 1, h, hq => by
    by_cases hp : p = n
    · subst hp
      unfold cntA
      rw [cnt_congr (A := A) (B := B) (n := p) (fun q h2 => hq q (by omega) (by omega))]
      unfold a1A
      omega
    · have ih := cnt_mod (A := A) (B := B) (s := s) (p := p) (n := n) (by omega) (fun q h2 h3 => hq q (by omega) h3)
      unfold cntA
      rw [(hq n (by omega) (by omega)).1, (hq n (by omega) (by omega)).2]
      unfold a1A at ih ⊢
      omega
theorem cnt_pos {A : Mem} {s : Int32} {p : Nat} : ∀ {n : Nat}, p < n → a1A A p s ≤ cntA A s n
  | 0, h => by omega
  | n + 1, h => by
    unfold cntA
    by_cases hp : p = n
    · subst hp
      unfold a1A
      omega
    · have ih := cnt_pos (A := A) (s := s) (p := p) (n := n) (by omega)
      omega
theorem cnt_le {A : Mem} {s : Int32} : ∀ n : Nat, cntA A s n ≤ n
  | 0 => Nat.le_refl 0
  | n + 1 => by
    have ih := cnt_le (A := A) (s := s) n
    unfold cntA
    split <;> omega
/-! ===== bring ===== -/
def decS (S : Mem) (p : Nat) : Mem := if stp (S (4 + p) 3) then up2 S 3 (S (4 + p) 3).toNatClampNeg (S 3 (S (4 + p) 3).toNatClampNeg - 1) else S
def incS (S : Mem) (p : Nat) (to : Int32) : Mem := if stp to then up2 S 3 to.toNatClampNeg (S 3 to.toNatClampNeg + 1) else up2 S (4 + p) 7 (S 0 5 + 1)
def setS (S : Mem) (p : Nat) (to pl d : Int32) : Mem := up2 (up2 (up2 (up2 S (4 + p) 3 to) (4 + p) 2 pl) (4 + p) 9 d) (4 + p) 8 0
def bringS (S : Mem) (p : Nat) (to pl d : Int32) : Mem := setS (incS (decS S p) p to) p to pl d
theorem c_bring23 {b p : Nat} {to pl d : Int32} {S μ : Mem} {K : Mem → Prop} (hp : p < 24) (h : K (putS b (setS (incS S p to) p to pl d) μ)) : wp_X3_bring_B23 b (b + 2 + 2 + p) to pl d K (putS b S μ) := by
  unfold wp_X3_bring_B23
  unfold incS at h
  refine c_isStep (fun q => br_f (by decide) ?_) (fun q => br_t rfl ?_)
  · rw [if_pos q] at h
    refine ⟨stp_in q, stp_in q, nm_e ?_⟩
    rw [putS_at b S μ (by omega), putS_up b S μ (by omega)]
    refine nm_e ?_
    rw [putS_upP b _ μ hp]
    refine nm_e ?_
    rw [putS_upP b _ μ hp]
    refine nm_e ?_
    rw [putS_upP b _ μ hp]
    refine nm_e ?_
    rw [putS_upP b _ μ hp]
    exact h
  · rw [if_neg q] at h
    refine nm_e ?_
    rw [putS_b, putS_upP b _ μ hp]
    refine nm_e ?_
    rw [putS_upP b _ μ hp]
    refine nm_e ?_
    rw [putS_upP b _ μ hp]
    refine nm_e ?_
    rw [putS_upP b _ μ hp]
    refine nm_e ?_
    rw [putS_upP b _ μ hp]
    exact h
theorem c_bring {b p : Nat} {to pl d : Int32} {S μ : Mem} {K : Mem → Prop} (hp : p < 24) (h : K (putS b (bringS S p to pl d) μ)) : wp_X3_bring b (b + 2 + 2 + p) to pl d (putS b S μ) K := by
  unfold wp_X3_bring
  unfold bringS decS at h
  rw [putS_P b S μ hp]
  refine c_isStep (fun q => br_f (by decide) ?_) (fun q => br_t rfl ?_)
  · rw [if_pos q] at h
    rw [putS_P b S μ hp]
    refine ⟨stp_in q, stp_in q, nm_e ?_⟩
    rw [putS_at b S μ (by omega), putS_up b S μ (by omega)]
    exact c_bring23 hp h
  · rw [if_neg q] at h
    exact c_bring23 hp h


/-! ONE STAIRCASE OBJECT: what a memory holds; what its calls tell -/
def SlZ (μ : Mem) (k : Nat) (z : Option (Mem × Nat × Nat)) : Prop := (z = none → μ 228 k = 0) ∧ ∀ B m u, z = some (B, m, u) → μ 228 k = 1 ∧ u ≤ 9999 ∧ InvA B m u ∧ RelC (getS (231 + 28 * k) μ) B m
def Ob (μ A : Mem) (n t : Nat) (Z : Nat → Option (Mem × Nat × Nat)) (L : Nat) (c : Nat → Int32) : Prop :=
  t ≤ 9999 ∧ InvA A n t ∧ RelC (getS 1 μ) A n ∧ (∃ g R, HistC μ g R) ∧ (∀ k, k < 2 → SlZ μ k (Z k)) ∧ L ≤ 60 ∧ μ 229 1 = nI L ∧ ∀ i, i < L → μ 230 i = c i
theorem slz_fr {μ ν : Mem} {k : Nat} {z : Option (Mem × Nat × Nat)} (hk : k < 2) (h : ∀ a, 231 ≤ a → a < 287 → ν a = μ a) (h8 : ν 228 = μ 228) (hS : SlZ μ k z) : SlZ ν k z := by
  refine ⟨fun e => by rw [h8]; exact hS.1 e, fun B m u e => ?_⟩
  obtain ⟨a1, a2, a3, a4⟩ := hS.2 B m u e
  exact ⟨by rw [h8]; exact a1, a2, a3, relc_congr (getS_eq (fun a x y => h a (by omega) (by omega))) a4⟩
theorem ob_fr {μ ν A A' : Mem} {n n' t t' L : Nat} {Z : Nat → Option (Mem × Nat × Nat)} {c : Nat → Int32} (h : Ob μ A n t Z L c) (ht : t' ≤ 9999) (hI : InvA A' n' t') (hR : RelC (getS 1 ν) A' n') (hH : ∃ g R, HistC ν g R) (h8 : ν 228 = μ 228) (hs : ∀ a, 231 ≤ a → a < 287 → ν a = μ a) (h9 : ν 229 = μ 229) (h0 : ν 230 = μ 230) : Ob ν A' n' t' Z L c := by
  obtain ⟨-, -, -, -, o5, o6, o7, o8⟩ := h
  exact ⟨ht, hI, hR, hH, fun k hk => slz_fr hk hs h8 (o5 k hk), o6, by rw [h9]; exact o7, fun i hi => by rw [h0]; exact o8 i hi⟩
theorem ob_tr {μ ω A : Mem} {n t L : Nat} {Z : Nat → Option (Mem × Nat × Nat)} {c : Nat → Int32} (hT : Tr ω μ) (h : Ob μ A n t Z L c) : Ob ω A n t Z L c := by
  refine ob_fr h h.1 h.2.1 (relc_congr (getS_eq (fun a x y => hT a (by omega))) h.2.2.1) ?_ (hT 228 (by omega)) (fun a x y => hT a (by omega)) (hT 229 (by omega)) (hT 230 (by omega))
  obtain ⟨g, R, hH⟩ := h.2.2.2.1
  exact ⟨g, R, hist_fr (fun a x y => hT a (by omega)) hH⟩
section OB
variable {μ A : Mem} {n t L : Nat} {Z : Nat → Option (Mem × Nat × Nat)} {c : Nat → Int32} {K : Int32 → Mem → Prop}
theorem ob_n (h : Ob μ A n t Z L c) : n ≤ 24 := h.2.1.1
theorem ob_st (h : Ob μ A n t Z L c) : RelSt (getS 1 μ) (rowA A) := of_abs h.1 h.2.1 h.2.2.1
theorem isPer_t {p : Nat} (h : Ob μ A n t Z L c) (hp : p < n) (hK : K 1 μ) : wp_X4_isPerson (nI p) μ K := by
  have hn := ob_n h
  refine c_isPerson hn h.2.2.1.2.2.1 (fun _ _ _ => hK) (fun z => ?_)
  rcases z with z | z
  · exact absurd z (nI_pos (by omega))
  · exact absurd z (nI_ge hp (by omega))
theorem isPer_f {x : Int32} (h : Ob μ A n t Z L c) (hx : x < 0 ∨ nI n ≤ x) (hK : K 0 μ) : wp_X4_isPerson x μ K := by
  have hn := ob_n h
  refine c_isPerson hn h.2.2.1.2.2.1 (fun p hp e => ?_) (fun _ => hK)
  subst e
  rcases hx with z | z
  · exact absurd z (nI_pos (by omega))
  · exact absurd z (nI_ge hp (by omega))
theorem sp_person {p k : Nat} (h : Ob μ A n t Z L c) (hp : p < n) (hk : k < 9) (hK : K (A (p + 1) k) μ) : wp_X4_person (nI p) (nI k) μ K := by
  have hn := ob_n h
  have hR := h.2.2.1
  unfold wp_X4_person
  refine isPer_t h hp (br_nt (by decide) ⟨vp_in_nI (by omega) (by omega), ?_⟩)
  rw [nI_clamp (by omega)]
  have hrel : RelP (μ (3 + 2 + p)) (A (p + 1)) := by
    have := hR.2.2.2.2.2.2.2 p hp
    unfold getS at this
    rw [show 3 + 2 + p = 1 + (4 + p) by omega]
    exact this
  refine c_tell hrel (h.2.1.2.2.2.2.1 p hp) (fun j hj e => ?_) (fun z => ?_)
  · have : k = j := nI_inj (by omega) (by omega) e
    subst this
    exact hK
  · rcases z with z | z
    · exact absurd z (nI_pos (by omega))
    · exact absurd z (nI_nlt (a := 8) (by omega) (by omega))
theorem sp_personX {x y : Int32} (h : Ob μ A n t Z L c) (hx : x < 0 ∨ nI n ≤ x) (hK : K (-1) μ) : wp_X4_person x y μ K := by
  unfold wp_X4_person
  exact isPer_f h hx (br_nf rfl hK)
def stA (A : Mem) (n s k : Nat) : Int32 := if k = 0 then (if lndA A (nI s) then 1 else 0) else if k = 1 then nI (cntA A (nI s) n) else if k = 2 then roomA A n (nI s) else oI (hiA A (nI s) n)
theorem sp_step {s k : Nat} (h : Ob μ A n t Z L c) (hs : s < 12) (hk : k < 4) (hK : K (stA A n s k) μ) : wp_X4_step (nI s) (nI k) μ K := by
  have hn := ob_n h
  have hR := h.2.2.1
  have q : stp (nI s) := stp_of hs
  have hi : (nI k).toInt = k := nI_toInt (by omega)
  unfold wp_X4_step
  refine c_isStep (fun _ => br_nt (by decide) ?_) (fun z => absurd q z)
  unfold stA at hK
  refine ⟨fun z => by omega, fun z => ?_, fun z => ?_, fun z => ?_, fun z => ?_⟩
  · have : k = 0 := by omega
    subst this
    rw [if_pos rfl] at hK
    refine at_b (b := 1) (P := fun ν => wp_X3_isLanding 1 (nI s) ν _) ?_
    refine c_isLanding (A := A) hR.2.2.2.1 (fun hl => br_f (by decide) ?_) (fun hl => br_t rfl ?_)
    · rw [putS_get]; rw [if_pos hl] at hK; exact hK
    · rw [putS_get]; rw [if_neg hl] at hK; exact hK
  · have : k = 1 := by omega
    subst this
    rw [if_neg (by omega), if_pos rfl] at hK
    refine at_b (b := 1) (P := fun ν => wp_X3_crowdOn 1 (nI s) ν _) (c_crowdOn hR q ?_)
    rw [putS_get]; exact hK
  · have : k = 2 := by omega
    subst this
    rw [if_neg (by omega), if_neg (by omega), if_pos rfl] at hK
    refine at_b (b := 1) (P := fun ν => wp_X3_roomOn 1 (nI s) ν _) (c_roomOn hR q ?_)
    rw [putS_get]; exact hK
  · have : k = 3 := by omega
    subst this
    rw [if_neg (by omega), if_neg (by omega), if_neg (by omega)] at hK
    refine at_b (b := 1) (P := fun ν => wp_X3_highestOn 1 (nI s) ν _) (c_highestOn hR h.2.1.2.2.2.2.1 ?_)
    rw [putS_get]; exact hK
def cnA (A : Mem) (n k : Nat) : Int32 := if k < 3 then A 0 k else if k = 3 then A 0 3 else if k = 4 then nI n else if k < 9 then nI (whoA A (nI (k - 5)) n) else if k = 9 then A 0 5 else A 0 (k - 4)
theorem cn_10 (A : Mem) (n : Nat) : cnA A n 10 = A 0 6 := rfl
theorem cn_11 (A : Mem) (n : Nat) : cnA A n 11 = A 0 7 := rfl
theorem cn_12 (A : Mem) (n : Nat) : cnA A n 12 = A 0 8 := rfl
theorem isSet_f {x : Int32} (hx : 2 < x) (hK : K 0 μ) : wp_X4_isSetting x μ K := by
  unfold wp_X4_isSetting
  exact ⟨fun _ => hK, fun _ => ⟨fun _ => hK, fun z => absurd hx z⟩⟩
theorem isSet_t {k : Nat} (hk : k < 3) (hK : K 1 μ) : wp_X4_isSetting (nI k) μ K := by
  unfold wp_X4_isSetting
  exact ⟨fun z => absurd z (nI_pos (by omega)), fun _ => ⟨fun z => absurd z (nI_nlt (a := 2) (by omega) (by omega)), fun _ => hK⟩⟩
theorem sp_count {k : Nat} (h : Ob μ A n t Z L c) (hk : k < 13) (hK : K (cnA A n k) μ) : wp_X4_count (nI k) μ K := by
  have hn := ob_n h
  have hR := h.2.2.1
  have hA := h.2.1
  have hO := hA.2.2.2.2.1
  obtain ⟨t6, t7, t8⟩ := hA.2.2.2.2.2.2.1
  obtain ⟨-, -, s4, s3, s5, rs, -, -⟩ := id hR
  have hi : (nI k).toInt = k := nI_toInt (by omega)
  unfold wp_X4_count
  by_cases h3 : k < 3
  · refine isSet_t h3 (br_f (by decide) ⟨vp_in_nI h3 (by omega), ?_⟩)
    rw [nI_clamp (by omega)]
    unfold cnA at hK
    rw [if_pos h3, ← rs k h3] at hK
    exact hK
  · refine isSet_f (nI_lt (a := 2) (by omega) (by omega)) (br_t rfl ?_)
    refine ⟨fun z => by omega, fun z => ?_, fun z => ?_, fun z => ?_, fun z => ?_, fun z => ?_, fun z => ?_, fun z => ?_, fun z => ?_, fun z => ?_, fun z => ?_, fun z => by omega, fun z => by omega⟩
    · have : k = 3 := by omega
      subst this
      have e : μ 1 5 = A 0 3 := s5
      rw [e]; exact hK
    · have : k = 4 := by omega
      subst this
      have e : μ 1 4 = nI n := s4
      rw [e]; exact hK
    · have : k = 5 := by omega
      subst this
      exact c_who1 hR hK
    · have : k = 6 := by omega
      subst this
      exact c_who1 hR hK
    · have : k = 7 := by omega
      subst this
      exact c_who1 hR hK
    · have : k = 8 := by omega
      subst this
      exact c_who1 hR hK
    · have : k = 9 := by omega
      subst this
      have e : μ 1 3 = A 0 5 := s3
      rw [e]; exact hK
    · have : k = 10 := by omega
      subst this
      rw [cn_10] at hK
      exact c_sum1 (k := 6) (by omega) rfl hR hO (by rw [← t6]; exact hK)
    · have : k = 11 := by omega
      subst this
      rw [cn_11] at hK
      exact c_sum1 (k := 5) (by omega) rfl hR hO (by rw [← t7]; exact hK)
    · have : k = 12 := by omega
      subst this
      rw [cn_12] at hK
      exact c_sum1 (k := 4) (by omega) rfl hR hO (by rw [← t8]; exact hK)
theorem sp_count14 (hK : ∀ r, K r μ) : wp_X4_count 14 μ K := by
  unfold wp_X4_count
  refine isSet_f (by decide) (br_t rfl ?_)
  have hi : (14 : Int32).toInt = 14 := rfl
  exact ⟨fun z => by omega, fun z => by omega, fun z => by omega, fun z => by omega, fun z => by omega, fun z => by omega, fun z => by omega, fun z => by omega, fun z => by omega, fun z => by omega, fun z => by omega, fun z => by omega, fun _ => hK _⟩
/-! what if -/
theorem sp_does {p : Nat} (h : Ob μ A n t Z L c) (hp : p < n) (hK : ∀ ω, Ob ω A n t Z L c → K (tickA A n (p + 1) 9) ω) : wp_X4_does (nI p) μ K := by
  have hn := ob_n h
  unfold wp_X4_does
  refine isPer_t h hp (br_nt (by decide) ?_)
  refine c_copy (d := 29) (q := 1) (Or.inr (by omega)) (ob_st h) (fun S' _ hS' => ?_)
  refine c_tick (hS' _ _ h.2.2.1) h.2.1.2.2.2.2.1 (fun T hT hD => ⟨vp_in_nI (by omega) (by omega), ?_⟩)
  rw [nI_clamp (by omega)]
  have e1 : putS 29 T μ (31 + 2 + p) 9 = tickA A n (p + 1) 9 := by
    rw [← hD p hp, show 31 + 2 + p = 29 + 2 + 2 + p by omega, putS_P _ _ _ (by omega)]
  rw [e1]
  exact hK _ (ob_tr tr_put h)
/-- when somebody has arrived: the search from tick j on -/
def uaL (A : Mem) (n p : Nat) : Nat → Nat → Int32
  | 0, j => if tkA A n j (p + 1) 2 = 2 then nI j else -6
  | d + 1, j => if tkA A n j (p + 1) 2 = 0 ∨ tkA A n j (p + 1) 2 = 1 then uaL A n p d (j + 1) else if tkA A n j (p + 1) 2 = 2 then nI j else -6
theorem sp_untilArrived {p : Nat} (h : Ob μ A n t Z L c) (hp : p < n) (hK : ∀ ω, Ob ω A n t Z L c → K (uaL A n p 200 0) ω) : wp_X4_untilArrived (nI p) μ K := by
  have hn := ob_n h
  have hA := h.2.1
  unfold wp_X4_untilArrived
  refine isPer_t h hp (br_nt (by decide) ?_)
  refine c_copy (d := 29) (q := 1) (Or.inr (by omega)) (ob_st h) (fun S' _ hS' => ⟨vp_in_nI (by omega) (by omega), ?_⟩)
  rw [nI_clamp (by omega)]
  have key : ∀ d j T, j + d = 200 → (∀ ω, Ob ω A n t Z L c → K (uaL A n p d j) ω) → RelC T (tkA A n j) n → wp_X4_untilArrived_L33 (31 + 2 + p) K (d + 1) (nI j) (putS 29 T μ) := by
    intro d
    induction d with
    | zero =>
      intro j T hj hK hT
      have e2 : putS 29 T μ (31 + 2 + p) 2 = tkA A n j (p + 1) 2 := by
        rw [← (hT.2.2.2.2.2.2.2 p hp).1.2.2.1, show 31 + 2 + p = 29 + 2 + 2 + p by omega, putS_P _ _ _ (by omega)]
      have := hK _ (ob_tr (tr_put (S := T)) h)
      unfold uaL at this
      rw [wp_X4_untilArrived_L33_s]
      simp only
      refine br_t (nI_le (a := 200) (by omega) (by omega)) ?_
      rw [e2]
      refine ⟨fun z => ?_, fun z => ?_⟩
      · rw [if_neg z] at this; exact this
      · rw [if_pos z] at this; exact this
    | succ d ih =>
      intro j T hj hK hT
      have e2 : putS 29 T μ (31 + 2 + p) 2 = tkA A n j (p + 1) 2 := by
        rw [← (hT.2.2.2.2.2.2.2 p hp).1.2.2.1, show 31 + 2 + p = 29 + 2 + 2 + p by omega, putS_P _ _ _ (by omega)]
      rw [wp_X4_untilArrived_L33_s]
      simp only
      refine br_f (nI_ge (b := 200) (by omega) (by omega)) ?_
      refine c_isOnWay (fun q => br_f (by decide) ?_) (fun q => br_t rfl ?_)
      · rw [e2] at q
        refine c_tick hT (tk_inv hA j).2.2.2.2.1 (fun T' hT' _ => ?_)
        rw [nI_1]
        refine ih (j + 1) T' (by omega) (fun ω hω => ?_) hT'
        have := hK ω hω
        unfold uaL at this
        rw [if_pos q] at this
        exact this
      · rw [e2] at q ⊢
        have := hK _ (ob_tr (tr_put (S := T)) h)
        unfold uaL at this
        rw [if_neg q] at this
        refine ⟨fun z => ?_, fun z => ?_⟩
        · rw [if_neg z] at this; exact this
        · rw [if_pos z] at this; exact this
  exact ⟨201, key 200 0 S' (by omega) hK (hS' _ _ h.2.2.1)⟩
/-- how many ticks the class tries out -/
def tnA (A : Mem) (n : Nat) : Nat → Nat → Nat
  | 0, j => j
  | d + 1, j => if wayN (tkA A n j) n = true then tnA A n d (j + 1) else j
theorem tn_le {A : Mem} {n : Nat} : ∀ d j, j ≤ tnA A n d j ∧ tnA A n d j ≤ j + d
  | 0, j => ⟨Nat.le_refl _, Nat.le_refl _⟩
  | d + 1, j => by
    unfold tnA
    split
    · have := tn_le (A := A) (n := n) d (j + 1)
      omega
    · omega
theorem tn_end {A : Mem} {n : Nat} : ∀ d j, tnA A n d j = j + d ∨ ¬ wayN (tkA A n (tnA A n d j)) n = true
  | 0, j => Or.inl rfl
  | d + 1, j => by
    unfold tnA
    split
    · rcases tn_end (A := A) (n := n) d (j + 1) with e | e
      · exact Or.inl (by omega)
      · exact Or.inr e
    · rename_i hc
      exact Or.inr hc
theorem c_tryN {A μ S : Mem} {m n t : Nat} {K : Int32 → Mem → Prop} (hm : m ≤ 200) (hI : InvA A n t) (hR : RelC S A n) (hK0 : ∀ S', RelC S' (tkA A n (tnA A n m 0)) n → K (nI (tnA A n m 0)) (putS 29 S' μ)) : wp_X4_tryOut (nI m) (putS 29 S μ) K := by
  have key : ∀ d j S', j + d = m → RelC S' (tkA A n j) n → (∀ S', RelC S' (tkA A n (tnA A n d j)) n → K (nI (tnA A n d j)) (putS 29 S' μ)) → wp_X4_tryOut_L2 (nI m) K (d + 1) (nI j) (putS 29 S' μ) := by
    intro d
    induction d with
    | zero =>
      intro j S' hj hS' hK
      have : j = m := by omega
      subst this
      rw [wp_X4_tryOut_L2_s]
      simp only
      exact br_t (nI_le (Nat.le_refl _) (by omega)) (hK S' hS')
    | succ d ih =>
      intro j S' hj hS' hK
      rw [wp_X4_tryOut_L2_s]
      simp only
      refine br_f (nI_ge (by omega) (by omega)) ?_
      refine c_anybody hS' (fun q => br_f (by decide) ?_) (fun q => br_t rfl ?_)
      · refine c_tick hS' (tk_inv hI j).2.2.2.2.1 (fun T hT _ => ?_)
        rw [nI_1]
        refine ih (j + 1) T (by omega) hT (fun S2 h2 => ?_)
        have e : tnA A n (d + 1) j = tnA A n d (j + 1) := by conv => lhs; unfold tnA; rw [if_pos q]
        have := hK S2 (by rw [e]; exact h2)
        rw [e] at this
        exact this
      · have e : tnA A n (d + 1) j = j := by conv => lhs; unfold tnA; rw [if_neg q]
        have := hK S' (by rw [e]; exact hS')
        rw [e] at this
        exact this
  exact ⟨m + 1, key m 0 S (by omega) hR hK0⟩
def ueA (A : Mem) (n : Nat) : Int32 := if wayN (tkA A n (tnA A n 200 0)) n = true then -6 else nI (tnA A n 200 0)
theorem sp_untilEmpty (h : Ob μ A n t Z L c) (hK : ∀ ω, Ob ω A n t Z L c → K (ueA A n) ω) : wp_X4_untilEmpty μ K := by
  unfold wp_X4_untilEmpty
  refine c_copy (d := 29) (q := 1) (Or.inr (by omega)) (ob_st h) (fun S' _ hS' => ?_)
  refine c_tryN (m := 200) (by omega) h.2.1 (hS' _ _ h.2.2.1) (fun T hT => ?_)
  have := hK _ (ob_tr (tr_put (S := T)) h)
  unfold ueA at this
  refine c_anybody hT (fun q => br_f (by decide) ?_) (fun q => br_t rfl ?_)
  · rw [if_pos q] at this; exact this
  · rw [if_neg q] at this; exact this
theorem sp_ifPassed {m k : Nat} (h : Ob μ A n t Z L c) (hm1 : 1 ≤ m) (hm : m ≤ 200) (hk : k < 4) (hK : ∀ ω, Ob ω A n t Z L c → K (mvA A (tkA A n m) n k) ω) : wp_X4_ifPassed (nI m) (nI k) μ K := by
  have hA := h.2.1
  unfold wp_X4_ifPassed
  refine br_f (nI_nlt (a := m) (b := 1) (by omega) (by omega)) (br_f (nI_nlt (a := 200) (b := m) (by omega) (by omega)) (br_f (nI_pos (by omega)) (br_t (nI_le (b := 3) (by omega) (by omega)) ?_)))
  refine c_copy (d := 29) (q := 1) (Or.inr (by omega)) (ob_st h) (fun S' _ hS' => ?_)
  refine c_tryN (m := m) (by omega) hA (hS' _ _ h.2.2.1) (fun T hT => ?_)
  have hTr : Tr (putS 29 T μ) μ := tr_put
  have hR1 : RelC (getS 1 (putS 29 T μ)) A n := relc_congr (getS_eq (fun a u v => hTr a (by omega))) h.2.2.1
  have hj := (tn_le (A := A) (n := n) m 0).2
  have same := try_same hA (j := tnA A n m 0) (m := m) (by omega) ((tn_end (A := A) (n := n) m 0).imp (fun e => by omega) id)
  have hIk : (nI k).toInt = k := nI_toInt (by omega)
  have ew : ∀ w : Int32, whoA (tkA A n m) w n = whoA (tkA A n (tnA A n m 0)) w n := fun w => who_congr (fun q _ => same (q + 1) 2 (by omega) (by omega))
  have hOj := (tk_inv hA (tnA A n m 0)).2.2.2.2.1
  have hTj := (tk_inv hA (tnA A n m 0)).2.2.2.2.2.2.1
  have hT0 := hA.2.2.2.2.2.2.1
  have e6 : sumA (tkA A n (tnA A n m 0)) 6 n = tkA A n m 0 6 := by rw [← hTj.1, same 0 6 (by omega) (by omega)]
  have e8 : sumA (tkA A n (tnA A n m 0)) 4 n = tkA A n m 0 8 := by rw [← hTj.2.2, same 0 8 (by omega) (by omega)]
  have ref := hK _ (ob_tr (tr_put (S := T)) h)
  have hk4 : k = 0 ∨ k = 1 ∨ k = 2 ∨ k = 3 := by omega
  rcases hk4 with rfl | rfl | rfl | rfl
  · refine ⟨fun c => by omega, fun _ => ?_, fun c => by omega, fun c => by omega⟩
    refine c_peopleWho hT (c_who1 hR1 ?_)
    rw [← ew]
    exact ref
  · refine ⟨fun c => by omega, fun c => by omega, fun _ => ?_, fun c => by omega⟩
    refine c_peopleWho hT (c_who1 hR1 ?_)
    rw [← ew]
    exact ref
  · refine ⟨fun c => by omega, fun c => by omega, fun c => by omega, fun _ => ?_⟩
    refine c_sumOf (k := 6) (by omega) rfl hT hOj (c_sum1 (k := 6) (by omega) rfl hR1 hA.2.2.2.2.1 ?_)
    rw [e6, ← hT0.1]
    exact ref
  · refine ⟨fun _ => ?_, fun c => by omega, fun c => by omega, fun c => by omega⟩
    refine c_sumOf (k := 4) (by omega) rfl hT hOj (c_sum1 (k := 4) (by omega) rfl hR1 hA.2.2.2.2.1 ?_)
    rw [e8, ← hT0.2.2]
    exact ref
theorem sp_bestLanding (h : Ob μ A n t Z L c) (hK : ∀ ω, Ob ω A n t Z L c → K (blA A n 12).1 ω) : wp_X4_bestLanding μ K := by
  have hA := h.2.1
  have key : ∀ d s ν, s + d = 12 → Tr ν μ → wp_X4_bestLanding_L7 K (d + 1) (blA A n s).1 (blA A n s).2 (nI s) ν := by
    intro d
    induction d with
    | zero =>
      intro s ν hs hT
      have : s = 12 := by omega
      subst this
      rw [wp_X4_bestLanding_L7_s]
      simp only
      exact br_t (by decide) (hK ν (ob_tr hT h))
    | succ d ih =>
      intro s ν hs hT
      rw [wp_X4_bestLanding_L7_s]
      simp only
      refine br_f (nI_ge (b := 12) (by omega) (by omega)) ?_
      have hR1 : RelC (getS 1 ν) A n := relc_congr (getS_eq (fun a u v => hT a (by omega))) h.2.2.1
      have hN1 : RelSt (getS 1 ν) (rowA A) := relst_S (getS_eq (fun a u v => hT a (by omega))) (ob_st h)
      have eb : blA A n (s + 1) = blN A n s (blA A n s) := rfl
      refine at_b (b := 1) (P := fun ω => wp_X3_isLanding 1 (nI s) ω _) ?_
      refine c_isLanding (A := A) hR1.2.2.2.1 (fun hl => br_f (by decide) ?_) (fun hl => br_t rfl ?_)
      · rw [putS_get, nI_1]
        unfold blN at eb
        rw [if_pos hl] at eb
        have := ih (s + 1) ν (by omega) hT
        rw [eb] at this
        exact this
      · rw [putS_get]
        refine c_copy (d := 29) (q := 1) (Or.inr (by omega)) hN1 (fun S' _ hS' => nm_e ?_)
        have hS2 := hS' _ _ hR1
        rw [putS_up0, putS_b, hS2.2.2.2.1]
        refine c_tryOut (A := ldA A s) (n := n) (m := 50) (by omega) (ld_inv (by omega) hA hl) (relc_land hS2) (fun j T hj hend _ hT2 => ?_)
        have hldI := ld_inv (s := s) (by omega) hA hl
        have same := try_same hldI hj hend
        have hTj := (tk_inv hldI j).2.2.2.2.2.2.1
        have e6 : sumA (tkA (ldA A s) n j) 6 n = bwS A n s := by
          unfold bwS
          rw [← hTj.1, same 0 6 (by omega) (by omega)]
        refine c_sumOf (k := 6) (by omega) rfl hT2 (tk_inv hldI j).2.2.2.2.1 ?_
        rw [e6, nI_1]
        have hT3 : Tr (putS 29 T ν) μ := fun a ha => by rw [putS_ne _ _ _ (by omega), hT a ha]
        have go := ih (s + 1) _ (by omega) hT3
        unfold blN at eb
        rw [if_neg hl] at eb
        have take : blA A n (s + 1) = (nI s, bwS A n s) → wp_X4_bestLanding_L7 K (d + 1) (nI s) (bwS A n s) (nI (s + 1)) (putS 29 T ν) := fun e => by
          rw [e] at go
          exact go
        refine ⟨fun z => take (by rw [eb, if_pos (Or.inl z)]), fun z => ⟨fun z2 => ?_, fun z2 => take (by rw [eb, if_pos (Or.inr z2)])⟩⟩
        rw [eb, if_neg (fun u => u.elim z (fun v => v z2))] at go
        exact go
  exact ⟨13, key 12 0 μ (by omega) (fun _ _ => rfl)⟩
end OB

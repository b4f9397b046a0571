/-! THE REFERENCE'S TICK is tickA -/
theorem m_yields {o p : Nat} {a1 a2 : Int32} {A μ : Mem} {K : Int32 → Mem → Prop} (ho : o < 24) (hp : p < 24) (eo : a1 = nI o) (ep : a2 = nI p) (h1 : yldA A o p → K 1 (conA A μ)) (h0 : ¬ yldA A o p → K 0 (conA A μ)) : wp_X5_yields a1 a2 (conA A μ) K := by
  have key : ∀ s0 : Int32, (s0 = 0 ∨ s0 = 1) → (s0 = 1 ↔ (A (o + 1) 0 < A (p + 1) 0 ∨ (A (o + 1) 0 = A (p + 1) 0 ∧ A (p + 1) 1 = 0))) → wp_X5_yields_B44 a1 a2 s0 K (conA A μ) := by
    intro s0 hs hb
    unfold wp_X5_yields_B44
    refine m_get ho (k := 1) (by decide) eo rfl (m_get hp (k := 1) (by decide) ep rfl ⟨fun q => h0 (fun z => z.1 q), fun q => ⟨fun q2 => h0 (fun z => ?_), fun q2 => ?_⟩⟩)
    · have := hb.mpr z.2.1
      rw [q2] at this
      exact absurd this (by decide)
    · have hs1 : s0 = 1 := hs.resolve_left q2
      refine m_get hp (k := 8) (by decide) ep rfl ?_
      rw [conA_0 _ _ _ (by decide)]
      exact ⟨fun q3 => h0 (fun z => z.2.2 q3), fun q3 => h1 ⟨q, hb.mp hs1, q3⟩⟩
  unfold wp_X5_yields
  refine m_get ho (k := 0) (by decide) eo rfl (m_get hp (k := 0) (by decide) ep rfl ⟨fun q => ?_, fun q => ?_⟩)
  · exact key 1 (Or.inr rfl) ⟨fun _ => Or.inl q, fun _ => rfl⟩
  · refine m_get ho (k := 0) (by decide) eo rfl (m_get hp (k := 0) (by decide) ep rfl ⟨fun q2 => ?_, fun q2 => ?_⟩)
    · exact key 0 (Or.inl rfl) ⟨fun z => absurd z (by decide), fun z => (z.elim q (fun y => q2 y.1)).elim⟩
    · refine m_get hp (k := 1) (by decide) ep rfl ⟨fun q3 => ?_, fun q3 => ?_⟩
      · exact key 0 (Or.inl rfl) ⟨fun z => absurd z (by decide), fun z => (z.elim q (fun y => q3 y.2)).elim⟩
      · exact key 1 (Or.inr rfl) ⟨fun _ => Or.inr ⟨q2, q3⟩, fun _ => rfl⟩
theorem yrA_lt {A : Mem} {s : Int32} {p : Nat} : ∀ {n q : Nat}, yrA A s p n = some q → q < n ∧ (A (q + 1) 2 = 1 ∧ A (q + 1) 3 = s) ∧ yldA A q p
  | 0, q, h => by simp [yrA] at h
  | n + 1, q, h => by
    unfold yrA at h
    split at h
    · rename_i hc
      cases hy : yrA A s p n with
      | none =>
        rw [hy] at h
        simp only [yrP, Option.some.injEq] at h
        subst h
        exact ⟨by omega, hc⟩
      | some q2 =>
        rw [hy] at h
        simp only [yrP] at h
        split at h
        · simp only [Option.some.injEq] at h
          subst h
          exact ⟨by omega, hc⟩
        · simp only [Option.some.injEq] at h
          subst h
          have := yrA_lt hy
          exact ⟨by omega, this.2⟩
    · have := yrA_lt h
      exact ⟨by omega, this.2⟩
theorem oI_ne {q : Nat} (h : q < 24) : ¬ nI q = (-6 : Int32) := by
  intro e
  have h1 : (nI q).toInt = (-6 : Int32).toInt := by rw [e]
  rw [nI_toInt (by omega)] at h1
  have h2 : (-6 : Int32).toInt = -6 := by decide
  omega
theorem m_yielder {n p : Nat} {s a2 : Int32} {A μ : Mem} {K : Int32 → Mem → Prop} (hn : n ≤ 24) (h4 : A 0 4 = nI n) (hp : p < 24) (ep : a2 = nI p) (h : K (oI (yrA A s p n)) (conA A μ)) : wp_X5_yielder s a2 (conA A μ) K := by
  have key : ∀ d j, j + d = n → wp_X5_yielder_L6 s a2 K (d + 1) (oI (yrA A s p j)) (nI j) (conA A μ) := by
    intro d
    induction d with
    | zero =>
      intro j hj
      rw [wp_X5_yielder_L6_s]
      simp only
      rw [conA_0 _ _ _ (by decide), h4]
      have : j = n := by omega
      subst this
      exact br_t (nI_le (Nat.le_refl _) (by omega)) h
    | succ d ih =>
      intro j hj
      rw [wp_X5_yielder_L6_s]
      simp only
      rw [conA_0 _ _ _ (by decide), h4]
      refine br_f (nI_ge (by omega) (by omega)) ?_
      have h1 := ih (j + 1) (by omega)
      rw [← nI_1] at h1
      refine m_isAt (by omega) rfl (fun q => br_f (by decide) ?_) (fun q => br_t rfl ?_)
      · refine m_yields (by omega) hp rfl ep (fun q2 => br_f (by decide) ?_) (fun q2 => br_t rfl ?_)
        · have e : yrA A s p (j + 1) = yrP A j (yrA A s p j) := by rw [yrA, if_pos ⟨q, q2⟩]
          rw [e] at h1
          cases hy : yrA A s p j with
          | none =>
            rw [hy] at h1
            exact br_t rfl h1
          | some q3 =>
            rw [hy] at h1
            have hq := (yrA_lt hy).1
            refine br_f (oI_ne (by omega)) ?_
            refine m_get (p := j) (by omega) (k := 0) (by decide) rfl rfl (m_get (p := q3) (by omega) (k := 0) (by decide) rfl rfl ?_)
            unfold yrP at h1
            by_cases hc : A (j + 1) 0 < A (q3 + 1) 0
            · simp only [if_pos hc] at h1
              exact br_f (by rw [fa_lt] at hc; rw [fa_le]; omega) h1
            · simp only [if_neg hc] at h1
              exact br_t (by rw [fa_lt] at hc; rw [fa_le]; omega) h1
        · have e : yrA A s p (j + 1) = yrA A s p j := by rw [yrA, if_neg (fun z => q2 z.2)]
          rw [e] at h1
          exact h1
      · have e : yrA A s p (j + 1) = yrA A s p j := by rw [yrA, if_neg (fun z => q z.1)]
        rw [e] at h1
        exact h1
  exact ⟨n + 1, key n 0 (by omega)⟩
theorem m_ends {p : Nat} {a1 w : Int32} {A μ : Mem} {K : Mem → Prop} (hp : p < 24) (e : a1 = nI p) (h : K (conA (endsA A p w) μ)) : wp_X5_ends a1 w (conA A μ) K := by
  unfold wp_X5_ends
  unfold endsA at h
  refine m_lays hp (k := 2) (by decide) e rfl (m_lays hp (k := 3) (by decide) e rfl ?_)
  rw [conA_0 _ _ _ (by decide), show up2 (up2 A (p + 1) 2 w) (p + 1) 3 (-6) 0 3 = A 0 3 by simp [up2_app]]
  refine m_lays hp (k := 7) (by decide) e rfl (m_lays hp (k := 8) (by decide) e rfl ?_)
  subst e
  rw [nI_clamp (by omega)]
  refine ⟨fun q => ⟨vp_in_nI (by omega) (by omega), nm_e ?_⟩, fun q => ⟨vp_in_nI (by omega) (by omega), nm_e ?_⟩⟩
  · rw [if_neg q] at h
    rw [conA_did]
    exact h
  · rw [if_pos q] at h
    rw [conA_did]
    exact h
theorem m_goesTo {p : Nat} {a1 s d : Int32} {A μ : Mem} {K : Mem → Prop} (hp : p < 24) (e : a1 = nI p) (h : K (conA (goesA A p s d) μ)) : wp_X5_goesTo a1 s d (conA A μ) K := by
  unfold wp_X5_goesTo
  unfold goesA at h
  refine m_lays hp (k := 2) (by decide) e rfl (m_lays hp (k := 3) (by decide) e rfl (m_lays hp (k := 8) (by decide) e rfl ?_))
  subst e
  rw [nI_clamp (by omega)]
  refine ⟨vp_in_nI (by omega) (by omega), nm_e ?_⟩
  rw [conA_did]
  exact h
theorem m_bow {o p : Nat} {a1 a2 v3 : Int32} {A μ : Mem} {K : Int32 → Mem → Prop} (ho : o < 24) (hp : p < 24) (eo : a1 = nI o) (ep : a2 = nI p) (hs : stp v3 → K 1 (conA (goesA (bowA A o p) o v3 4) μ)) (hf : ¬ stp v3 → K 1 (conA (endsA (bowA A o p) o 3) μ)) : wp_X5_makesWay_B30 a1 a2 v3 K (conA A μ) := by
  unfold wp_X5_makesWay_B30
  refine m_get hp (k := 0) (by decide) ep rfl (m_get ho (k := 0) (by decide) eo rfl ?_)
  rw [conA_0 _ _ _ (by decide)]
  have eb : A 0 1 * ((A (p + 1) 0 - A (o + 1) 0) + 1) = bwA A o p := rfl
  rw [eb]
  refine m_adds ho (k := 6) (by decide) eo rfl (m_adds ho (k := 5) (by decide) eo rfl ?_)
  have e5 : up2 A (o + 1) 6 (A (o + 1) 6 + bwA A o p) (o + 1) 5 = A (o + 1) 5 := by simp [up2_app]
  rw [e5]
  refine nm_e ?_
  rw [conA_0 _ _ _ (by decide), conA_up0 _ _ _ _ (by decide)]
  have e6 : up2 (up2 A (o + 1) 6 (A (o + 1) 6 + bwA A o p)) (o + 1) 5 (A (o + 1) 5 + 1) 0 6 = A 0 6 := by simp [up2_app]
  rw [e6]
  refine nm_e ?_
  rw [conA_0 _ _ _ (by decide), conA_up0 _ _ _ _ (by decide)]
  have e7 : up2 (up2 (up2 A (o + 1) 6 (A (o + 1) 6 + bwA A o p)) (o + 1) 5 (A (o + 1) 5 + 1)) 0 6 (A 0 6 + bwA A o p) 0 7 = A 0 7 := by simp [up2_app]
  rw [e7]
  refine m_isStep (fun q => br_f (by decide) ?_) (fun q => br_t rfl ?_)
  · exact m_goesTo ho eo (hs q)
  · exact m_ends ho eo (hf q)
theorem m_makesWay {n o p : Nat} {a1 a2 : Int32} {A μ : Mem} {K : Int32 → Mem → Prop} (hn : n ≤ 24) (h4 : A 0 4 = nI n) (ho : o < 24) (hp : p < 24) (eo : a1 = nI o) (ep : a2 = nI p) (h1 : ∀ B, waysA A o p n = some B → K 1 (conA B μ)) (h0 : waysA A o p n = none → K 0 (conA A μ)) : wp_X5_makesWay a1 a2 (conA A μ) K := by
  unfold wp_X5_makesWay
  refine m_get ho (k := 3) (by decide) eo rfl (m_way hp ep ?_)
  unfold waysA at h1 h0
  refine m_isStep (fun q => br_f (by decide) ?_) (fun q => br_t rfl ?_)
  · rw [if_pos q] at h1 h0
    refine m_roomAt hn h4 ⟨fun q2 => ?_, fun q2 => ?_⟩
    · rw [if_pos q2] at h1
      exact m_bow ho hp eo ep (fun _ => h1 _ rfl) (fun z => absurd q z)
    · rw [if_neg q2] at h0
      exact h0 rfl
  · rw [if_neg q] at h1
    exact m_bow ho hp eo ep (fun z => absurd z q) (fun _ => h1 _ rfl)
theorem m_stay {p : Nat} {a1 : Int32} {A μ : Mem} {K : Mem → Prop} (hp : p < 24) (e : a1 = nI p) (h : K (conA (staysA A p) μ)) : wp_X5_acts_B80 a1 K (conA A μ) := by
  unfold wp_X5_acts_B80
  unfold staysA at h
  refine m_adds hp (k := 4) (by decide) e rfl (m_adds hp (k := 8) (by decide) e rfl ?_)
  have e8 : up2 A (p + 1) 4 (A (p + 1) 4 + 1) (p + 1) 8 = A (p + 1) 8 := by simp [up2_app]
  rw [e8]
  refine nm_e ?_
  rw [conA_0 _ _ _ (by decide), conA_up0 _ _ _ _ (by decide)]
  have e9 : up2 (up2 A (p + 1) 4 (A (p + 1) 4 + 1)) (p + 1) 8 (A (p + 1) 8 + 1) 0 8 = A 0 8 := by simp [up2_app]
  rw [e9]
  subst e
  rw [nI_clamp (by omega)]
  refine ⟨vp_in_nI (by omega) (by omega), nm_e ?_⟩
  rw [conA_did]
  exact h
theorem n_le0 {x : Int32} (h : 0 < x) : ¬ x ≤ 0 := by rw [fa_lt] at h; rw [fa_le]; omega
theorem n_lt0 {x : Int32} (h : ¬ 0 < x) : x ≤ 0 := by rw [fa_lt] at h; rw [fa_le]; omega
theorem m_acts {n p : Nat} {a1 : Int32} {A μ : Mem} {K : Mem → Prop} (hn : n ≤ 24) (h4 : A 0 4 = nI n) (hp : p < 24) (e : a1 = nI p) (h : K (conA (actsA A p n) μ)) : wp_X5_acts a1 (conA A μ) K := by
  unfold wp_X5_acts
  unfold actsA at h
  refine m_nextOf hp e (m_isStep (fun q => br_nt (by decide) ?_) (fun q => br_nf rfl ?_))
  · rw [if_pos q] at h
    refine m_roomAt hn h4 ?_
    by_cases q2 : 0 < roomA A n (nextA A p)
    · rw [if_pos q2] at h
      refine br_f (n_le0 q2) (br_f (by decide) ?_)
      unfold wp_X5_acts_B49
      exact br_nt (by decide) (m_goesTo hp e h)
    · rw [if_neg q2] at h
      refine br_t (n_lt0 q2) (br_t rfl ?_)
      refine m_yielder hn h4 hp e ?_
      unfold wp_X5_acts_B49
      refine ⟨fun z => absurd rfl z, fun _ => ?_⟩
      cases hy : yrA A (nextA A p) p n with
      | none =>
        rw [hy] at h
        exact br_t rfl (m_stay hp e h)
      | some o =>
        rw [hy] at h
        have ho := (yrA_lt hy).1
        refine br_f (oI_ne (by omega)) ?_
        refine m_makesWay hn h4 (by omega) hp rfl e (fun B hB => br_f (by decide) ?_) (fun hB => br_t rfl ?_)
        · simp only [ylA, hB, wyA] at h
          exact m_goesTo hp e h
        · simp only [ylA, hB, wyA] at h
          exact m_stay hp e h
  · rw [if_neg q] at h
    exact m_ends hp e h
/-- the number of people stays through a deed -/
theorem keep04_up {A : Mem} {i k : Nat} {v : Int32} (h : ¬ (0 = i ∧ 4 = k)) : up2 A i k v 0 4 = A 0 4 := by rw [up2_app, if_neg h]
theorem goesA_04 (A : Mem) (p : Nat) (s d : Int32) : goesA A p s d 0 4 = A 0 4 := by simp [goesA, up2_app]
theorem endsA_04 (A : Mem) (p : Nat) (w : Int32) : endsA A p w 0 4 = A 0 4 := by simp [endsA, up2_app]
theorem bowA_04 (A : Mem) (o p : Nat) : bowA A o p 0 4 = A 0 4 := by simp [bowA, up2_app]
theorem staysA_04 (A : Mem) (p : Nat) : staysA A p 0 4 = A 0 4 := by simp [staysA, up2_app]
theorem waysA_04 {A B : Mem} {o p n : Nat} (h : waysA A o p n = some B) : B 0 4 = A 0 4 := by
  unfold waysA at h
  split at h
  · split at h
    · cases h; rw [goesA_04, bowA_04]
    · cases h
  · cases h; rw [endsA_04, bowA_04]
theorem actsA_04 (A : Mem) (p n : Nat) : actsA A p n 0 4 = A 0 4 := by
  unfold actsA
  split
  · split
    · rw [goesA_04]
    · cases hy : yrA A (nextA A p) p n with
      | none => simp only [ylA]; rw [staysA_04]
      | some o =>
        simp only [ylA]
        cases hw : waysA A o p n with
        | none => simp only [wyA]; rw [staysA_04]
        | some B => simp only [wyA]; rw [goesA_04, waysA_04 hw]
  · rw [endsA_04]
theorem stepA_04 (A : Mem) (r : Int32) (p n : Nat) : stepA A r p n 0 4 = A 0 4 := by
  unfold stepA
  split
  · rw [actsA_04]
  · rfl
theorem rowsA_04 (A : Mem) (r : Int32) (n : Nat) : ∀ p, rowsA A r n p 0 4 = A 0 4
  | 0 => rfl
  | p + 1 => by rw [rowsA, stepA_04, rowsA_04]
theorem ranksA_04 (A : Mem) (n : Nat) : ∀ k, ranksA A n k 0 4 = A 0 4
  | 0 => rfl
  | k + 1 => by rw [ranksA, rowsA_04, ranksA_04]
theorem clearA_04 (A : Mem) : clearA A 0 4 = A 0 4 := by simp [clearA]
theorem tickA_04 (A : Mem) (n : Nat) : tickA A n 0 4 = A 0 4 := by simp [tickA, up2_app, ranksA_04, clearA_04]
theorem lt2 (x : Int32) : ¬ 2 ≤ x ↔ x < 2 := by rw [fa_le, fa_lt]; omega
theorem m_rows {n : Nat} {r : Int32} {A μ : Mem} {K : Mem → Prop} {E : Int32 → Mem → Prop} (hn : n ≤ 24) (h4 : A 0 4 = nI n) (h : E (r + (-1)) (conA (rowsA A r n n) μ)) : ∃ m, wp_X5_ticks_L30 r K E m 0 (conA A μ) := by
  have key : ∀ d j, j + d = n → wp_X5_ticks_L30 r K E (d + 1) (nI j) (conA (rowsA A r n j) μ) := by
    intro d
    induction d with
    | zero =>
      intro j hj
      rw [wp_X5_ticks_L30_s]
      simp only
      rw [conA_0 _ _ _ (by decide), rowsA_04, h4]
      have : j = n := by omega
      subst this
      exact br_t (nI_le (Nat.le_refl _) (by omega)) h
    | succ d ih =>
      intro j hj
      rw [wp_X5_ticks_L30_s]
      simp only
      rw [conA_0 _ _ _ (by decide), rowsA_04, h4]
      refine br_f (nI_ge (by omega) (by omega)) ?_
      have h1 := ih (j + 1) (by omega)
      rw [← nI_1, rowsA] at h1
      unfold stepA at h1
      refine m_get (p := j) (by omega) (k := 0) (by decide) rfl rfl ⟨fun q => ?_, fun q => ?_⟩
      · rw [if_neg (fun z => q z.1)] at h1
        exact h1
      · refine m_get (p := j) (by omega) (k := 2) (by decide) rfl rfl ⟨fun q2 => ?_, fun q2 => ⟨vp_in_nI (by omega) (by omega), ?_⟩⟩
        · rw [if_neg (fun z => ((lt2 _).mpr z.2.1) q2)] at h1
          exact h1
        · rw [nI_clamp (by omega), conA_293]
          refine ⟨fun q3 => ?_, fun q3 => ?_⟩
          · rw [if_neg (fun z => q3 z.2.2)] at h1
            exact h1
          · rw [if_pos ⟨q, (lt2 _).mp q2, q3⟩] at h1
            exact m_acts hn (by rw [rowsA_04, h4]) (by omega) rfl h1
  exact ⟨n + 1, key n 0 (by omega)⟩
theorem m_ranks {n : Nat} {A μ : Mem} {K : Mem → Prop} (hn : n ≤ 24) (h4 : A 0 4 = nI n) (h : K (conA (up2 (ranksA A n 9) 0 3 (ranksA A n 9 0 3 + 1)) μ)) : ∃ m, wp_X5_ticks_L24 K m 9 (conA A μ) := by
  have key : ∀ d k, k + d = 9 → wp_X5_ticks_L24 K (d + 1) (nI (9 - k)) (conA (ranksA A n k) μ) := by
    intro d
    induction d with
    | zero =>
      intro k hk
      have : k = 9 := by omega
      subst this
      rw [wp_X5_ticks_L24_s]
      simp only
      rw [conA_0 _ _ _ (by decide)]
      refine br_t (by decide) (nm_e ?_)
      rw [conA_up0 _ _ _ _ (by decide)]
      exact h
    | succ d ih =>
      intro k hk
      rw [wp_X5_ticks_L24_s]
      simp only
      refine br_f (nI_nle (by omega) (by omega)) ?_
      refine m_rows hn (by rw [ranksA_04, h4]) ?_
      have h1 := ih (k + 1) (by omega)
      rw [ranksA] at h1
      rw [show 9 - k = (9 - (k + 1)) + 1 by omega, pk_m1, ← show 9 - k = (9 - (k + 1)) + 1 by omega]
      exact h1
  exact ⟨10, key 9 0 (by omega)⟩
def clrA (A : Mem) (j : Nat) : Mem := fun i k => if k = 9 ∧ 1 ≤ i ∧ i ≤ j then 0 else A i k
theorem clrA_s (A : Mem) (j : Nat) : up2 (clrA A j) (j + 1) 9 0 = clrA A (j + 1) := by
  funext a b
  rw [up2_app]
  unfold clrA
  by_cases h : a = j + 1 ∧ b = 9
  · rw [if_pos h, if_pos ⟨h.2, by omega, by omega⟩]
  · rw [if_neg h]
    by_cases h2 : b = 9 ∧ 1 ≤ a ∧ a ≤ j
    · rw [if_pos h2, if_pos ⟨h2.1, h2.2.1, by omega⟩]
    · rw [if_neg h2, if_neg (by omega)]
theorem m_ticks {n : Nat} {A μ : Mem} {K : Mem → Prop} (hn : n ≤ 24) (h4 : A 0 4 = nI n) (h : K (conA (tickA A n) μ)) : wp_X5_ticks (conA A μ) K := by
  have key : ∀ d j, j + d = 24 → wp_X5_ticks_L2 K (d + 1) (nI j) (conA (clrA A j) μ) := by
    intro d
    induction d with
    | zero =>
      intro j hj
      have : j = 24 := by omega
      subst this
      rw [wp_X5_ticks_L2_s]
      simp only
      refine br_t (by decide) ?_
      have e : clrA A 24 = clearA A := rfl
      rw [e]
      exact m_ranks hn (by rw [clearA_04, h4]) h
    | succ d ih =>
      intro j hj
      rw [wp_X5_ticks_L2_s]
      simp only
      refine br_f (nI_ge (b := 24) (by omega) (by omega)) ⟨vp_in_nI (by omega) (by omega), nm_e ?_⟩
      rw [nI_clamp (by omega), conA_did, clrA_s, nI_1]
      exact ih (j + 1) (by omega)
  refine ⟨25, ?_⟩
  have e : A = clrA A 0 := by
    funext a b
    unfold clrA
    rw [if_neg (by omega)]
  rw [e]
  exact key 24 0 (by omega)

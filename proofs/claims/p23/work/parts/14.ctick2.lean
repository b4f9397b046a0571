/-! THE CLASS'S TICK, the loops -/
theorem yrA_none {A : Mem} {s : Int32} {p : Nat} (h : A (p + 1) 8 < A 0 2) : ∀ n, yrA A s p n = none
  | 0 => rfl
  | n + 1 => by
    unfold yrA
    rw [if_neg (fun z => z.2.2.2 h)]
    exact yrA_none h n
theorem c_yieldsTo {q1 q2 : Nat} {μ : Mem} {K : Int32 → Mem → Prop} (h1 : (¬ μ q1 1 = μ q2 1 ∧ (μ q1 0 < μ q2 0 ∨ (μ q1 0 = μ q2 0 ∧ μ q2 1 = 0))) → K 1 μ) (h0 : ¬ (¬ μ q1 1 = μ q2 1 ∧ (μ q1 0 < μ q2 0 ∨ (μ q1 0 = μ q2 0 ∧ μ q2 1 = 0))) → K 0 μ) : wp_X2_yieldsTo q1 q2 μ K := by
  unfold wp_X2_yieldsTo
  refine ⟨fun a => h0 (fun z => z.1 a), fun a => ⟨fun b => h1 ⟨a, Or.inl b⟩, fun b => ⟨fun c => h0 (fun z => ?_), fun c => ⟨fun d => h0 (fun z => ?_), fun d => h1 ⟨a, Or.inr ⟨c.symm, d⟩⟩⟩⟩⟩⟩
  · exact z.2.elim b (fun y => c y.1.symm)
  · exact z.2.elim b (fun y => d y.2)
theorem c_yielderOn {b n p : Nat} {x : Int32} {S μ A : Mem} {K : Option Nat → Mem → Prop} (hR : RelC S A n) (hp : p < n) (hpat : ¬ A (p + 1) 8 < A 0 2) (h : K ((yrA A x p n).map (fun o => b + 2 + 2 + o)) (putS b S μ)) : wp_X3_yielderOn b x (b + 2 + 2 + p) (putS b S μ) K := by
  have hn := hR.1
  have rp := hR.2.2.2.2.2.2.2
  have key : ∀ d j, j + d = n → wp_X3_yielderOn_L5 b x (b + 2 + 2 + p) K (d + 1) ((yrA A x p j).map (fun o => b + 2 + 2 + o)) (nI j) (putS b S μ) := by
    intro d
    induction d with
    | zero =>
      intro j hj
      rw [wp_X3_yielderOn_L5_s]
      simp only
      rw [putS_b, hR.2.2.1]
      have : j = n := by omega
      subst this
      exact br_t (nI_le (Nat.le_refl _) (by omega)) h
    | succ d ih =>
      intro j hj
      rw [wp_X3_yielderOn_L5_s]
      simp only
      rw [putS_b, hR.2.2.1]
      have h1 := ih (j + 1) (by omega)
      rw [← nI_1] at h1
      refine br_f (nI_ge (by omega) (by omega)) ⟨vp_in_nI (by omega) (by omega), ?_⟩
      rw [nI_clamp (by omega)]
      have hj' := rp j (by omega)
      have hp' := rp p hp
      refine c_standsOn (fun q => br_f (by decide) ?_) (fun q => br_t rfl ?_)
      · rw [putS_P b S μ (by omega), at_iff hj'] at q
        refine c_yieldsTo (fun q2 => br_f (by decide) ?_) (fun q2 => br_t rfl ?_)
        · rw [putS_P b S μ (by omega), putS_P b S μ (by omega), hj'.1.1, hj'.1.2.1, hp'.1.1, hp'.1.2.1] at q2
          have e : yrA A x p (j + 1) = yrP A j (yrA A x p j) := by rw [yrA, if_pos ⟨q, q2.1, q2.2, hpat⟩]
          rw [e] at h1
          refine ⟨fun z => ?_, fun qx z => ?_⟩
          · cases hy : yrA A x p j with
            | none =>
              rw [hy] at h1
              exact h1
            | some o => rw [hy] at z; simp at z
          · cases hy : yrA A x p j with
            | none => rw [hy] at z; simp at z
            | some o =>
              rw [hy] at h1 z
              have ho := (yrA_lt hy).1
              simp only [Option.map_some, Option.some.injEq] at z
              subst z
              rw [putS_P b S μ (by omega), putS_P b S μ (by omega), hj'.1.1, (rp o (by omega)).1.1]
              unfold yrP at h1
              by_cases hc : A (j + 1) 0 < A (o + 1) 0
              · simp only [if_pos hc] at h1
                exact br_f (by rw [fa_lt] at hc; rw [fa_le]; omega) h1
              · simp only [if_neg hc] at h1
                exact br_t (by rw [fa_lt] at hc; rw [fa_le]; omega) h1
        · rw [putS_P b S μ (by omega), putS_P b S μ (by omega), hj'.1.1, hj'.1.2.1, hp'.1.1, hp'.1.2.1] at q2
          have e : yrA A x p (j + 1) = yrA A x p j := by rw [yrA, if_neg (fun z => q2 ⟨z.2.1, z.2.2.1⟩)]
          rw [e] at h1
          exact h1
      · rw [putS_P b S μ (by omega), at_iff hj'] at q
        have e : yrA A x p (j + 1) = yrA A x p j := by rw [yrA, if_neg (fun z => q z.1)]
        rw [e] at h1
        exact h1
  exact ⟨n + 1, key n 0 (by omega)⟩
theorem nle_lt {x y : Int32} (h : ¬ x ≤ y) : y < x := by rw [fa_le] at h; rw [fa_lt]; omega
theorem le_nlt {x y : Int32} (h : x ≤ y) : ¬ y < x := by rw [fa_le] at h; rw [fa_lt]; omega
theorem c_cleared82 {b n o p : Nat} {S T μ A : Mem} {K : Int32 → Mem → Prop} (ho : o < 24) (hp : p < 24) (e1 : T 1 1 = A 0 1) (e2 : T (4 + p) 0 = A (p + 1) 0) (e3 : T (4 + o) 0 = A (o + 1) 0) (h : K 1 (putS b (bowS T o (bwA A o p)) μ)) : wp_X3_isCleared_B82 b (b + 2 + 2 + p) (b + 2 + 2 + o) K (putS b T μ) := by
  unfold wp_X3_isCleared_B82
  rw [putS_at b T μ (by omega), putS_P b T μ hp, putS_P b T μ ho, e1, e2, e3]
  exact c_bow ho h
/-- somebody on a full step steps back, or not -/
theorem c_isCleared {b n p : Nat} {x : Int32} {S μ A : Mem} {K : Int32 → Mem → Prop} (hR : RelC S A n) (hD : RelD S A n) (hO : OkA A n) (hp : p < n) (h0 : ylA A p n x (yrA A x p n) = staysA A p → K 0 (putS b S μ))
    (h1 : ∀ o B S', o ≠ p → o < n → ylA A p n x (yrA A x p n) = goesA B p x 1 → B (p + 1) = A (p + 1) → OkA B n → RelC S' B n → RelD S' B n → K 1 (putS b S' μ)) : wp_X3_isCleared b x (b + 2 + 2 + p) (putS b S μ) K := by
  have hn := hR.1
  have rp := hR.2.2.2.2.2.2.2
  have rs := hR.2.2.2.2.2.1
  unfold wp_X3_isCleared
  rw [putS_at b S μ (by omega), putS_P b S μ (by omega), rs 2 (by omega), (rp p hp).1.2.2.2.2.2.2]
  refine ⟨fun q => ?_, fun q => ?_⟩
  · refine c_yielderOn hR hp (le_nlt q) ?_
    cases hy : yrA A x p n with
    | none =>
      rw [hy] at h0
      exact ⟨fun _ => h0 rfl, fun qx z => by simp at z⟩
    | some o =>
      obtain ⟨ho, hat, hyl⟩ := yrA_lt hy
      have hop : o ≠ p := fun e => hyl.1 (by rw [e])
      refine ⟨fun z => by simp at z, fun qx z => ?_⟩
      simp only [Option.map_some, Option.some.injEq] at z
      subst z
      refine c_stepBehind hR hO ho hp hat.1 hyl.1 ?_
      have e1 := rs 1 (by omega)
      have ep := (rp p hp).1.1
      have eo := (rp o ho).1.1
      have hopR : S (4 + p) 0 = A (p + 1) 0 := ep
      -- what comes of it
      have fin : ∀ (to pl d : Int32), (stp to ∧ pl = 1 ∧ d = 4 ∧ waysA A o p n = some (goesA (bowA A o p) o to 4) ∨ ¬ stp to ∧ pl = 3 ∧ d = 5 ∧ waysA A o p n = some (endsA (bowA A o p) o 3)) → K 1 (putS b (bowS (bringS S o to pl d) o (bwA A o p)) μ) := by
        intro to pl d hc
        rcases hc with ⟨hs, rfl, rfl, hw⟩ | ⟨hs, rfl, rfl, hw⟩
        · refine h1 o (goesA (bowA A o p) o to 4) _ hop ho (by rw [hy]; simp only [ylA, hw, wyA]) (by rw [goesA_ne (Ne.symm hop), bowA_ne (Ne.symm hop)]) (ok_goes (ok_bow hO) hs) ?_ ?_
          · refine rel_bow (rel_goes hR hO ho (Or.inr hat.1) hs) ho ?_ ?_ ?_ ?_ ?_
            · intro k h5 h6; simp [goesA, bowA, up2_app, h5, h6]
            · simp [goesA, bowA, up2_app]
            · simp [goesA, bowA, up2_app]
            · intro q hq; rw [goesA_ne hq, bowA_ne hq, goesA_ne hq]
            · intro k hk; simp [goesA, bowA, up2_app, show k ≠ 6 by omega, show k ≠ 7 by omega]
          · refine reld_bow (reld_goes hD) ?_ ?_
            · simp [goesA, up2_app]
            · intro q hq; rw [goesA_ne hq, bowA_ne hq, goesA_ne hq]
        · refine h1 o (endsA (bowA A o p) o 3) _ hop ho (by rw [hy]; simp only [ylA, hw, wyA]) (by rw [endsA_ne (Ne.symm hop), bowA_ne (Ne.symm hop)]) (ok_ends (ok_bow hO) (Or.inr rfl)) ?_ ?_
          · refine rel_bow (rel_ends hR hO ho (Or.inr hat.1) hs (Or.inr rfl)) ho ?_ ?_ ?_ ?_ ?_
            · intro k h5 h6
              simp only [endsA, bowA, up2_app]
              simp [h5, h6]
            · simp [endsA, bowA, up2_app]
            · simp [endsA, bowA, up2_app]
            · intro q hq; rw [endsA_ne hq, bowA_ne hq, endsA_ne hq]
            · intro k hk; simp [endsA, bowA, up2_app, show k ≠ 6 by omega, show k ≠ 7 by omega]
          · refine reld_bow (reld_ends (w := 3) hD) ?_ ?_
            · simp [endsA, up2_app]
            · intro q hq; rw [endsA_ne hq, bowA_ne hq, endsA_ne hq]
      -- what stays through 'bring'
      have k1 : ∀ to pl d : Int32, bringS S o to pl d 1 1 = A 0 1 := fun to pl d => by rw [bring_row (by omega) (by omega), e1]
      have k2 : ∀ to pl d : Int32, bringS S o to pl d (4 + p) 0 = A (p + 1) 0 := fun to pl d => by rw [bring_row (by omega) (by omega), ep]
      have k3 : ∀ to pl d : Int32, bringS S o to pl d (4 + o) 0 = A (o + 1) 0 := fun to pl d => by rw [bring_p, ← eo]; simp
      refine c_isStep (fun q2 => br_f (by decide) ?_) (fun q2 => br_t rfl ?_)
      · refine c_roomOn hR q2 ⟨fun q3 => ?_, fun q3 => ?_⟩
        · unfold wp_X3_isCleared_B53
          refine c_isStep (fun _ => br_f (by decide) ?_) (fun z => absurd q2 z)
          refine c_bring (by omega) ?_
          refine c_cleared82 (n := n) (S := S) (by omega) (by omega) (k1 _ _ _) (k2 _ _ _) (k3 _ _ _) ?_
          exact fin _ _ _ (Or.inl ⟨q2, rfl, rfl, by unfold waysA; rw [if_pos q2, if_pos q3]⟩)
        · refine h0 ?_
          rw [hy]
          simp only [ylA]
          have : waysA A o p n = none := by unfold waysA; rw [if_pos q2, if_neg q3]
          rw [this]
          rfl
      · unfold wp_X3_isCleared_B53
        refine c_isStep (fun z => absurd z q2) (fun _ => br_t rfl ?_)
        refine c_bring (by omega) ?_
        refine c_cleared82 (n := n) (S := S) (by omega) (by omega) (k1 _ _ _) (k2 _ _ _) (k3 _ _ _) ?_
        exact fin _ _ _ (Or.inr ⟨q2, rfl, rfl, by unfold waysA; rw [if_neg q2]⟩)
  · refine h0 ?_
    rw [yrA_none (nle_lt q) n]
    rfl
theorem c_move {b n p : Nat} {S μ A : Mem} {K : Mem → Prop} (hR : RelC S A n) (hD : RelD S A n) (hO : OkA A n) (hp : p < n) (hw : A (p + 1) 2 = 0 ∨ A (p + 1) 2 = 1) (h : ∀ S', RelC S' (actsA A p n) n → RelD S' (actsA A p n) n → K (putS b S' μ)) : wp_X3_move b (b + 2 + 2 + p) (putS b S μ) K := by
  have hn := hR.1
  unfold wp_X3_move
  unfold actsA at h
  refine c_nextStep hR hO hp hw (c_isStep (fun q => br_nt (by decide) ?_) (fun q => br_nf rfl ?_))
  · rw [if_pos q] at h
    refine c_roomOn hR q ⟨fun q2 => ?_, fun q2 => ?_⟩
    · rw [if_pos q2] at h
      exact c_bring (by omega) (h _ (rel_goes hR hO hp hw q) (reld_goes hD))
    · rw [if_neg q2] at h
      refine c_isCleared hR hD hO hp (fun e => br_t rfl ?_) (fun o B S' hop ho e eB hOB hRB hDB => br_f (by decide) ?_)
      · rw [e] at h
        exact c_stay (by omega) (h _ (rel_stay hR hp) (reld_stay hD))
      · rw [e] at h
        exact c_bring (by omega) (h _ (rel_goes hRB hOB hp (by rw [eB]; exact hw) q) (reld_goes hDB))
  · rw [if_neg q] at h
    exact c_bring (by omega) (h _ (rel_ends hR hO hp hw q (Or.inl rfl)) (reld_ends (w := 2) hD))
/-- who hasn't acted yet, at rank r and number j: nothing but stepping back was done by it -/
def JA (A : Mem) (k j n : Nat) : Prop := ∀ p, p < n → (∀ r : Nat, 1 ≤ r → r ≤ 9 → A (p + 1) 0 = nI r → (r < 9 - k ∨ (r = 9 - k ∧ j ≤ p)) → (A (p + 1) 2 = 0 ∨ A (p + 1) 2 = 1) → A (p + 1) 9 = 0 ∨ A (p + 1) 9 = 4)
theorem goes_0k {A : Mem} {p q : Nat} {s d : Int32} : goesA A p s d (q + 1) 0 = A (q + 1) 0 := by
  by_cases e : q = p
  · subst e; simp [goesA, up2_app]
  · rw [goesA_ne e]
theorem ends_0k {A : Mem} {p q : Nat} {w : Int32} : endsA A p w (q + 1) 0 = A (q + 1) 0 := by
  by_cases e : q = p
  · subst e; simp [endsA, up2_app]
  · rw [endsA_ne e]
theorem bow_0k {A : Mem} {o p q : Nat} : bowA A o p (q + 1) 0 = A (q + 1) 0 := by
  by_cases e : q = o
  · subst e; simp [bowA, up2_app]
  · rw [bowA_ne e]
theorem stays_0k {A : Mem} {p q : Nat} : staysA A p (q + 1) 0 = A (q + 1) 0 := by
  by_cases e : q = p
  · subst e; simp [staysA, up2_app]
  · rw [staysA_ne e]
theorem ways_other {A B : Mem} {o p n q : Nat} (h : waysA A o p n = some B) : B (q + 1) 0 = A (q + 1) 0 ∧ ((B (q + 1) 2 = A (q + 1) 2 ∧ B (q + 1) 9 = A (q + 1) 9) ∨ B (q + 1) 9 = 4 ∨ B (q + 1) 2 = 3) := by
  unfold waysA at h
  split at h
  · split at h
    · cases h
      refine ⟨by rw [goes_0k, bow_0k], ?_⟩
      by_cases e : q = o
      · subst e
        exact Or.inr (Or.inl (by simp [goesA, up2_app]))
      · exact Or.inl (by rw [goesA_ne e, bowA_ne e]; exact ⟨rfl, rfl⟩)
    · cases h
  · cases h
    refine ⟨by rw [ends_0k, bow_0k], ?_⟩
    by_cases e : q = o
    · subst e
      exact Or.inr (Or.inr (by simp [endsA, up2_app]))
    · exact Or.inl (by rw [endsA_ne e, bowA_ne e]; exact ⟨rfl, rfl⟩)
theorem acts_0k {A : Mem} {p n q : Nat} : actsA A p n (q + 1) 0 = A (q + 1) 0 := by
  unfold actsA
  split
  · split
    · exact goes_0k
    · cases yrA A (nextA A p) p n with
      | none => exact stays_0k
      | some o =>
        simp only [ylA]
        cases hw : waysA A o p n with
        | none => exact stays_0k
        | some B => simp only [wyA]; rw [goes_0k, (ways_other hw).1]
  · exact ends_0k
theorem acts_other {A : Mem} {p n q : Nat} (hq : q ≠ p) : (actsA A p n (q + 1) 2 = A (q + 1) 2 ∧ actsA A p n (q + 1) 9 = A (q + 1) 9) ∨ actsA A p n (q + 1) 9 = 4 ∨ actsA A p n (q + 1) 2 = 3 := by
  unfold actsA
  split
  · split
    · exact Or.inl (by rw [goesA_ne hq]; exact ⟨rfl, rfl⟩)
    · cases yrA A (nextA A p) p n with
      | none => exact Or.inl (by simp only [ylA]; rw [staysA_ne hq]; exact ⟨rfl, rfl⟩)
      | some o =>
        simp only [ylA]
        cases hw : waysA A o p n with
        | none => exact Or.inl (by simp only [wyA]; rw [staysA_ne hq]; exact ⟨rfl, rfl⟩)
        | some B =>
          simp only [wyA]
          rw [goesA_ne hq]
          exact (ways_other hw).2
  · exact Or.inl (by rw [endsA_ne hq]; exact ⟨rfl, rfl⟩)
theorem ok_step {A : Mem} {n p : Nat} {r : Int32} (h : OkA A n) : OkA (stepA A r p n) n := by
  unfold stepA
  split
  · exact ok_acts h
  · exact h
theorem ok_rows {A : Mem} {n : Nat} {r : Int32} (h : OkA A n) : ∀ p, OkA (rowsA A r n p) n
  | 0 => h
  | p + 1 => by rw [rowsA]; exact ok_step (ok_rows h p)
theorem ok_ranks {A : Mem} {n : Nat} (h : OkA A n) : ∀ k, OkA (ranksA A n k) n
  | 0 => h
  | k + 1 => by rw [ranksA]; exact ok_rows (ok_ranks h k) n
theorem ok_clear {A : Mem} {n : Nat} (h : OkA A n) : OkA (clearA A) n := fun p hp => okp_congr (h p hp) (by simp [clearA]) (by simp [clearA]) (by simp [clearA]) (by simp [clearA])
theorem ok_tick {A : Mem} {n : Nat} (h : OkA A n) : OkA (tickA A n) n := fun p hp => by
  unfold tickA
  rw [up2_ne _ _ _ _ (by omega)]
  exact ok_ranks (ok_clear h) 9 p hp
theorem ja_step {A : Mem} {k j n : Nat} (hk : k < 9) (hj : j < n) (h : JA A k j n) : JA (stepA A (nI (9 - k)) j n) k (j + 1) n := by
  intro p hp r h1 h9 hr hv hw
  unfold stepA at hr hw ⊢
  split
  · rename_i hc
    rw [if_pos hc] at hr hw
    rw [acts_0k] at hr
    have hpj : p ≠ j := by
      intro e
      subst e
      have : nI r = nI (9 - k) := hr.symm.trans hc.1
      have := nI_inj (by omega) (by omega) this
      omega
    rcases acts_other (A := A) (n := n) hpj with ⟨e2, e9⟩ | e | e
    · rw [e2] at hw
      rw [e9]
      exact h p hp r h1 h9 hr (by omega) hw
    · exact Or.inr e
    · rw [e] at hw
      rcases hw with hw | hw <;> exact absurd hw (by decide)
  · rename_i hc
    rw [if_neg hc] at hr hw
    exact h p hp r h1 h9 hr (by omega) hw
/-- one rank's round -/
theorem c_rows {b n k : Nat} {S μ A : Mem} {K : Mem → Prop} {E : Int32 → Mem → Prop} (hk : k < 9) (hR : RelC S A n) (hD : RelD S A n) (hO : OkA A n) (hJ : JA A k 0 n) (h : ∀ S', RelC S' (rowsA A (nI (9 - k)) n n) n → RelD S' (rowsA A (nI (9 - k)) n n) n → JA (rowsA A (nI (9 - k)) n n) k n n → E (nI (9 - k) + (-1)) (putS b S' μ)) : ∃ m, wp_X3_tick_L36 b (nI (9 - k)) K E m 0 (putS b S μ) := by
  have hn := hR.1
  have key : ∀ d j S, j + d = n → RelC S (rowsA A (nI (9 - k)) n j) n → RelD S (rowsA A (nI (9 - k)) n j) n → JA (rowsA A (nI (9 - k)) n j) k j n → wp_X3_tick_L36 b (nI (9 - k)) K E (d + 1) (nI j) (putS b S μ) := by
    intro d
    induction d with
    | zero =>
      intro j S hj hR hD hJ
      rw [wp_X3_tick_L36_s]
      simp only
      rw [putS_b, hR.2.2.1]
      have : j = n := by omega
      subst this
      exact br_t (nI_le (Nat.le_refl _) (by omega)) (h S hR hD hJ)
    | succ d ih =>
      intro j S hj hR hD hJ
      rw [wp_X3_tick_L36_s]
      simp only
      rw [putS_b, hR.2.2.1]
      refine br_f (nI_ge (by omega) (by omega)) ⟨vp_in_nI (by omega) (by omega), ?_⟩
      rw [nI_clamp (by omega), putS_P b S μ (by omega)]
      have hOj : OkA (rowsA A (nI (9 - k)) n j) n := ok_rows hO j
      have hJ1 := ja_step (A := rowsA A (nI (9 - k)) n j) hk (by omega) hJ
      have rj := hR.2.2.2.2.2.2.2 j (by omega)
      have h1 := ih (j + 1)
      rw [← nI_1] at h1
      have same : ∀ (hc : ¬ (rowsA A (nI (9 - k)) n j (j + 1) 0 = nI (9 - k) ∧ rowsA A (nI (9 - k)) n j (j + 1) 2 < 2 ∧ rowsA A (nI (9 - k)) n j (j + 1) 9 = 0)), rowsA A (nI (9 - k)) n (j + 1) = rowsA A (nI (9 - k)) n j := by
        intro hc
        rw [rowsA]
        unfold stepA
        rw [if_neg hc]
      have go : ∀ (hc : ¬ (rowsA A (nI (9 - k)) n j (j + 1) 0 = nI (9 - k) ∧ rowsA A (nI (9 - k)) n j (j + 1) 2 < 2 ∧ rowsA A (nI (9 - k)) n j (j + 1) 9 = 0)), wp_X3_tick_L36 b (nI (9 - k)) K E (d + 1) (nI j + 1) (putS b S μ) := by
        intro hc
        have e := same hc
        rw [show stepA (rowsA A (nI (9 - k)) n j) (nI (9 - k)) j n = rowsA A (nI (9 - k)) n (j + 1) from rfl] at hJ1
        exact h1 S (by omega) (by rw [e]; exact hR) (by rw [e]; exact hD) hJ1
      rw [rj.1.1]
      refine ⟨fun q => go (fun z => q z.1), fun q => ?_⟩
      refine c_isOnWay (fun q2 => br_f (by decide) ?_) (fun q2 => br_t rfl ?_)
      · rw [putS_P b S μ (by omega), rj.1.2.2.1] at q2
        rw [putS_P b S μ (by omega), hD j (by omega)]
        have hlt : rowsA A (nI (9 - k)) n j (j + 1) 2 < 2 := by rcases q2 with e | e <;> rw [e] <;> decide
        have h04 := hJ j (by omega) (9 - k) (by omega) (by omega) q (Or.inr ⟨rfl, Nat.le_refl _⟩) q2
        refine ⟨fun q3 => go (fun z => ?_), fun q3 => ?_⟩
        · rw [q3] at z
          exact absurd z.2.2 (by decide)
        · have hc := h04.resolve_right q3
          refine c_move hR hD hOj (by omega) q2 (fun S' hR' hD' => ?_)
          have e : rowsA A (nI (9 - k)) n (j + 1) = actsA (rowsA A (nI (9 - k)) n j) j n := by
            rw [rowsA]
            unfold stepA
            rw [if_pos ⟨q, hlt, hc⟩]
          rw [show stepA (rowsA A (nI (9 - k)) n j) (nI (9 - k)) j n = rowsA A (nI (9 - k)) n (j + 1) from rfl] at hJ1
          exact h1 S' (by omega) (by rw [e]; exact hR') (by rw [e]; exact hD') hJ1
      · rw [putS_P b S μ (by omega), rj.1.2.2.1] at q2
        refine go (fun z => ?_)
        rcases (hOj j (by omega)).2.2.1 with e | e | e | e
        · exact q2 (Or.inl e)
        · exact q2 (Or.inr e)
        · rw [e] at z; exact absurd z.2.1 (by decide)
        · rw [e] at z; exact absurd z.2.1 (by decide)
  exact ⟨n + 1, key n 0 S (by omega) hR hD hJ⟩
theorem c_ranks {b n : Nat} {S μ A : Mem} {K : Mem → Prop} (hR : RelC S A n) (hD : RelD S A n) (hO : OkA A n) (hJ : JA A 0 0 n) (h : ∀ S', RelC S' (ranksA A n 9) n → RelD S' (ranksA A n 9) n → K (putS b (up2 S' 0 5 (S' 0 5 + 1)) μ)) : ∃ m, wp_X3_tick_L29 b K m 9 (putS b S μ) := by
  have key : ∀ d k S, k + d = 9 → RelC S (ranksA A n k) n → RelD S (ranksA A n k) n → JA (ranksA A n k) k 0 n → wp_X3_tick_L29 b K (d + 1) (nI (9 - k)) (putS b S μ) := by
    intro d
    induction d with
    | zero =>
      intro k S hk hR hD hJ
      have : k = 9 := by omega
      subst this
      rw [wp_X3_tick_L29_s]
      simp only
      refine br_t (by decide) (nm_e ?_)
      rw [putS_b, putS_up0]
      exact h S hR hD
    | succ d ih =>
      intro k S hk hR hD hJ
      rw [wp_X3_tick_L29_s]
      simp only
      refine br_f ?_ ?_
      · have := nI_nlt (a := 9 - k) (b := 1) (by omega) (by omega)
        exact this
      · refine c_rows (k := k) (by omega) hR hD (ok_ranks hO k) hJ (fun S' hR' hD' hJ' => ?_)
        have h1 := ih (k + 1) S' (by omega) hR' hD' ?_
        · rw [show 9 - k = (9 - (k + 1)) + 1 by omega, pk_m1]
          exact h1
        · intro p hp r h1 h9 hr hv hw
          exact hJ' p hp r h1 h9 hr (by omega) hw
  exact ⟨10, key 9 0 S (by omega) hR hD hJ⟩
def clS (S : Mem) (j : Nat) : Mem := fun i k => if k = 9 ∧ 4 ≤ i ∧ i < 4 + j then 0 else S i k
theorem clS_s (S : Mem) (j : Nat) : up2 (clS S j) (4 + j) 9 0 = clS S (j + 1) := by
  funext a b
  rw [up2_app]
  unfold clS
  by_cases h : a = 4 + j ∧ b = 9
  · rw [if_pos h, if_pos ⟨h.2, by omega, by omega⟩]
  · rw [if_neg h]
    by_cases h2 : b = 9 ∧ 4 ≤ a ∧ a < 4 + j
    · rw [if_pos h2, if_pos ⟨h2.1, h2.2.1, by omega⟩]
    · rw [if_neg h2, if_neg (by omega)]
theorem rel_keys {S A T B : Mem} {n : Nat} (hR : RelC S A n) (hS : ∀ i k, k < 9 ∨ i < 4 → T i k = S i k) (hA : ∀ i k, k < 9 → B i k = A i k) : RelC T B n := by
  obtain ⟨hn, r4, s4, s3, s5, rs, rc, rp⟩ := id hR
  refine ⟨hn, by rw [hA 0 4 (by omega), r4], by rw [hS 0 4 (by omega), s4], by rw [hS 0 3 (by omega), hA 0 5 (by omega), s3], by rw [hS 0 5 (by omega), hA 0 3 (by omega), s5], fun k hk => by rw [hS 1 k (by omega), hA 0 k (by omega), rs k hk], fun s hs => ?_, fun p hp => ?_⟩
  · rw [hS 3 s (by omega), rc s hs, cnt_congr (A := A) (B := B)]
    intro q _
    exact ⟨hA _ 2 (by omega), hA _ 3 (by omega)⟩
  · have := rp p hp
    unfold RelP at this ⊢
    rw [hS (4 + p) 0 (by omega), hS (4 + p) 1 (by omega), hS (4 + p) 2 (by omega), hS (4 + p) 3 (by omega), hS (4 + p) 4 (by omega), hS (4 + p) 5 (by omega), hS (4 + p) 6 (by omega), hS (4 + p) 7 (by omega), hS (4 + p) 8 (by omega), hA (p + 1) 0 (by omega), hA (p + 1) 1 (by omega), hA (p + 1) 2 (by omega), hA (p + 1) 3 (by omega), hA (p + 1) 4 (by omega), hA (p + 1) 5 (by omega), hA (p + 1) 6 (by omega), hA (p + 1) 7 (by omega), hA (p + 1) 8 (by omega)]
    exact this
theorem c_tick {b n : Nat} {S μ A : Mem} {K : Mem → Prop} (hR : RelC S A n) (hO : OkA A n) (h : ∀ S', RelC S' (tickA A n) n → RelD S' (tickA A n) n → K (putS b S' μ)) : wp_X3_tick b (putS b S μ) K := by
  have hn := hR.1
  have hc : RelC (clS S n) (clearA A) n := rel_keys hR (fun i k hk => by unfold clS; rw [if_neg (by omega)]) (fun i k hk => by unfold clearA; rw [if_neg (by omega)])
  have hd : RelD (clS S n) (clearA A) n := fun p hp => by
    unfold clS clearA
    rw [if_pos ⟨rfl, by omega, by omega⟩, if_pos ⟨rfl, by omega, by omega⟩]
  have hj : JA (clearA A) 0 0 n := fun p hp r _ _ _ _ _ => by
    left
    unfold clearA
    rw [if_pos ⟨rfl, by omega, by omega⟩]
  have key : ∀ d j, j + d = n → wp_X3_tick_L2 b K (d + 1) (nI j) (putS b (clS S j) μ) := by
    intro d
    induction d with
    | zero =>
      intro j hj'
      have : j = n := by omega
      subst this
      rw [wp_X3_tick_L2_s]
      simp only
      rw [putS_b, show clS S j 0 4 = S 0 4 from rfl, hR.2.2.1]
      refine br_t (nI_le (Nat.le_refl _) (by omega)) ?_
      refine c_ranks hc hd (ok_clear hO) hj (fun S' hR' hD' => h _ ?_ ?_)
      · obtain ⟨hn, r4, s4, s3, s5, rs, rc, rp⟩ := id hR'
        unfold tickA
        refine ⟨hn, by simp [up2_app, r4], by simp [up2_app, s4], by simp [up2_app, s3], by simp [up2_app, s5], fun k hk => ?_, fun s hs => ?_, fun p hp => ?_⟩
        · rw [up2_ne _ _ _ _ (by omega), rs k hk, up2_app, if_neg (by omega)]
        · rw [up2_ne _ _ _ _ (by omega), rc s hs, cnt_congr (A := ranksA (clearA A) j 9) (B := up2 (ranksA (clearA A) j 9) 0 3 (ranksA (clearA A) j 9 0 3 + 1))]
          intro q _
          rw [up2_ne _ _ _ _ (by omega)]
          exact ⟨rfl, rfl⟩
        · rw [up2_ne _ _ _ _ (by omega), up2_ne _ _ _ _ (by omega)]
          exact rp p hp
      · intro p hp
        unfold tickA
        rw [up2_ne _ _ _ _ (by omega), up2_ne _ _ _ _ (by omega)]
        exact hD' p hp
    | succ d ih =>
      intro j hj'
      rw [wp_X3_tick_L2_s]
      simp only
      rw [putS_b, show clS S j 0 4 = S 0 4 by unfold clS; rw [if_neg (by omega)], hR.2.2.1]
      refine br_f (nI_ge (by omega) (by omega)) ⟨vp_in_nI (by omega) (by omega), nm_e ?_⟩
      rw [nI_clamp (by omega), putS_upP b _ μ (by omega), clS_s, nI_1]
      exact ih (j + 1) (by omega)
  refine ⟨n + 1, ?_⟩
  have e : S = clS S 0 := by
    funext a k
    unfold clS
    rw [if_neg (by omega)]
  rw [e]
  exact key n 0 (by omega)


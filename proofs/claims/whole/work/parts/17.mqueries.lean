/-! THE REFERENCE: copies of rows, and what it tells -/
theorem m_keepsL  {μ : Mem} {K : Mem → Prop} (h : ∀ ν : Mem, (∀ a, a ≠ 289 → ν a = μ a) → (∀ i, i < 225 → ν 289 (i) = μ 288 (i)) → (∀ i, ¬ (0 ≤ i ∧ i < 225) → ν 289 i = μ 289 i) → K ν) : ∃ n, wp_X5_keeps_L2 K n 0 μ := by
  have key : ∀ d j (ν : Mem), j + d = 225 → (∀ a, a ≠ 289 → ν a = μ a) → (∀ i, i < j → ν 289 (i) = μ 288 (i)) → (∀ i, ¬ (0 ≤ i ∧ i < j) → ν 289 i = μ 289 i) → wp_X5_keeps_L2 K (d + 1) (nI j) ν := by
    intro d
    induction d with
    | zero =>
      intro j ν hj h1 h2 h3
      have : j = 225 := by omega
      subst this
      rw [wp_X5_keeps_L2_s]
      simp only
      refine br_t (by decide) ?_
      exact h ν h1 h2 h3
    | succ d ih =>
      intro j ν hj h1 h2 h3
      rw [wp_X5_keeps_L2_s]
      simp only
      refine br_f (nI_ge (b := 225) (by omega) (by omega)) ⟨vp_in_nI (by omega) (by omega), vp_in_nI (by omega) (by omega), nm_e ?_⟩
      rw [nI_clamp (by omega)]
      rw [nI_1]
      have hs : ν 288 (j) = μ 288 (j) := by rw [h1 288 (by decide)]
      refine ih (j + 1) _ (by omega) (fun a ha => by rw [up2_ne _ _ _ _ ha, h1 a ha]) (fun i hi => ?_) (fun i hi => ?_)
      · rw [up2_app]
        by_cases e : i = j
        · subst e
          rw [if_pos ⟨rfl, rfl⟩]
          exact hs
        · rw [if_neg (fun z => e (by have := z.2; omega))]
          exact h2 i (by omega)
      · rw [up2_app, if_neg (fun z => hi ⟨by omega, by omega⟩)]
        exact h3 i (by omega)
  exact ⟨226, key 225 0 μ (by omega) (fun _ _ => rfl) (fun i hi => by omega) (fun _ _ => rfl)⟩
theorem m_backL  {μ : Mem} {K : Mem → Prop} (h : ∀ ν : Mem, (∀ a, a ≠ 288 → ν a = μ a) → (∀ i, i < 225 → ν 288 (i) = μ 289 (i)) → (∀ i, ¬ (0 ≤ i ∧ i < 225) → ν 288 i = μ 288 i) → K ν) : ∃ n, wp_X5_comesBack_L2 K n 0 μ := by
  have key : ∀ d j (ν : Mem), j + d = 225 → (∀ a, a ≠ 288 → ν a = μ a) → (∀ i, i < j → ν 288 (i) = μ 289 (i)) → (∀ i, ¬ (0 ≤ i ∧ i < j) → ν 288 i = μ 288 i) → wp_X5_comesBack_L2 K (d + 1) (nI j) ν := by
    intro d
    induction d with
    | zero =>
      intro j ν hj h1 h2 h3
      have : j = 225 := by omega
      subst this
      rw [wp_X5_comesBack_L2_s]
      simp only
      refine br_t (by decide) ?_
      exact h ν h1 h2 h3
    | succ d ih =>
      intro j ν hj h1 h2 h3
      rw [wp_X5_comesBack_L2_s]
      simp only
      refine br_f (nI_ge (b := 225) (by omega) (by omega)) ⟨vp_in_nI (by omega) (by omega), vp_in_nI (by omega) (by omega), nm_e ?_⟩
      rw [nI_clamp (by omega)]
      rw [nI_1]
      have hs : ν 289 (j) = μ 289 (j) := by rw [h1 289 (by decide)]
      refine ih (j + 1) _ (by omega) (fun a ha => by rw [up2_ne _ _ _ _ ha, h1 a ha]) (fun i hi => ?_) (fun i hi => ?_)
      · rw [up2_app]
        by_cases e : i = j
        · subst e
          rw [if_pos ⟨rfl, rfl⟩]
          exact hs
        · rw [if_neg (fun z => e (by have := z.2; omega))]
          exact h2 i (by omega)
      · rw [up2_app, if_neg (fun z => hi ⟨by omega, by omega⟩)]
        exact h3 i (by omega)
  exact ⟨226, key 225 0 μ (by omega) (fun _ _ => rfl) (fun i hi => by omega) (fun _ _ => rfl)⟩
theorem m_chgL {g : Nat} {μ : Mem} {K : Mem → Prop} (hg : g ≤ 5) (h7 : μ 287 3 = nI g) (h : ∀ ν : Mem, (∀ a, a ≠ 290 → ν a = μ a) → (∀ i, i < 225 → ν 290 (225 * g + i) = μ 288 (i)) → (∀ i, ¬ (225 * g + 0 ≤ i ∧ i < 225 * g + 225) → ν 290 i = μ 290 i) → K (up2 ν 287 3 (nI (g + 1)))) : ∃ n, wp_X5_changes_L52 K n 0 μ := by
  have key : ∀ d j (ν : Mem), j + d = 225 → (∀ a, a ≠ 290 → ν a = μ a) → (∀ i, i < j → ν 290 (225 * g + i) = μ 288 (i)) → (∀ i, ¬ (225 * g + 0 ≤ i ∧ i < 225 * g + j) → ν 290 i = μ 290 i) → wp_X5_changes_L52 K (d + 1) (nI j) ν := by
    intro d
    induction d with
    | zero =>
      intro j ν hj h1 h2 h3
      have : j = 225 := by omega
      subst this
      rw [wp_X5_changes_L52_s]
      simp only
      refine br_t (by decide) ?_
      refine nm_e ?_
      rw [h1 287 (by decide), h7, nI_1]
      exact h ν h1 h2 h3
    | succ d ih =>
      intro j ν hj h1 h2 h3
      rw [wp_X5_changes_L52_s]
      simp only
      rw [h1 287 (by decide), h7, show (225 : Int32) * nI g = nI (225 * g) from pk_mul 225 g, nI_add]
      refine br_f (nI_ge (b := 225) (by omega) (by omega)) ?_
      refine ⟨vp_in_nI (by omega) (by omega), vp_in_nI (by omega) (by omega), nm_e ?_⟩
      rw [nI_clamp (by omega), nI_clamp (by omega)]
      rw [nI_1]
      have hs : ν 288 (j) = μ 288 (j) := by rw [h1 288 (by decide)]
      refine ih (j + 1) _ (by omega) (fun a ha => by rw [up2_ne _ _ _ _ ha, h1 a ha]) (fun i hi => ?_) (fun i hi => ?_)
      · rw [up2_app]
        by_cases e : i = j
        · subst e
          rw [if_pos ⟨rfl, rfl⟩]
          exact hs
        · rw [if_neg (fun z => e (by have := z.2; omega))]
          exact h2 i (by omega)
      · rw [up2_app, if_neg (fun z => hi ⟨by omega, by omega⟩)]
        exact h3 i (by omega)
  exact ⟨226, key 225 0 μ (by omega) (fun _ _ => rfl) (fun i hi => by omega) (fun _ _ => rfl)⟩
theorem m_undoL {g : Nat} {μ : Mem} {K : Int32 → Mem → Prop} (hg : g ≤ 5) (h7 : μ 287 3 = nI g) (h : ∀ ν : Mem, (∀ a, a ≠ 288 → ν a = μ a) → (∀ i, i < 225 → ν 288 (i) = μ 290 (225 * g + i)) → (∀ i, ¬ (0 ≤ i ∧ i < 225) → ν 288 i = μ 288 i) → K (nI g) ν) : ∃ n, wp_X5_undo_L22 K n 0 μ := by
  have key : ∀ d j (ν : Mem), j + d = 225 → (∀ a, a ≠ 288 → ν a = μ a) → (∀ i, i < j → ν 288 (i) = μ 290 (225 * g + i)) → (∀ i, ¬ (0 ≤ i ∧ i < j) → ν 288 i = μ 288 i) → wp_X5_undo_L22 K (d + 1) (nI j) ν := by
    intro d
    induction d with
    | zero =>
      intro j ν hj h1 h2 h3
      have : j = 225 := by omega
      subst this
      rw [wp_X5_undo_L22_s]
      simp only
      refine br_t (by decide) ?_
      rw [h1 287 (by decide), h7]
      exact h ν h1 h2 h3
    | succ d ih =>
      intro j ν hj h1 h2 h3
      rw [wp_X5_undo_L22_s]
      simp only
      rw [h1 287 (by decide), h7, show (225 : Int32) * nI g = nI (225 * g) from pk_mul 225 g, nI_add]
      refine br_f (nI_ge (b := 225) (by omega) (by omega)) ?_
      refine ⟨vp_in_nI (by omega) (by omega), vp_in_nI (by omega) (by omega), nm_e ?_⟩
      rw [nI_clamp (by omega), nI_clamp (by omega)]
      rw [nI_1]
      have hs : ν 290 (225 * g + j) = μ 290 (225 * g + j) := by rw [h1 290 (by decide)]
      refine ih (j + 1) _ (by omega) (fun a ha => by rw [up2_ne _ _ _ _ ha, h1 a ha]) (fun i hi => ?_) (fun i hi => ?_)
      · rw [up2_app]
        by_cases e : i = j
        · subst e
          rw [if_pos ⟨rfl, rfl⟩]
          exact hs
        · rw [if_neg (fun z => e (by have := z.2; omega))]
          exact h2 i (by omega)
      · rw [up2_app, if_neg (fun z => hi ⟨by omega, by omega⟩)]
        exact h3 i (by omega)
  exact ⟨226, key 225 0 μ (by omega) (fun _ _ => rfl) (fun i hi => by omega) (fun _ _ => rfl)⟩
theorem m_saveL {g : Nat} {μ : Mem} {K : Int32 → Mem → Prop} (hg : g < 2) (h : ∀ ν : Mem, (∀ a, a ≠ 291 → ν a = μ a) → (∀ i, i < 225 → ν 291 (225 * g + i) = μ 288 (i)) → (∀ i, ¬ (225 * g + 0 ≤ i ∧ i < 225 * g + 225) → ν 291 i = μ 291 i) → K (ν 288 3) (up2 ν 292 g 1)) : ∃ n, wp_X5_save_L12 (nI g) K n 0 μ := by
  have key : ∀ d j (ν : Mem), j + d = 225 → (∀ a, a ≠ 291 → ν a = μ a) → (∀ i, i < j → ν 291 (225 * g + i) = μ 288 (i)) → (∀ i, ¬ (225 * g + 0 ≤ i ∧ i < 225 * g + j) → ν 291 i = μ 291 i) → wp_X5_save_L12 (nI g) K (d + 1) (nI j) ν := by
    intro d
    induction d with
    | zero =>
      intro j ν hj h1 h2 h3
      have : j = 225 := by omega
      subst this
      rw [wp_X5_save_L12_s]
      simp only
      refine br_t (by decide) ?_
      refine ⟨vp_in_nI (by omega) (by omega), nm_e ?_⟩
      rw [nI_clamp (by omega), up2_ne _ _ _ _ (by decide)]
      exact h ν h1 h2 h3
    | succ d ih =>
      intro j ν hj h1 h2 h3
      rw [wp_X5_save_L12_s]
      simp only
      rw [show (225 : Int32) * nI g = nI (225 * g) from pk_mul 225 g, nI_add]
      refine br_f (nI_ge (b := 225) (by omega) (by omega)) ?_
      refine ⟨vp_in_nI (by omega) (by omega), vp_in_nI (by omega) (by omega), nm_e ?_⟩
      rw [nI_clamp (by omega), nI_clamp (by omega)]
      rw [nI_1]
      have hs : ν 288 (j) = μ 288 (j) := by rw [h1 288 (by decide)]
      refine ih (j + 1) _ (by omega) (fun a ha => by rw [up2_ne _ _ _ _ ha, h1 a ha]) (fun i hi => ?_) (fun i hi => ?_)
      · rw [up2_app]
        by_cases e : i = j
        · subst e
          rw [if_pos ⟨rfl, rfl⟩]
          exact hs
        · rw [if_neg (fun z => e (by have := z.2; omega))]
          exact h2 i (by omega)
      · rw [up2_app, if_neg (fun z => hi ⟨by omega, by omega⟩)]
        exact h3 i (by omega)
  exact ⟨226, key 225 0 μ (by omega) (fun _ _ => rfl) (fun i hi => by omega) (fun _ _ => rfl)⟩
theorem m_restL {g : Nat} {μ : Mem} {K : Int32 → Mem → Prop} (hg : g < 2) (h : ∀ ν : Mem, (∀ a, a ≠ 288 → ν a = μ a) → (∀ i, i < 225 → ν 288 (i) = μ 291 (225 * g + i)) → (∀ i, ¬ (0 ≤ i ∧ i < 225) → ν 288 i = μ 288 i) → K (ν 288 3) ν) : ∃ n, wp_X5_restore_L28 (nI g) K n 0 μ := by
  have key : ∀ d j (ν : Mem), j + d = 225 → (∀ a, a ≠ 288 → ν a = μ a) → (∀ i, i < j → ν 288 (i) = μ 291 (225 * g + i)) → (∀ i, ¬ (0 ≤ i ∧ i < j) → ν 288 i = μ 288 i) → wp_X5_restore_L28 (nI g) K (d + 1) (nI j) ν := by
    intro d
    induction d with
    | zero =>
      intro j ν hj h1 h2 h3
      have : j = 225 := by omega
      subst this
      rw [wp_X5_restore_L28_s]
      simp only
      refine br_t (by decide) ?_
      exact h ν h1 h2 h3
    | succ d ih =>
      intro j ν hj h1 h2 h3
      rw [wp_X5_restore_L28_s]
      simp only
      rw [show (225 : Int32) * nI g = nI (225 * g) from pk_mul 225 g, nI_add]
      refine br_f (nI_ge (b := 225) (by omega) (by omega)) ?_
      refine ⟨vp_in_nI (by omega) (by omega), vp_in_nI (by omega) (by omega), nm_e ?_⟩
      rw [nI_clamp (by omega), nI_clamp (by omega)]
      rw [nI_1]
      have hs : ν 291 (225 * g + j) = μ 291 (225 * g + j) := by rw [h1 291 (by decide)]
      refine ih (j + 1) _ (by omega) (fun a ha => by rw [up2_ne _ _ _ _ ha, h1 a ha]) (fun i hi => ?_) (fun i hi => ?_)
      · rw [up2_app]
        by_cases e : i = j
        · subst e
          rw [if_pos ⟨rfl, rfl⟩]
          exact hs
        · rw [if_neg (fun z => e (by have := z.2; omega))]
          exact h2 i (by omega)
      · rw [up2_app, if_neg (fun z => hi ⟨by omega, by omega⟩)]
        exact h3 i (by omega)
  exact ⟨226, key 225 0 μ (by omega) (fun _ _ => rfl) (fun i hi => by omega) (fun _ _ => rfl)⟩
theorem m_keeps {μ : Mem} {K : Mem → Prop} (h : ∀ ν : Mem, (∀ a, a ≠ 289 → ν a = μ a) → (∀ i, i < 225 → ν 289 i = μ 288 i) → K ν) : wp_X5_keeps μ K := m_keepsL (fun ν h1 h2 _ => h ν h1 h2)
theorem m_back {μ : Mem} {K : Mem → Prop} (h : ∀ ν : Mem, (∀ a, a ≠ 288 → ν a = μ a) → (∀ i, i < 225 → ν 288 i = μ 289 i) → K ν) : wp_X5_comesBack μ K := m_backL (fun ν h1 h2 _ => h ν h1 h2)
/-- the rows of the history, with one more -/
def pushH (g : Nat) : Nat := if g < 6 then g + 1 else 6
def pushR (g : Nat) (R : Nat → Nat → Int32) (r : Nat → Int32) : Nat → Nat → Int32 := fun k => if g < 6 then (if k = g then r else R k) else (if k = 5 then r else R (k + 1))
abbrev hisR (μ : Mem) : Nat → Nat → Int32 := fun k j => μ 290 (225 * k + j)
theorem m_changes {g : Nat} {μ : Mem} {K : Mem → Prop} (hg : g ≤ 6) (h7 : μ 287 3 = nI g) (h : ∀ ν : Mem, (∀ a, a ≠ 287 → a ≠ 290 → ν a = μ a) → (∀ k, k ≠ 3 → ν 287 k = μ 287 k) → ν 287 3 = nI (pushH g) → (∀ k j, k < pushH g → j < 225 → hisR ν k j = pushR g (hisR μ) (μ 288) k j) → K ν) : wp_X5_changes μ K := by
  unfold wp_X5_changes
  by_cases h6 : g = 6
  · subst h6
    refine br_nf (by rw [h7]; rfl) ?_
    have key : ∀ d j (ν : Mem), j + d = 1125 → (∀ a, a ≠ 290 → ν a = μ a) → (∀ i, i < j → ν 290 i = μ 290 (i + 225)) → (∀ i, ¬ i < j → ν 290 i = μ 290 i) → wp_X5_changes_L11 K (d + 1) (nI j) ν := by
      intro d
      induction d with
      | zero =>
        intro j ν hj h1 h2 h3
        have : j = 1125 := by omega
        subst this
        rw [wp_X5_changes_L11_s]
        simp only
        refine br_t (by decide) (nm_e ?_)
        rw [h1 287 (by decide), h7, show (nI 6 - 1 : Int32) = nI 5 by decide]
        refine m_chgL (g := 5) (by omega) (by simp [up2_app]) (fun ρ r1 r2 r3 => ?_)
        refine h _ (fun a ha hb => ?_) (fun k hk => ?_) ?_ (fun k j hk hj => ?_)
        · rw [up2_ne _ _ _ _ ha, r1 a hb, up2_ne _ _ _ _ ha, h1 a hb]
        · rw [up2_app, if_neg (fun z => hk z.2), r1 287 (by decide), up2_app, if_neg (fun z => hk z.2), h1 287 (by decide)]
        · rw [up2_app, if_pos ⟨rfl, rfl⟩]; rfl
        · unfold hisR pushR
          have hk6 : k < 6 := by unfold pushH at hk; simpa using hk
          rw [up2_ne _ _ _ _ (by decide), if_neg (by omega)]
          by_cases e : k = 5
          · subst e
            rw [if_pos rfl, r2 j hj, up2_ne _ _ _ _ (by decide), h1 288 (by decide)]
          · rw [if_neg e, r3 _ (by omega), up2_ne _ _ _ _ (by decide), h2 _ (by omega)]
            congr 1
            omega
      | succ d ih =>
        intro j ν hj h1 h2 h3
        rw [wp_X5_changes_L11_s]
        simp only
        refine br_f (nI_ge (b := 1125) (by omega) (by omega)) ?_
        rw [show nI j + 225 = nI (j + 225) from nI_add j 225]
        refine ⟨vp_in_nI (by omega) (by omega), vp_in_nI (by omega) (by omega), nm_e ?_⟩
        rw [nI_clamp (by omega), nI_clamp (by omega), nI_1]
        refine ih (j + 1) _ (by omega) (fun a ha => by rw [up2_ne _ _ _ _ ha, h1 a ha]) (fun i hi => ?_) (fun i hi => ?_)
        · rw [up2_app]
          by_cases e : i = j
          · subst e
            rw [if_pos ⟨rfl, rfl⟩]
            exact h3 _ (by omega)
          · rw [if_neg (fun z => e z.2)]
            exact h2 i (by omega)
        · rw [up2_app, if_neg (fun z => hi (by omega))]
          exact h3 i (by omega)
    exact ⟨1126, key 1125 0 μ (by omega) (fun _ _ => rfl) (fun i hi => by omega) (fun _ _ => rfl)⟩
  · refine br_nt (by rw [h7, show (6 : Int32) = nI 6 from rfl]; exact fun z => h6 (nI_inj (by omega) (by omega) z)) ?_
    refine m_chgL (g := g) (by omega) h7 (fun ρ r1 r2 r3 => ?_)
    have hp : pushH g = g + 1 := by unfold pushH; rw [if_pos (by omega)]
    refine h _ (fun a ha hb => ?_) (fun k hk => ?_) ?_ (fun k j hk hj => ?_)
    · rw [up2_ne _ _ _ _ ha, r1 a hb]
    · rw [up2_app, if_neg (fun z => hk z.2), r1 287 (by decide)]
    · rw [up2_app, if_pos ⟨rfl, rfl⟩, hp]
    · unfold hisR pushR
      rw [hp] at hk
      rw [up2_ne _ _ _ _ (by decide), if_pos (by omega)]
      by_cases e : k = g
      · subst e
        rw [if_pos rfl, r2 j hj]
      · rw [if_neg e, r3 _ (by omega)]
/-! what is told -/
theorem m_thatAre {n : Nat} {w : Int32} {A μ : Mem} {K : Int32 → Mem → Prop} (hn : n ≤ 24) (h4 : A 0 4 = nI n) (h : K (nI (whoA A w n)) (conA A μ)) : wp_X5_thatAre w (conA A μ) K := by
  have key : ∀ d j, j + d = n → wp_X5_thatAre_L4 w K (d + 1) (nI (whoA A w j)) (nI j) (conA A μ) := by
    intro d
    induction d with
    | zero =>
      intro j hj
      have : j = n := by omega
      subst this
      rw [wp_X5_thatAre_L4_s]
      simp only
      rw [conA_0 _ _ _ (by decide), h4]
      exact br_t (nI_le (Nat.le_refl _) (by omega)) h
    | succ d ih =>
      intro j hj
      rw [wp_X5_thatAre_L4_s]
      simp only
      rw [conA_0 _ _ _ (by decide), h4]
      refine br_f (nI_ge (by omega) (by omega)) ?_
      have h1 := ih (j + 1) (by omega)
      rw [whoA, ← nI_1] at h1
      refine m_get (p := j) (by omega) (k := 2) (by decide) rfl rfl ⟨fun q => ?_, fun q => ?_⟩
      · rw [if_neg q] at h1
        rw [nI_addz]
        exact h1
      · rw [if_pos q] at h1
        rw [nI_1 (whoA A w j)]
        exact h1
  exact ⟨n + 1, key n 0 (by omega)⟩
theorem m_highestAt {n : Nat} {x : Int32} {A μ : Mem} {K : Int32 → Mem → Prop} (hn : n ≤ 24) (h4 : A 0 4 = nI n) (h : K (oI (hiA A x n)) (conA A μ)) : wp_X5_highestAt x (conA A μ) K := by
  have key : ∀ d j, j + d = n → wp_X5_highestAt_L5 x K (d + 1) (oI (hiA A x j)) (nI j) (conA A μ) := by
    intro d
    induction d with
    | zero =>
      intro j hj
      have : j = n := by omega
      subst this
      rw [wp_X5_highestAt_L5_s]
      simp only
      rw [conA_0 _ _ _ (by decide), h4]
      exact br_t (nI_le (Nat.le_refl _) (by omega)) h
    | succ d ih =>
      intro j hj
      rw [wp_X5_highestAt_L5_s]
      simp only
      rw [conA_0 _ _ _ (by decide), h4]
      refine br_f (nI_ge (by omega) (by omega)) ?_
      have h1 := ih (j + 1) (by omega)
      rw [← nI_1] at h1
      refine m_isAt (by omega) rfl (fun q => br_f (by decide) ?_) (fun q => br_t rfl ?_)
      · cases hh : hiA A x j with
        | none =>
          rw [hiA_s q hh] at h1
          exact br_t rfl h1
        | some q2 =>
          rw [hiA_s2 q hh] at h1
          have hlt := hiA_lt hh
          refine br_f (oI_ne (by omega)) ?_
          refine m_get (p := j) (by omega) (k := 0) (by decide) rfl rfl (m_get (p := q2) (by omega) (k := 0) (by decide) rfl rfl ?_)
          by_cases hc : A (q2 + 1) 0 < A (j + 1) 0
          · rw [if_pos hc] at h1
            exact br_f (by rw [fa_lt] at hc; rw [fa_le]; omega) h1
          · rw [if_neg hc] at h1
            exact br_t (by rw [fa_lt] at hc; rw [fa_le]; omega) h1
      · rw [hiA_n q] at h1
        exact h1
  exact ⟨n + 1, key n 0 (by omega)⟩
def tfA (A : Mem) (n : Nat) (v : Int32) : Nat → Bool
  | 0 => false
  | s + 1 => tfA A n v s || decide (lndA A (nI s) ∧ ¬ nI (cntA A (nI s) n) ≤ v)
theorem tfA_ex {A : Mem} {n : Nat} {v : Int32} : ∀ {s : Nat}, tfA A n v s = true ↔ ∃ j, j < s ∧ lndA A (nI j) ∧ ¬ nI (cntA A (nI j) n) ≤ v
  | 0 => by simp [tfA]
  | s + 1 => by
    unfold tfA
    rw [Bool.or_eq_true, tfA_ex (s := s), decide_eq_true_eq]
    constructor
    · rintro (⟨p, hp, e⟩ | e)
      · exact ⟨p, by omega, e⟩
      · exact ⟨s, by omega, e⟩
    · rintro ⟨p, hp, e⟩
      by_cases hps : p = s
      · subst hps; exact Or.inr e
      · exact Or.inl ⟨p, by omega, e⟩
def bI (b : Bool) : Int32 := if b = true then 1 else 0
theorem m_isTooFull {n : Nat} {v : Int32} {A μ : Mem} {K : Int32 → Mem → Prop} (hn : n ≤ 24) (h4 : A 0 4 = nI n) (h : K (bI (tfA A n v 12)) (conA A μ)) : wp_X5_isTooFull v (conA A μ) K := by
  have key : ∀ d j, j + d = 12 → wp_X5_isTooFull_L4 v K (d + 1) (bI (tfA A n v j)) (nI j) (conA A μ) := by
    intro d
    induction d with
    | zero =>
      intro j hj
      have : j = 12 := by omega
      subst this
      rw [wp_X5_isTooFull_L4_s]
      simp only
      refine br_t (by decide) ⟨?_, h⟩
      unfold bI
      split
      · exact Or.inr rfl
      · exact Or.inl rfl
    | succ d ih =>
      intro j hj
      rw [wp_X5_isTooFull_L4_s]
      simp only
      refine br_f (nI_ge (b := 12) (by omega) (by omega)) ?_
      have h1 := ih (j + 1) (by omega)
      rw [← nI_1] at h1
      unfold bI at h1 ⊢
      cases hb : tfA A n v j with
      | true =>
        have e : tfA A n v (j + 1) = true := by unfold tfA; rw [hb]; rfl
        rw [e] at h1
        exact br_nt (by decide) h1
      | false =>
        refine br_nf (by decide) ?_
        refine m_isLanding (fun q => br_f (by decide) ?_) (fun q => br_t rfl ?_)
        · refine m_peopleAt hn h4 ⟨fun q2 => ?_, fun q2 => ?_⟩
          · have e : tfA A n v (j + 1) = false := by unfold tfA; rw [hb, decide_eq_false (fun z => z.2 q2)]; rfl
            rw [e] at h1
            exact h1
          · have e : tfA A n v (j + 1) = true := by unfold tfA; rw [decide_eq_true (And.intro q q2), Bool.or_true]
            rw [e] at h1
            exact h1
        · have e : tfA A n v (j + 1) = false := by unfold tfA; rw [hb, decide_eq_false (fun z => q z.1)]; rfl
          rw [e] at h1
          exact h1
  exact ⟨13, key 12 0 (by omega)⟩
def lbA (A : Mem) : Nat → Nat
  | 0 => 0
  | s + 1 => lbA A s + (if lndA A (nI s) then 1 else 0)
theorem m_landings {A μ : Mem} {K : Int32 → Mem → Prop} (h : K (nI (lbA A 12)) (conA A μ)) : wp_X5_landings (conA A μ) K := by
  have key : ∀ d j, j + d = 12 → wp_X5_landings_L4 K (d + 1) (nI (lbA A j)) (nI j) (conA A μ) := by
    intro d
    induction d with
    | zero =>
      intro j hj
      have : j = 12 := by omega
      subst this
      rw [wp_X5_landings_L4_s]
      simp only
      exact br_t (by decide) h
    | succ d ih =>
      intro j hj
      rw [wp_X5_landings_L4_s]
      simp only
      refine br_f (nI_ge (b := 12) (by omega) (by omega)) ?_
      have h1 := ih (j + 1) (by omega)
      rw [lbA, ← nI_1] at h1
      refine m_isLanding (fun q => br_f (by decide) ?_) (fun q => br_t rfl ?_)
      · rw [if_pos q] at h1
        rw [nI_1 (lbA A j)]
        exact h1
      · rw [if_neg q] at h1
        rw [nI_addz]
        exact h1
  exact ⟨13, key 12 0 (by omega)⟩
theorem sub1_wide : ∀ n, n ≤ 24 → (nI n).toInt64 - 1 = (nI n - 1).toInt64 := by decide
theorem per_lt {n : Nat} (hn : n ≤ 24) (x : Int32) : nI n - 1 < x ↔ nI n ≤ x := by
  rw [fa_lt, fa_le, show (1 : Int32) = nI 1 from rfl, pk_sub_toInt (by omega) (by omega), nI_toInt (by omega)]
  omega
theorem per_ex {n : Nat} (hn : n ≤ 24) {x : Int32} (h0 : ¬ x < 0) (h1 : ¬ nI n ≤ x) : ∃ p, p < n ∧ x = nI p := by
  obtain ⟨j, hj, rfl⟩ := nI_of h0
  refine ⟨j, ?_, rfl⟩
  rcases Nat.lt_or_ge j n with q | q
  · exact q
  · exact absurd (nI_le q hj) h1
theorem m_isPerson {n : Nat} {x : Int32} {μ : Mem} {K : Int32 → Mem → Prop} (hn : n ≤ 24) (h4 : μ 288 4 = nI n) (h1 : ∀ p, p < n → x = nI p → K 1 μ) (h0 : (x < 0 ∨ nI n ≤ x) → K 0 μ) : wp_X5_isPerson x μ K := by
  unfold wp_X5_isPerson
  rw [h4]
  refine m_in (lo := 0) (hi := nI n - 1) rfl (sub1_wide n hn) (fun z => ⟨Or.inr rfl, ?_⟩) (fun z => ⟨Or.inl rfl, ?_⟩)
  · obtain ⟨p, hp, e⟩ := per_ex hn z.1 (fun y => z.2 ((per_lt hn x).mpr y))
    exact h1 p hp e
  · rcases z with z | z
    · exact h0 (Or.inl z)
    · exact h0 (Or.inr ((per_lt hn x).mp z))
theorem c_isPerson {n : Nat} {x : Int32} {μ : Mem} {K : Int32 → Mem → Prop} (hn : n ≤ 24) (h4 : μ 1 4 = nI n) (h1 : ∀ p, p < n → x = nI p → K 1 μ) (h0 : (x < 0 ∨ nI n ≤ x) → K 0 μ) : wp_X4_isPerson x μ K := by
  unfold wp_X4_isPerson
  rw [h4]
  refine ⟨fun z => h0 (Or.inl z), fun z => ⟨fun z2 => h0 (Or.inr z2), fun z2 => ?_⟩⟩
  obtain ⟨p, hp, e⟩ := per_ex hn z z2
  exact h1 p hp e

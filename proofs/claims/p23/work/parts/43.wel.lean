/-! WHAT HOLDS OF EACH PERSON: bows no fewer than yields, stays no more than waits; who does something in a tick -/
def WelP (a : Nat → Int32) (M T : Nat) : Prop := (∃ y b, a 5 = nI y ∧ a 6 = nI b ∧ y ≤ b ∧ b ≤ M) ∧ (∃ s w, a 8 = nI s ∧ a 4 = nI w ∧ s ≤ w ∧ w ≤ M) ∧ ((a 2 = 2 ∨ a 2 = 3) → a 8 = 0 ∧ ∃ j, a 7 = nI (j + 1) ∧ j < T)
def Wel (A : Mem) (n M T : Nat) : Prop := ∀ p, p < n → WelP (A (p + 1)) M T
theorem welp_mono {a : Nat → Int32} {M M' T T' : Nat} (hM : M ≤ M') (hT : T ≤ T') (h : WelP a M T) : WelP a M' T' := by
  obtain ⟨⟨y, b, h1, h2, h3, h4⟩, ⟨s, w, g1, g2, g3, g4⟩, k⟩ := h
  refine ⟨⟨y, b, h1, h2, h3, by omega⟩, ⟨s, w, g1, g2, g3, by omega⟩, fun z => ?_⟩
  obtain ⟨k1, j, k2, k3⟩ := k z
  exact ⟨k1, j, k2, by omega⟩
theorem wel_mono {A : Mem} {n M M' T T' : Nat} (hM : M ≤ M') (hT : T ≤ T') (h : Wel A n M T) : Wel A n M' T' := fun p hp => welp_mono hM hT (h p hp)
theorem welp_cg {a b : Nat → Int32} {M T : Nat} (h : ∀ k, k ≠ 0 → k ≠ 1 → k ≠ 3 → k ≠ 9 → b k = a k) (hw : WelP a M T) : WelP b M T := by
  unfold WelP
  rw [h 5 (by decide) (by decide) (by decide) (by decide), h 6 (by decide) (by decide) (by decide) (by decide), h 8 (by decide) (by decide) (by decide) (by decide), h 4 (by decide) (by decide) (by decide) (by decide), h 2 (by decide) (by decide) (by decide) (by decide), h 7 (by decide) (by decide) (by decide) (by decide)]
  exact hw
theorem wel_goes {A : Mem} {n M T p : Nat} {s d : Int32} (h : Wel A n M T) : Wel (goesA A p s d) n M T := by
  intro q hq
  by_cases e : q = p
  · subst e
    obtain ⟨⟨y, b, h1, h2, h3, h4⟩, ⟨s0, w, g1, g2, g3, g4⟩, k⟩ := h q hq
    refine ⟨⟨y, b, ?_, ?_, h3, h4⟩, ⟨0, w, ?_, ?_, Nat.zero_le _, g4⟩, fun z => ?_⟩
    · simpa [goesA, up2_app] using h1
    · simpa [goesA, up2_app] using h2
    · simp [goesA, up2_app]; rfl
    · simpa [goesA, up2_app] using g2
    · have e2 : goesA A q s d (q + 1) 2 = 1 := by simp [goesA, up2_app]
      rw [e2] at z
      rcases z with z | z <;> exact absurd z (by decide)
  · rw [goesA_ne e]
    exact h q hq
theorem wel_ends {A : Mem} {n M T t p : Nat} {w : Int32} (ht : A 0 3 = nI t) (hT : t < T) (h : Wel A n M T) : Wel (endsA A p w) n M T := by
  intro q hq
  by_cases e : q = p
  · subst e
    obtain ⟨⟨y, b, h1, h2, h3, h4⟩, ⟨s0, w0, g1, g2, g3, g4⟩, k⟩ := h q hq
    refine ⟨⟨y, b, ?_, ?_, h3, h4⟩, ⟨0, w0, ?_, ?_, Nat.zero_le _, g4⟩, fun z => ⟨?_, t, ?_, hT⟩⟩
    · simpa [endsA, up2_app] using h1
    · simpa [endsA, up2_app] using h2
    · simp [endsA, up2_app]; rfl
    · simpa [endsA, up2_app] using g2
    · simp [endsA, up2_app]
    · simp only [endsA, up2_app]
      simp [ht, nI_1]
  · rw [endsA_ne e]
    exact h q hq
theorem wel_bow {A : Mem} {n M T o p v : Nat} (hv1 : 1 ≤ v) (hv : v ≤ 45) (ev : bwA A o p = nI v) (h : Wel A n M T) : Wel (bowA A o p) n (M + 45) T := by
  intro q hq
  by_cases e : q = o
  · subst e
    obtain ⟨⟨y, b, h1, h2, h3, h4⟩, ⟨s0, w0, g1, g2, g3, g4⟩, k⟩ := h q hq
    refine ⟨⟨y + 1, b + v, ?_, ?_, by omega, by omega⟩, ⟨s0, w0, ?_, ?_, g3, by omega⟩, fun z => ?_⟩
    · simp [bowA, up2_app, h1, nI_1]
    · simp [bowA, up2_app, h2, ev, nI_add]
    · simpa [bowA, up2_app] using g1
    · simpa [bowA, up2_app] using g2
    · have e2 : bowA A q p (q + 1) 2 = A (q + 1) 2 := by simp [bowA, up2_app]
      have e8 : bowA A q p (q + 1) 8 = A (q + 1) 8 := by simp [bowA, up2_app]
      have e7 : bowA A q p (q + 1) 7 = A (q + 1) 7 := by simp [bowA, up2_app]
      rw [e2] at z
      rw [e8, e7]
      exact k z
  · rw [bowA_ne e]
    exact welp_mono (by omega) (Nat.le_refl _) (h q hq)
theorem wel_stays {A : Mem} {n M T p : Nat} (hw : A (p + 1) 2 = 0 ∨ A (p + 1) 2 = 1) (h : Wel A n M T) : Wel (staysA A p) n (M + 45) T := by
  intro q hq
  by_cases e : q = p
  · subst e
    obtain ⟨⟨y, b, h1, h2, h3, h4⟩, ⟨s0, w0, g1, g2, g3, g4⟩, k⟩ := h q hq
    refine ⟨⟨y, b, ?_, ?_, h3, by omega⟩, ⟨s0 + 1, w0 + 1, ?_, ?_, by omega, by omega⟩, fun z => ?_⟩
    · simpa [staysA, up2_app] using h1
    · simpa [staysA, up2_app] using h2
    · simp [staysA, up2_app, g1, nI_1]
    · simp [staysA, up2_app, g2, nI_1]
    · have e2 : staysA A q (q + 1) 2 = A (q + 1) 2 := by simp [staysA, up2_app]
      rw [e2] at z
      rcases hw with hw | hw <;> rw [hw] at z <;> rcases z with z | z <;> exact absurd z (by decide)
  · rw [staysA_ne e]
    exact welp_mono (by omega) (Nat.le_refl _) (h q hq)
theorem bow_le1 {A : Mem} {n o p : Nat} (hS : SetA A) (hO : OkA A n) (ho : o < n) (hp : p < n) (hy : yldA A o p) : ∃ v, 1 ≤ v ∧ v ≤ 45 ∧ bwA A o p = nI v := by
  obtain ⟨-, ⟨c, c1, c5, e⟩, -⟩ := hS
  obtain ⟨a, a1, a9, ea⟩ := (hO o ho).2.1
  obtain ⟨b, b1, b9, eb⟩ := (hO p hp).2.1
  have hab : a ≤ b := by
    rcases hy.2.1 with h | h
    · rw [ea, eb, nI_ltI (by omega) (by omega)] at h
      omega
    · have h1 := h.1
      rw [ea, eb] at h1
      have := nI_inj (by omega) (by omega) h1
      omega
  refine ⟨c * (b - a + 1), ?_, ?_, ?_⟩
  · exact Nat.mul_pos c1 (by omega)
  · have : b - a + 1 ≤ 9 := by omega
    exact Nat.mul_le_mul c5 this
  · unfold bwA
    rw [e, ea, eb, pk_sub hab, nI_1, pk_mul]
theorem wel_acts {A : Mem} {n M T t p : Nat} (hS : SetA A) (hO : OkA A n) (hp : p < n) (hw : A (p + 1) 2 = 0 ∨ A (p + 1) 2 = 1) (ht : A 0 3 = nI t) (hT : t < T) (h : Wel A n M T) : Wel (actsA A p n) n (M + 45) T := by
  have hm : ∀ B, Wel B n M T → Wel B n (M + 45) T := fun B hB => wel_mono (by omega) (Nat.le_refl _) hB
  unfold actsA
  split
  · split
    · exact hm _ (wel_goes h)
    · cases hy : yrA A (nextA A p) p n with
      | none => exact wel_stays hw h
      | some o =>
        simp only [ylA]
        obtain ⟨ho, hat, hyl⟩ := yrA_lt hy
        cases hww : waysA A o p n with
        | none => exact wel_stays hw h
        | some B =>
          obtain ⟨v, hv1, hv, ev⟩ := bow_le1 hS hO ho hp hyl
          have hb := wel_bow hv1 hv ev h
          have t3 : bowA A o p 0 3 = nI t := by rw [bow_0 (by decide)]; exact ht
          simp only [wyA]
          refine wel_goes ?_
          unfold waysA at hww
          split at hww
          · split at hww
            · cases hww; exact wel_goes hb
            · cases hww
          · cases hww; exact wel_ends t3 hT hb
  · exact hm _ (wel_ends ht hT h)
theorem lt2_way {A : Mem} {n p : Nat} (hO : OkA A n) (hp : p < n) (h : A (p + 1) 2 < 2) : A (p + 1) 2 = 0 ∨ A (p + 1) 2 = 1 := by
  rcases (hO p hp).2.2.1 with e | e | e | e
  · exact Or.inl e
  · exact Or.inr e
  · rw [e] at h; exact absurd h (by decide)
  · rw [e] at h; exact absurd h (by decide)
theorem wel_step {A : Mem} {n M T t p : Nat} {r : Int32} (hS : SetA A) (hO : OkA A n) (hp : p < n) (ht : A 0 3 = nI t) (hT : t < T) (h : Wel A n M T) : Wel (stepA A r p n) n (M + 45) T := by
  unfold stepA
  split
  · rename_i hc
    exact wel_acts hS hO hp (lt2_way hO hp hc.2.1) ht hT h
  · exact wel_mono (by omega) (Nat.le_refl _) h
theorem wel_rows {A : Mem} {n M T t : Nat} {r : Int32} (hS : SetA A) (hO : OkA A n) (ht : A 0 3 = nI t) (hT : t < T) (h : Wel A n M T) : ∀ p, p ≤ n → Wel (rowsA A r n p) n (M + 45 * p) T
  | 0, _ => h
  | p + 1, hp => by
    have := wel_step (r := r) (set_0 (fun k hk => rows_0 (r := r) (n := n) hk p) hS) (ok_rows (r := r) hO p) (p := p) (by omega) (by rw [rows_0 (by decide) p]; exact ht) hT (wel_rows hS hO ht hT h p (by omega))
    rw [rowsA]
    rw [show M + 45 * (p + 1) = M + 45 * p + 45 by omega]
    exact this
theorem wel_ranks {A : Mem} {n M T t : Nat} (hn : n ≤ 24) (hS : SetA A) (hO : OkA A n) (ht : A 0 3 = nI t) (hT : t < T) (h : Wel A n M T) : ∀ k, Wel (ranksA A n k) n (M + 1080 * k) T
  | 0 => h
  | k + 1 => by
    have := wel_rows (r := nI (9 - k)) (set_0 (fun j hj => ranks_0 (n := n) hj k) hS) (ok_ranks hO k) (by rw [ranks_0 (by decide) k]; exact ht) hT (wel_ranks hn hS hO ht hT h k) n (Nat.le_refl n)
    exact wel_mono (by omega) (Nat.le_refl _) this
theorem wel_tick {A : Mem} {n M t : Nat} (hI : InvA A n t) (h : Wel A n M t) : Wel (tickA A n) n (M + 9720) (t + 1) := by
  obtain ⟨hn, h4, h3, hS, hO, -, -, -⟩ := hI
  have hS' : SetA (clearA A) := set_0 (fun k hk => clear_k (by omega)) hS
  have hw : Wel (clearA A) n M (t + 1) := fun p hp => welp_cg (fun k h0 h1 h3 h9 => by unfold clearA; rw [if_neg (fun z => h9 z.1)]) (welp_mono (Nat.le_refl _) (by omega) (h p hp))
  have := wel_ranks hn hS' (ok_clear hO) (t := t) (by rw [clear_k (by decide)]; exact h3) (by omega) hw 9
  intro p hp
  unfold tickA
  rw [up2_ne _ _ _ _ (by omega)]
  exact this p hp
theorem wel_tk {A : Mem} {n M t : Nat} (hI : InvA A n t) (h : Wel A n M t) : ∀ j, Wel (tkA A n j) n (M + 9720 * j) (t + j)
  | 0 => h
  | j + 1 => by
    have := wel_tick (tk_inv hI j) (wel_tk hI h j)
    rw [tkA, show M + 9720 * (j + 1) = M + 9720 * j + 9720 by omega]
    exact this
theorem wel_comes {A : Mem} {n M t : Nat} {r u : Int32} (h : Wel A n M t) : Wel (comesA A n r u) (n + 1) M t := by
  intro p hp
  by_cases e : p = n
  · subst e
    refine ⟨⟨0, 0, ?_, ?_, Nat.le_refl _, Nat.zero_le _⟩, ⟨0, 0, ?_, ?_, Nat.le_refl _, Nat.zero_le _⟩, fun z => ?_⟩
    · rw [comes_p _ _ _ _ (by decide)]; rfl
    · rw [comes_p _ _ _ _ (by decide)]; rfl
    · rw [comes_p _ _ _ _ (by decide)]; rfl
    · rw [comes_p _ _ _ _ (by decide)]; rfl
    · rw [comes_p _ _ _ _ (by decide)] at z
      have z : (0 : Int32) = 2 ∨ (0 : Int32) = 3 := z
      rcases z with z | z <;> exact absurd z (by decide)
  · have e2 : comesA A n r u (p + 1) = A (p + 1) := funext (fun k => comes_q A n r u (by omega))
    rw [e2]
    exact h p (by omega)
theorem wel_up0 {A : Mem} {n M t k : Nat} {v : Int32} (h : Wel A n M t) : Wel (up2 A 0 k v) n M t := fun p hp => by
  rw [up2_ne _ _ _ _ (by omega)]
  exact h p hp
theorem wel_up1 {A : Mem} {n M t p : Nat} {v : Int32} (h : Wel A n M t) : Wel (up2 A (p + 1) 1 v) n M t := fun q hq => welp_cg (fun k h0 h1 h3 h9 => by rw [up2_app, if_neg (fun z => h1 z.2)]) (h q hq)
/-! who does something in a tick -/
theorem acts_self {A : Mem} {p n : Nat} : ¬ actsA A p n (p + 1) 9 = 0 := by
  have hst : ¬ staysA A p (p + 1) 9 = 0 := by
    have : staysA A p (p + 1) 9 = 3 := by simp [staysA, up2_app]
    rw [this]; decide
  have hgo : ∀ (B : Mem) (x : Int32), ¬ goesA B p x 1 (p + 1) 9 = 0 := fun B x => by
    have : goesA B p x 1 (p + 1) 9 = 1 := by simp [goesA, up2_app]
    rw [this]; decide
  unfold actsA
  split
  · split
    · exact hgo _ _
    · cases yrA A (nextA A p) p n with
      | none => exact hst
      | some o =>
        simp only [ylA]
        cases hw : waysA A o p n with
        | none => exact hst
        | some B => exact hgo _ _
  · have : endsA A p 2 (p + 1) 9 = 2 := by simp [endsA, up2_app]
    rw [this]; decide
theorem ways_other2 {A B : Mem} {o p n q : Nat} (hat : A (o + 1) 2 = 1) (h : waysA A o p n = some B) : (B (q + 1) 2 = A (q + 1) 2 ∧ B (q + 1) 9 = A (q + 1) 9) ∨ (A (q + 1) 2 = 1 ∧ ¬ B (q + 1) 9 = 0) := by
  unfold waysA at h
  split at h
  · split at h
    · cases h
      by_cases e : q = o
      · subst e
        refine Or.inr ⟨hat, ?_⟩
        have : goesA (bowA A q p) q (A (q + 1) 3 + wayA A p) 4 (q + 1) 9 = 4 := by simp [goesA, up2_app]
        rw [this]; decide
      · exact Or.inl (by rw [goesA_ne e, bowA_ne e]; exact ⟨rfl, rfl⟩)
    · cases h
  · cases h
    by_cases e : q = o
    · subst e
      refine Or.inr ⟨hat, ?_⟩
      have : endsA (bowA A q p) q 3 (q + 1) 9 = 5 := by simp [endsA, up2_app]
      rw [this]; decide
    · exact Or.inl (by rw [endsA_ne e, bowA_ne e]; exact ⟨rfl, rfl⟩)
theorem acts_other2 {A : Mem} {p n q : Nat} (hq : q ≠ p) : (actsA A p n (q + 1) 2 = A (q + 1) 2 ∧ actsA A p n (q + 1) 9 = A (q + 1) 9) ∨ (A (q + 1) 2 = 1 ∧ ¬ actsA A p n (q + 1) 9 = 0) := by
  unfold actsA
  split
  · split
    · exact Or.inl (by rw [goesA_ne hq]; exact ⟨rfl, rfl⟩)
    · cases hy : yrA A (nextA A p) p n with
      | none => exact Or.inl (by simp only [ylA]; rw [staysA_ne hq]; exact ⟨rfl, rfl⟩)
      | some o =>
        simp only [ylA]
        obtain ⟨-, hat, -⟩ := yrA_lt hy
        cases hw : waysA A o p n with
        | none => exact Or.inl (by simp only [wyA]; rw [staysA_ne hq]; exact ⟨rfl, rfl⟩)
        | some B =>
          simp only [wyA]
          rw [goesA_ne hq]
          exact ways_other2 hat.1 hw
  · exact Or.inl (by rw [endsA_ne hq]; exact ⟨rfl, rfl⟩)
abbrev wy (x : Int32) : Prop := x = 0 ∨ x = 1
def Dv (A B : Mem) (k j n : Nat) : Prop := ∀ p, p < n → B (p + 1) 0 = A (p + 1) 0 ∧ (B (p + 1) 9 = 0 → B (p + 1) 2 = A (p + 1) 2) ∧ (¬ wy (A (p + 1) 2) → B (p + 1) 9 = 0) ∧ ∀ r : Nat, 1 ≤ r → r ≤ 9 → A (p + 1) 0 = nI r → (9 - k < r ∨ (r = 9 - k ∧ p < j)) → wy (B (p + 1) 2) → ¬ B (p + 1) 9 = 0
theorem wy_lt {x : Int32} (h : wy x) : x < 2 := by rcases h with rfl | rfl <;> decide
theorem dv_step {A B : Mem} {k j n : Nat} (hk : k < 9) (hj : j < n) (hO : OkA B n) (h : Dv A B k j n) : Dv A (stepA B (nI (9 - k)) j n) k (j + 1) n := by
  intro p hp
  obtain ⟨h0, ha, hb, hc⟩ := h p hp
  unfold stepA
  split
  · rename_i hcd
    by_cases e : p = j
    · subst e
      refine ⟨by rw [acts_0k]; exact h0, fun z => absurd z acts_self, fun z => ?_, fun _ _ _ _ _ _ => acts_self⟩
      have h2 := ha (hb z)
      have := lt2_way hO hp hcd.2.1
      rw [h2] at this
      exact absurd this z
    · refine ⟨by rw [acts_0k]; exact h0, ?_⟩
      rcases acts_other2 (A := B) (n := n) e with ⟨e2, e9⟩ | ⟨e1, e9⟩
      · rw [e2, e9]
        exact ⟨ha, hb, fun r r1 r9 er hv hw => hc r r1 r9 er (by omega) hw⟩
      · refine ⟨fun z => absurd z e9, fun z => ?_, fun _ _ _ _ _ _ => e9⟩
        have h2 := ha (hb z)
        rw [e1] at h2
        exact absurd (Or.inr h2.symm) z
  · rename_i hcd
    refine ⟨h0, ha, hb, fun r r1 r9 er hv hw => ?_⟩
    by_cases e : p = j ∧ r = 9 - k
    · obtain ⟨rfl, rfl⟩ := e
      exact fun z => hcd ⟨by rw [h0]; exact er, wy_lt hw, z⟩
    · exact hc r r1 r9 er (by omega) hw
theorem dv_rows {A B : Mem} {k n : Nat} (hk : k < 9) (hO : OkA B n) (h : Dv A B k 0 n) : ∀ j, j ≤ n → Dv A (rowsA B (nI (9 - k)) n j) k j n
  | 0, _ => h
  | j + 1, hj => by rw [rowsA]; exact dv_step hk (by omega) (ok_rows hO j) (dv_rows hk hO h j (by omega))
theorem dv_ranks {A B : Mem} {n : Nat} (hO : OkA B n) (h : Dv A B 0 0 n) : ∀ k, k ≤ 9 → Dv A (ranksA B n k) k 0 n
  | 0, _ => h
  | k + 1, hk => by
    have := dv_rows (k := k) (by omega) (ok_ranks hO k) (dv_ranks hO h k (by omega)) n (Nat.le_refl n)
    intro p hp
    obtain ⟨h0, ha, hb, hc⟩ := this p hp
    exact ⟨h0, ha, hb, fun r r1 r9 er hv hw => hc r r1 r9 er (by omega) hw⟩
theorem deed_iff {A : Mem} {n p : Nat} (hn : n ≤ 24) (hO : OkA A n) (hp : p < n) : tickA A n (p + 1) 9 = 0 ↔ ¬ wy (A (p + 1) 2) := by
  have hs : Dv A (clearA A) 0 0 n := fun q hq => ⟨clear_k (by decide), fun _ => clear_k (by decide), fun _ => by unfold clearA; rw [if_pos ⟨rfl, by omega, by omega⟩], fun r r1 r9 er hv hw => by omega⟩
  obtain ⟨h0, ha, hb, hc⟩ := dv_ranks (ok_clear hO) hs 9 (Nat.le_refl _) p hp
  obtain ⟨r, r1, r9, er⟩ := (hO p hp).2.1
  unfold tickA
  rw [up2_ne _ _ _ _ (by omega)]
  refine ⟨fun z w => ?_, hb⟩
  have h2 := ha z
  exact hc r r1 r9 er (by omega) (by rw [h2]; exact w) z
/-! the highest on a step -/
theorem hi_none {A : Mem} {s : Int32} : ∀ {n : Nat}, hiA A s n = none ↔ cntA A s n = 0
  | 0 => ⟨fun _ => rfl, fun _ => rfl⟩
  | n + 1 => by
    have ih := hi_none (A := A) (s := s) (n := n)
    unfold cntA
    by_cases hc : A (n + 1) 2 = 1 ∧ A (n + 1) 3 = s
    · rw [if_pos hc]
      constructor
      · intro h
        cases hh : hiA A s n with
        | none => rw [hiA_s hc hh] at h; cases h
        | some q => rw [hiA_s2 hc hh] at h; split at h <;> cases h
      · intro h; omega
    · rw [if_neg hc, hiA_n hc, ih, Nat.add_zero]
theorem hi_best {A : Mem} {s : Int32} : ∀ {n p : Nat}, p < n → (A (p + 1) 2 = 1 ∧ A (p + 1) 3 = s) → ∃ q, hiA A s n = some q ∧ q < n ∧ (A (p + 1) 0 < A (q + 1) 0 ∨ (A (q + 1) 0 = A (p + 1) 0 ∧ q ≤ p))
  | 0, p, hp, _ => by omega
  | n + 1, p, hp, hat => by
    by_cases hc : A (n + 1) 2 = 1 ∧ A (n + 1) 3 = s
    · by_cases e : p = n
      · subst e
        cases hh : hiA A s p with
        | none => exact ⟨p, hiA_s hc hh, by omega, Or.inr ⟨rfl, Nat.le_refl _⟩⟩
        | some q =>
          have hq := hiA_lt hh
          by_cases hlt : A (q + 1) 0 < A (p + 1) 0
          · exact ⟨p, by rw [hiA_s2 hc hh, if_pos hlt], by omega, Or.inr ⟨rfl, Nat.le_refl _⟩⟩
          · refine ⟨q, by rw [hiA_s2 hc hh, if_neg hlt], by omega, ?_⟩
            by_cases he : A (q + 1) 0 = A (p + 1) 0
            · exact Or.inr ⟨he, by omega⟩
            · left
              rw [fa_lt] at hlt ⊢
              rw [fa_eq] at he
              omega
      · obtain ⟨q, hh, hq, hb⟩ := hi_best (A := A) (s := s) (n := n) (p := p) (by omega) hat
        by_cases hlt : A (q + 1) 0 < A (n + 1) 0
        · refine ⟨n, by rw [hiA_s2 hc hh, if_pos hlt], by omega, Or.inl ?_⟩
          rw [fa_lt] at hlt ⊢
          rcases hb with hb | ⟨hb, _⟩
          · rw [fa_lt] at hb; omega
          · rw [fa_eq] at hb; omega
        · exact ⟨q, by rw [hiA_s2 hc hh, if_neg hlt], by omega, hb⟩
    · have hpn : p ≠ n := fun e => hc (by rw [← e]; exact hat)
      obtain ⟨q, hh, hq, hb⟩ := hi_best (A := A) (s := s) (n := n) (p := p) (by omega) hat
      exact ⟨q, by rw [hiA_n hc]; exact hh, by omega, hb⟩
/-! the landings, as a set -/
def mkN (L : Nat) : Nat → Int32
  | 0 => 0
  | s + 1 => mkN L s + ((if ((nI L >>> (nI s &&& 31)) &&& 1) = 1 then 1 else 0) <<< (nI s &&& 31))
theorem mk_ok2 : ∀ a, a < 64 → ∀ b, b < 64 → mkN (64 * a + b) 12 = nI (64 * a + b) := by decide +kernel
theorem mk_ok (L : Nat) (h : L < 4096) : mkN L 12 = nI L := by
  have := mk_ok2 (L / 64) (by omega) (L % 64) (by omega)
  rwa [show 64 * (L / 64) + L % 64 = L by omega] at this
def mkA (A : Mem) : Nat → Int32
  | 0 => 0
  | s + 1 => mkA A s + (lfI A s <<< (nI s &&& 31))
theorem mkA_N {A : Mem} {L : Nat} (h : A 0 5 = nI L) : ∀ s, mkA A s = mkN L s
  | 0 => rfl
  | s + 1 => by
    unfold mkA mkN lfI lndA
    rw [mkA_N h s]
    simp only [h]
theorem mkA_ok {A : Mem} (hS : SetA A) : mkA A 12 = A 0 5 := by
  obtain ⟨-, -, -, L, hL, e⟩ := hS
  rw [mkA_N e, mk_ok L hL, e]

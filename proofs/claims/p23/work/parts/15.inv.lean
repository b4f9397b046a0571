/-! WHAT STAYS TRUE of the rows: room on the steps, sums, how many bows at most -/
def sumA (A : Mem) (k : Nat) : Nat → Int32
  | 0 => 0
  | n + 1 => sumA A k n + A (n + 1) k
theorem sum_congr {A B : Mem} {k : Nat} : ∀ {n : Nat}, (∀ q, q < n → B (q + 1) k = A (q + 1) k) → sumA B k n = sumA A k n
  | 0, _ => rfl
  | n + 1, h => by
    unfold sumA
    rw [sum_congr (n := n) (fun q hq => h q (by omega)), h n (by omega)]
theorem sum_mod {A B : Mem} {k p : Nat} {v : Int32} : ∀ {n : Nat}, p < n → (∀ q, q < n → q ≠ p → B (q + 1) k = A (q + 1) k) → B (p + 1) k = A (p + 1) k + v → sumA B k n = sumA A k n + v
  | 0, h, _, _ => by omega
  | n + 1, h, hq, hv => by
    unfold sumA
    by_cases hp : p = n
    · subst hp
      rw [sum_congr (A := A) (B := B) (n := p) (fun q h2 => hq q (by omega) (by omega)), hv, Int32.add_assoc]
    · rw [sum_mod (n := n) (by omega) (fun q h2 h3 => hq q (by omega) h3) hv, hq n (by omega) (Ne.symm hp), Int32.add_assoc, Int32.add_assoc, Int32.add_comm v]
def Tot (A : Mem) (n : Nat) : Prop := A 0 6 = sumA A 6 n ∧ A 0 7 = sumA A 5 n ∧ A 0 8 = sumA A 4 n
def capN (A : Mem) (s : Nat) : Nat := if lndA A (nI s) then (A 0 0).toNatClampNeg else 1
def CapOk (A : Mem) (n : Nat) : Prop := ∀ s, s < 12 → cntA A (nI s) n ≤ capN A s
def Bow (A : Mem) (c : Nat) : Prop := ∃ w, w ≤ c ∧ A 0 6 = nI w
def SetA (A : Mem) : Prop := (∃ h, 1 ≤ h ∧ h ≤ 4 ∧ A 0 0 = nI h) ∧ (∃ c, 1 ≤ c ∧ c ≤ 5 ∧ A 0 1 = nI c) ∧ (∃ q, q ≤ 9 ∧ A 0 2 = nI q) ∧ (∃ L, L < 4096 ∧ A 0 5 = nI L)
def InvA (A : Mem) (n t : Nat) : Prop := n ≤ 24 ∧ A 0 4 = nI n ∧ A 0 3 = nI t ∧ SetA A ∧ OkA A n ∧ CapOk A n ∧ Tot A n ∧ Bow A (9720 * t)
/-- the staircase's own numbers but sums and ticks stay through a deed -/
theorem ways_0 {A B : Mem} {o p n k : Nat} (hk : k < 6) (h : waysA A o p n = some B) : B 0 k = A 0 k := by
  have hb : bowA A o p 0 k = A 0 k := by simp [bowA, up2_app, show k ≠ 6 by omega, show k ≠ 7 by omega]
  unfold waysA at h
  split at h
  · split at h
    · cases h; rw [goesA_0, hb]
    · cases h
  · cases h; rw [endsA_0, hb]
theorem acts_0 {A : Mem} {p n k : Nat} (hk : k < 6) : actsA A p n 0 k = A 0 k := by
  have hs : staysA A p 0 k = A 0 k := by simp [staysA, up2_app, show k ≠ 8 by omega]
  unfold actsA
  split
  · split
    · rw [goesA_0]
    · cases yrA A (nextA A p) p n with
      | none => exact hs
      | some o =>
        simp only [ylA]
        cases hw : waysA A o p n with
        | none => exact hs
        | some B => simp only [wyA]; rw [goesA_0, ways_0 hk hw]
  · rw [endsA_0]
theorem step_0 {A : Mem} {p n k : Nat} {r : Int32} (hk : k < 6) : stepA A r p n 0 k = A 0 k := by
  unfold stepA
  split
  · exact acts_0 hk
  · rfl
theorem rows_0 {A : Mem} {n k : Nat} {r : Int32} (hk : k < 6) : ∀ p, rowsA A r n p 0 k = A 0 k
  | 0 => rfl
  | p + 1 => by rw [rowsA, step_0 hk, rows_0 hk p]
theorem ranks_0 {A : Mem} {n k : Nat} (hk : k < 6) : ∀ j, ranksA A n j 0 k = A 0 k
  | 0 => rfl
  | j + 1 => by rw [ranksA, rows_0 hk, ranks_0 hk j]
theorem cap_05 {A B : Mem} (h0 : B 0 0 = A 0 0) (h5 : B 0 5 = A 0 5) (s : Nat) : capN B s = capN A s := by
  unfold capN lndA
  simp only [h0, h5]
theorem cap_0 {A B : Mem} (h : ∀ k, k < 6 → B 0 k = A 0 k) (s : Nat) : capN B s = capN A s := cap_05 (h 0 (by omega)) (h 5 (by omega)) s
theorem set_0 {A B : Mem} (h : ∀ k, k < 6 → B 0 k = A 0 k) (hs : SetA A) : SetA B := by
  unfold SetA
  rw [h 0 (by omega), h 1 (by omega), h 2 (by omega), h 5 (by omega)]
  exact hs
/-! sums -/
theorem tot_goes {A : Mem} {n p : Nat} {s d : Int32} (h : Tot A n) : Tot (goesA A p s d) n := by
  have hk : ∀ k, k = 4 ∨ k = 5 ∨ k = 6 → sumA (goesA A p s d) k n = sumA A k n := fun k hk => sum_congr (fun q _ => by
    by_cases e : q = p
    · subst e
      simp [goesA, up2_app, show k ≠ 2 by omega, show k ≠ 3 by omega, show k ≠ 8 by omega, show k ≠ 9 by omega]
    · rw [goesA_ne e])
  unfold Tot
  rw [goesA_0, hk 4 (by omega), hk 5 (by omega), hk 6 (by omega)]
  exact h
theorem tot_ends {A : Mem} {n p : Nat} {w : Int32} (h : Tot A n) : Tot (endsA A p w) n := by
  have hk : ∀ k, k = 4 ∨ k = 5 ∨ k = 6 → sumA (endsA A p w) k n = sumA A k n := fun k hk => sum_congr (fun q _ => by
    by_cases e : q = p
    · subst e
      simp [endsA, up2_app, show k ≠ 2 by omega, show k ≠ 3 by omega, show k ≠ 7 by omega, show k ≠ 8 by omega, show k ≠ 9 by omega]
    · rw [endsA_ne e])
  unfold Tot
  rw [endsA_0, hk 4 (by omega), hk 5 (by omega), hk 6 (by omega)]
  exact h
theorem tot_bow {A : Mem} {n o p : Nat} (ho : o < n) (h : Tot A n) : Tot (bowA A o p) n := by
  obtain ⟨h6, h7, h8⟩ := h
  refine ⟨?_, ?_, ?_⟩
  · rw [sum_mod (A := A) (B := bowA A o p) (k := 6) (v := bwA A o p) ho (fun q _ hq => by rw [bowA_ne hq]) (by simp [bowA, up2_app]), ← h6]
    simp [bowA, up2_app]
  · rw [sum_mod (A := A) (B := bowA A o p) (k := 5) (v := 1) ho (fun q _ hq => by rw [bowA_ne hq]) (by simp [bowA, up2_app]), ← h7]
    simp [bowA, up2_app]
  · rw [sum_congr (A := A) (B := bowA A o p) (k := 4) (fun q _ => by
      by_cases e : q = o
      · subst e; simp [bowA, up2_app]
      · rw [bowA_ne e]), ← h8]
    simp [bowA, up2_app]
theorem tot_stays {A : Mem} {n p : Nat} (hp : p < n) (h : Tot A n) : Tot (staysA A p) n := by
  obtain ⟨h6, h7, h8⟩ := h
  have hk : ∀ k, k = 5 ∨ k = 6 → sumA (staysA A p) k n = sumA A k n := fun k hk => sum_congr (fun q _ => by
    by_cases e : q = p
    · subst e
      simp [staysA, up2_app, show k ≠ 4 by omega, show k ≠ 8 by omega, show k ≠ 9 by omega]
    · rw [staysA_ne e])
  refine ⟨?_, ?_, ?_⟩
  · rw [hk 6 (by omega), ← h6]; simp [staysA, up2_app]
  · rw [hk 5 (by omega), ← h7]; simp [staysA, up2_app]
  · rw [sum_mod (A := A) (B := staysA A p) (k := 4) (v := 1) hp (fun q _ hq => by rw [staysA_ne hq]) (by simp [staysA, up2_app]), ← h8]
    simp [staysA, up2_app]
theorem tot_ways {A B : Mem} {n o p : Nat} (ho : o < n) (h : Tot A n) (hB : waysA A o p n = some B) : Tot B n := by
  unfold waysA at hB
  split at hB
  · split at hB
    · cases hB; exact tot_goes (tot_bow ho h)
    · cases hB
  · cases hB; exact tot_ends (tot_bow ho h)
theorem tot_acts {A : Mem} {n p : Nat} (hp : p < n) (h : Tot A n) : Tot (actsA A p n) n := by
  unfold actsA
  split
  · split
    · exact tot_goes h
    · cases hy : yrA A (nextA A p) p n with
      | none => exact tot_stays hp h
      | some o =>
        simp only [ylA]
        cases hw : waysA A o p n with
        | none => exact tot_stays hp h
        | some B => exact tot_goes (tot_ways (yrA_lt hy).1 h hw)
  · exact tot_ends h
/-! room -/
theorem room_cnt {A : Mem} {n s : Nat} (hn : n ≤ 24) (hs : SetA A) (h : 0 < roomA A n (nI s)) : cntA A (nI s) n < capN A s := by
  obtain ⟨⟨c, c1, c4, e⟩, -⟩ := hs
  have hc := cnt_le (A := A) (s := nI s) n
  unfold roomA at h
  unfold capN
  split at h
  · rename_i hl
    rw [if_pos hl, e, nI_clamp (by omega)]
    rw [e] at h
    rcases Nat.lt_or_ge (cntA A (nI s) n) c with q | q
    · exact q
    · rw [fa_lt, pk_sub_toInt (by omega) (by omega)] at h
      have h0 : (0 : Int32).toInt = 0 := rfl
      omega
  · rename_i hl
    rw [if_neg hl]
    rcases Nat.lt_or_ge (cntA A (nI s) n) 1 with q | q
    · exact q
    · rw [show (1 : Int32) = nI 1 from rfl, fa_lt, pk_sub_toInt (by omega) (by omega)] at h
      have h0 : (0 : Int32).toInt = 0 := rfl
      omega
theorem cap_goes {A : Mem} {n p : Nat} {to d : Int32} (hp : p < n) (h : CapOk A n) (hr : ∀ s, s < 12 → to = nI s → cntA A (nI s) n < capN A s) : CapOk (goesA A p to d) n := by
  intro s hs
  have hm := cnt_mod (A := A) (B := goesA A p to d) (s := nI s) (p := p) hp (fun q _ hq => by rw [goesA_ne hq]; exact ⟨rfl, rfl⟩)
  rw [cap_0 (A := A) (fun k _ => by rw [goesA_0])]
  have h1 := h s hs
  have hb : a1A (goesA A p to d) p (nI s) = if to = nI s then 1 else 0 := by
    unfold a1A
    simp [goesA, up2_app]
  rw [hb] at hm
  by_cases e : to = nI s
  · have := hr s hs e
    rw [if_pos e] at hm
    omega
  · rw [if_neg e] at hm
    omega
theorem cap_ends {A : Mem} {n p : Nat} {w : Int32} (hw : w = 2 ∨ w = 3) (hp : p < n) (h : CapOk A n) : CapOk (endsA A p w) n := by
  intro s hs
  have hm := cnt_mod (A := A) (B := endsA A p w) (s := nI s) (p := p) hp (fun q _ hq => by rw [endsA_ne hq]; exact ⟨rfl, rfl⟩)
  rw [cap_0 (A := A) (fun k _ => by rw [endsA_0])]
  have h1 := h s hs
  have hb : a1A (endsA A p w) p (nI s) = 0 := by
    unfold a1A
    rw [if_neg]
    intro z
    have e : endsA A p w (p + 1) 2 = w := by simp [endsA, up2_app]
    rw [e] at z
    rcases hw with rfl | rfl <;> exact absurd z.1 (by decide)
  omega
theorem cnt_bow {A : Mem} {o p n : Nat} {s : Int32} : cntA (bowA A o p) s n = cntA A s n := cnt_congr (fun q _ => by
  by_cases e : q = o
  · subst e; simp [bowA, up2_app]
  · rw [bowA_ne e]; exact ⟨rfl, rfl⟩)
theorem bow_0 {A : Mem} {o p k : Nat} (hk : k < 6) : bowA A o p 0 k = A 0 k := by simp [bowA, up2_app, show k ≠ 6 by omega, show k ≠ 7 by omega]
theorem cap_bow {A : Mem} {n o p : Nat} (h : CapOk A n) : CapOk (bowA A o p) n := by
  intro s hs
  rw [cnt_bow, cap_0 (fun k hk => bow_0 hk)]
  exact h s hs
theorem ne_way {x : Int32} {A : Mem} {p : Nat} : ¬ x + wayA A p = x := by
  unfold wayA
  intro e
  have e2 : x + (if A (p + 1) 1 = 1 then 1 else -1) - x = x - x := by rw [e]
  rw [Int32.sub_self, Int32.sub_eq_add_neg, Int32.add_comm x, Int32.add_assoc, ← Int32.sub_eq_add_neg, Int32.sub_self, Int32.add_zero] at e2
  split at e2 <;> exact absurd e2 (by decide)
/-- whoever steps back leaves room where it stood -/
theorem cap_ways {A B : Mem} {n o p : Nat} {x : Int32} (hn : n ≤ 24) (hS : SetA A) (ho : o < n) (hat : A (o + 1) 2 = 1 ∧ A (o + 1) 3 = x) (h : CapOk A n) (hB : waysA A o p n = some B) : CapOk B n ∧ ∀ s, s < 12 → x = nI s → cntA B (nI s) n < capN B s := by
  have leave : ∀ C : Mem, (∀ q, q ≠ o → C (q + 1) = A (q + 1)) → (∀ k, k < 6 → C 0 k = A 0 k) → (¬ (C (o + 1) 2 = 1 ∧ C (o + 1) 3 = x)) → ∀ s, s < 12 → x = nI s → cntA C (nI s) n < capN C s := by
    intro C hq h0 hx s hs e
    have hm := cnt_mod (A := A) (B := C) (s := nI s) (p := o) ho (fun q _ hne => by rw [hq q hne]; exact ⟨rfl, rfl⟩)
    rw [cap_0 h0]
    have h1 := h s hs
    unfold a1A at hm
    rw [if_pos (by rw [← e]; exact hat), if_neg (by rw [← e]; exact hx)] at hm
    omega
  unfold waysA at hB
  split at hB
  · rename_i hst
    split at hB
    · rename_i hr
      cases hB
      refine ⟨cap_goes ho (cap_bow h) (fun s hs e => ?_), leave _ (fun q hq => by rw [goesA_ne hq, bowA_ne hq]) (fun k hk => by rw [goesA_0, bow_0 hk]) (fun z => ?_)⟩
      · rw [cnt_bow, cap_0 (fun k hk => bow_0 hk)]
        rw [e] at hr
        exact room_cnt hn hS hr
      · have e : goesA (bowA A o p) o (A (o + 1) 3 + wayA A p) 4 (o + 1) 3 = A (o + 1) 3 + wayA A p := by simp [goesA, up2_app]
        rw [e, hat.2] at z
        exact ne_way z.2
    · cases hB
  · cases hB
    refine ⟨cap_ends (Or.inr rfl) ho (cap_bow h), leave _ (fun q hq => by rw [endsA_ne hq, bowA_ne hq]) (fun k hk => by rw [endsA_0, bow_0 hk]) (fun z => ?_)⟩
    have e : endsA (bowA A o p) o 3 (o + 1) 2 = 3 := by simp [endsA, up2_app]
    rw [e] at z
    exact absurd z.1 (by decide)
theorem cap_stays {A : Mem} {n p : Nat} (h : CapOk A n) : CapOk (staysA A p) n := by
  intro s hs
  rw [cnt_congr (A := A) (B := staysA A p), cap_0 (A := A) (fun k hk => by simp [staysA, up2_app, show k ≠ 8 by omega])]
  · exact h s hs
  · intro q _
    by_cases e : q = p
    · subst e; simp [staysA, up2_app]
    · rw [staysA_ne e]; exact ⟨rfl, rfl⟩
theorem cap_acts {A : Mem} {n p : Nat} (hn : n ≤ 24) (hS : SetA A) (hp : p < n) (h : CapOk A n) : CapOk (actsA A p n) n := by
  unfold actsA
  split
  · split
    · rename_i hr
      exact cap_goes hp h (fun s hs e => by rw [e] at hr; exact room_cnt hn hS hr)
    · cases hy : yrA A (nextA A p) p n with
      | none => exact cap_stays h
      | some o =>
        simp only [ylA]
        obtain ⟨ho, hat, -⟩ := yrA_lt hy
        cases hw : waysA A o p n with
        | none => exact cap_stays h
        | some B =>
          obtain ⟨h1, h2⟩ := cap_ways hn hS ho hat h hw
          exact cap_goes hp h1 h2
  · exact cap_ends (Or.inl rfl) hp h
/-! bows -/
theorem bow_le {A : Mem} {n o p : Nat} (hS : SetA A) (hO : OkA A n) (ho : o < n) (hp : p < n) (hy : yldA A o p) : ∃ v, v ≤ 45 ∧ bwA A o p = nI v := by
  obtain ⟨-, ⟨c, c1, c5, e⟩, -⟩ := hS
  obtain ⟨a, a1, a9, ea⟩ := (hO o ho).2.1
  obtain ⟨b, b1, b9, eb⟩ := (hO p hp).2.1
  have hab : a ≤ b := by
    rcases hy.2.1 with h | h
    · rw [ea, eb, nI_ltI (by omega) (by omega)] at h
      omega
    · have h1 := h.1
      rw [ea, eb] at h1
      have := nI_inj (by omega) (by omega) h1
      omega
  refine ⟨c * (b - a + 1), ?_, ?_⟩
  · have : b - a + 1 ≤ 9 := by omega
    exact Nat.mul_le_mul c5 this
  · unfold bwA
    rw [e, ea, eb, pk_sub hab, nI_1, pk_mul]
theorem bow_acts {A : Mem} {n p c : Nat} (hS : SetA A) (hO : OkA A n) (hp : p < n) (h : Bow A c) : Bow (actsA A p n) (c + 45) := by
  obtain ⟨w, hw, e⟩ := h
  have keep : ∀ B : Mem, B 0 6 = A 0 6 → Bow B (c + 45) := fun B hB => ⟨w, by omega, hB.trans e⟩
  unfold actsA
  split
  · split
    · exact keep _ (by rw [goesA_0])
    · cases hy : yrA A (nextA A p) p n with
      | none => exact keep _ (by simp [ylA, staysA, up2_app])
      | some o =>
        simp only [ylA]
        obtain ⟨ho, hat, hyl⟩ := yrA_lt hy
        cases hww : waysA A o p n with
        | none => exact keep _ (by simp [wyA, staysA, up2_app])
        | some B =>
          obtain ⟨v, hv, ev⟩ := bow_le hS hO ho hp hyl
          have e6 : B 0 6 = A 0 6 + bwA A o p := by
            unfold waysA at hww
            split at hww
            · split at hww
              · cases hww; rw [goesA_0]; simp [bowA, up2_app]
              · cases hww
            · cases hww; rw [endsA_0]; simp [bowA, up2_app]
          refine ⟨w + v, by omega, ?_⟩
          simp only [wyA]
          rw [goesA_0, e6, e, ev, nI_add]
  · exact keep _ (by rw [endsA_0])
theorem bow_step {A : Mem} {n p c : Nat} {r : Int32} (hS : SetA A) (hO : OkA A n) (hp : p < n) (h : Bow A c) : Bow (stepA A r p n) (c + 45) := by
  unfold stepA
  split
  · exact bow_acts hS hO hp h
  · obtain ⟨w, hw, e⟩ := h
    exact ⟨w, by omega, e⟩
theorem bow_rows {A : Mem} {n c : Nat} {r : Int32} (hS : SetA A) (hO : OkA A n) (h : Bow A c) : ∀ p, p ≤ n → Bow (rowsA A r n p) (c + 45 * p)
  | 0, _ => h
  | p + 1, hp => by
    have := bow_step (r := r) (set_0 (fun k hk => rows_0 (r := r) (n := n) hk p) hS) (ok_rows (r := r) hO p) (p := p) (by omega) (bow_rows hS hO h p (by omega))
    rw [rowsA]
    rw [show c + 45 * (p + 1) = c + 45 * p + 45 by omega]
    exact this
theorem bow_ranks {A : Mem} {n c : Nat} (hn : n ≤ 24) (hS : SetA A) (hO : OkA A n) (h : Bow A c) : ∀ k, Bow (ranksA A n k) (c + 1080 * k)
  | 0 => h
  | k + 1 => by
    obtain ⟨w, hw, e⟩ := bow_rows (r := nI (9 - k)) (set_0 (fun j hj => ranks_0 (n := n) hj k) hS) (ok_ranks hO k) (bow_ranks hn hS hO h k) n (Nat.le_refl n)
    exact ⟨w, by omega, e⟩
/-! a tick -/
theorem step_inv {A : Mem} {n p : Nat} {r : Int32} (hn : n ≤ 24) (hS : SetA A) (hp : p < n) (h : CapOk A n ∧ Tot A n) : CapOk (stepA A r p n) n ∧ Tot (stepA A r p n) n := by
  unfold stepA
  split
  · exact ⟨cap_acts hn hS hp h.1, tot_acts hp h.2⟩
  · exact h
theorem rows_inv {A : Mem} {n : Nat} {r : Int32} (hn : n ≤ 24) (hS : SetA A) (h : CapOk A n ∧ Tot A n) : ∀ p, p ≤ n → CapOk (rowsA A r n p) n ∧ Tot (rowsA A r n p) n
  | 0, _ => h
  | p + 1, hp => by
    rw [rowsA]
    exact step_inv hn (set_0 (fun k hk => rows_0 hk p) hS) (by omega) (rows_inv hn hS h p (by omega))
theorem ranks_inv {A : Mem} {n : Nat} (hn : n ≤ 24) (hS : SetA A) (h : CapOk A n ∧ Tot A n) : ∀ k, CapOk (ranksA A n k) n ∧ Tot (ranksA A n k) n
  | 0 => h
  | k + 1 => by
    rw [ranksA]
    exact rows_inv hn (set_0 (fun j hj => ranks_0 hj k) hS) (ranks_inv hn hS h k) n (Nat.le_refl n)
theorem clear_k {A : Mem} {i k : Nat} (hk : k < 9) : clearA A i k = A i k := by unfold clearA; rw [if_neg (by omega)]
theorem inv_tick {A : Mem} {n t : Nat} (h : InvA A n t) : InvA (tickA A n) n (t + 1) := by
  obtain ⟨hn, h4, h3, hS, hO, hC, hT, hB⟩ := h
  have hS' : SetA (clearA A) := set_0 (fun k hk => clear_k (by omega)) hS
  have hC' : CapOk (clearA A) n := fun s hs => by
    rw [cnt_congr (A := A) (B := clearA A) (fun q _ => ⟨clear_k (by omega), clear_k (by omega)⟩), cap_0 (A := A) (fun k hk => clear_k (by omega))]
    exact hC s hs
  have hT' : Tot (clearA A) n := by
    unfold Tot
    rw [sum_congr (A := A) (B := clearA A) (k := 6) (fun q _ => clear_k (by omega)), sum_congr (A := A) (B := clearA A) (k := 5) (fun q _ => clear_k (by omega)), sum_congr (A := A) (B := clearA A) (k := 4) (fun q _ => clear_k (by omega)), clear_k (by omega), clear_k (by omega), clear_k (by omega)]
    exact hT
  have hB' : Bow (clearA A) (9720 * t) := by
    obtain ⟨w, hw, e⟩ := hB
    exact ⟨w, hw, by rw [clear_k (by omega)]; exact e⟩
  have r0 : ∀ k, k < 6 → ranksA (clearA A) n 9 0 k = A 0 k := fun k hk => by rw [ranks_0 hk, clear_k (by omega)]
  obtain ⟨c1, t1⟩ := ranks_inv hn hS' ⟨hC', hT'⟩ 9
  have hup : ∀ i k, ¬ (i = 0 ∧ k = 3) → tickA A n i k = ranksA (clearA A) n 9 i k := fun i k hh => by unfold tickA; rw [up2_app, if_neg hh]
  refine ⟨hn, by rw [tickA_04, h4], ?_, ?_, ok_tick hO, fun s hs => ?_, ?_, ?_⟩
  · unfold tickA
    rw [up2_app, if_pos ⟨rfl, rfl⟩, r0 3 (by omega), h3, nI_1]
  · unfold SetA
    rw [hup 0 0 (by omega), hup 0 1 (by omega), hup 0 2 (by omega), hup 0 5 (by omega), r0 0 (by omega), r0 1 (by omega), r0 2 (by omega), r0 5 (by omega)]
    exact hS
  · rw [cnt_congr (A := ranksA (clearA A) n 9) (B := tickA A n) (fun q _ => ⟨hup _ _ (by omega), hup _ _ (by omega)⟩)]
    rw [cap_05 (A := ranksA (clearA A) n 9) (hup 0 0 (by omega)) (hup 0 5 (by omega))]
    exact c1 s hs
  · unfold Tot
    rw [sum_congr (A := ranksA (clearA A) n 9) (B := tickA A n) (k := 6) (fun q _ => hup _ _ (by omega)), sum_congr (A := ranksA (clearA A) n 9) (B := tickA A n) (k := 5) (fun q _ => hup _ _ (by omega)), sum_congr (A := ranksA (clearA A) n 9) (B := tickA A n) (k := 4) (fun q _ => hup _ _ (by omega)), hup 0 6 (by omega), hup 0 7 (by omega), hup 0 8 (by omega)]
    exact t1
  · obtain ⟨w, hw, e⟩ := bow_ranks hn hS' (ok_clear hO) hB' 9
    exact ⟨w, by omega, by rw [hup 0 6 (by omega)]; exact e⟩


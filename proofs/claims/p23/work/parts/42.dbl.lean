/-! BOWS TWICE AS MANY: a staircase and its double go alike -/
def dbl (A : Mem) : Mem := fun i k => if k = 6 then A i k + A i k else if i = 0 ∧ k = 1 then 2 else A i k
theorem two_x (x : Int32) : 2 * x = x + x := by rw [show (2 : Int32) = 1 + 1 from rfl, Int32.add_mul, Int32.one_mul]
theorem dbl_6 (A : Mem) (i : Nat) : dbl A i 6 = A i 6 + A i 6 := by unfold dbl; rw [if_pos rfl]
theorem dbl_01 (A : Mem) : dbl A 0 1 = 2 := by unfold dbl; rw [if_neg (by decide), if_pos ⟨rfl, rfl⟩]
theorem dbl_k (A : Mem) {i k : Nat} (h6 : k ≠ 6) (h : ¬ (i = 0 ∧ k = 1)) : dbl A i k = A i k := by unfold dbl; rw [if_neg h6, if_neg h]
theorem dbl_p (A : Mem) {p k : Nat} (h6 : k ≠ 6) : dbl A (p + 1) k = A (p + 1) k := dbl_k A h6 (by omega)
theorem dbl_up (A : Mem) {i k : Nat} (v : Int32) (h : ¬ (i = 0 ∧ k = 1)) : up2 (dbl A) i k (if k = 6 then v + v else v) = dbl (up2 A i k v) := by
  funext a b
  unfold dbl
  simp only [up2_app]
  by_cases e : a = i ∧ b = k
  · rw [if_pos e, if_pos e]
    by_cases e6 : b = 6
    · rw [if_pos e6, if_pos (by omega)]
    · rw [if_neg e6, if_neg (by omega), if_neg (by omega)]
  · rw [if_neg e, if_neg e]
theorem dbl_upn (A : Mem) {i k : Nat} (v : Int32) (h6 : k ≠ 6) (h : ¬ (i = 0 ∧ k = 1)) : up2 (dbl A) i k v = dbl (up2 A i k v) := by
  have := dbl_up A v h
  rw [if_neg h6] at this
  exact this
theorem dbl_up6 (A : Mem) (i : Nat) (v : Int32) : up2 (dbl A) i 6 (v + v) = dbl (up2 A i 6 v) := by
  have := dbl_up A (i := i) (k := 6) v (by omega)
  rw [if_pos rfl] at this
  exact this
theorem dbl_cnt (A : Mem) (s : Int32) (n : Nat) : cntA (dbl A) s n = cntA A s n := cnt_congr (fun q _ => ⟨dbl_p A (by decide), dbl_p A (by decide)⟩)
theorem dbl_lnd (A : Mem) (s : Int32) : lndA (dbl A) s = lndA A s := by unfold lndA; rw [dbl_k A (by decide) (by decide)]
theorem dbl_room (A : Mem) (n : Nat) (s : Int32) : roomA (dbl A) n s = roomA A n s := by
  unfold roomA
  rw [dbl_cnt, dbl_k A (i := 0) (k := 0) (by decide) (by decide)]
  simp only [dbl_lnd]
theorem dbl_way (A : Mem) (p : Nat) : wayA (dbl A) p = wayA A p := by unfold wayA; rw [dbl_p A (by decide)]
theorem dbl_next (A : Mem) (p : Nat) : nextA (dbl A) p = nextA A p := by
  unfold nextA
  rw [dbl_way, dbl_p A (by decide), dbl_p A (by decide), dbl_p A (by decide)]
theorem dbl_yld (A : Mem) (o p : Nat) : yldA (dbl A) o p = yldA A o p := by
  unfold yldA
  rw [dbl_p A (k := 1) (by decide), dbl_p A (k := 1) (by decide), dbl_p A (k := 0) (by decide), dbl_p A (k := 0) (by decide), dbl_p A (k := 8) (by decide), dbl_k A (i := 0) (k := 2) (by decide) (by decide)]
theorem dbl_yr (A : Mem) (s : Int32) (p : Nat) : ∀ n, yrA (dbl A) s p n = yrA A s p n
  | 0 => rfl
  | n + 1 => by
    unfold yrA
    rw [dbl_yr A s p n]
    simp only [dbl_yld]
    rw [dbl_p A (k := 2) (by decide), dbl_p A (k := 3) (by decide)]
    have e : yrP (dbl A) n (yrA A s p n) = yrP A n (yrA A s p n) := by
      cases yrA A s p n with
      | none => rfl
      | some q => simp only [yrP, dbl_p A (k := 0) (by decide)]
    rw [e]
theorem dbl_ends (A : Mem) (p : Nat) (w : Int32) : endsA (dbl A) p w = dbl (endsA A p w) := by
  unfold endsA
  rw [dbl_k A (i := 0) (k := 3) (by decide) (by decide), dbl_upn _ _ (by decide) (by omega), dbl_upn _ _ (by decide) (by omega), dbl_upn _ _ (by decide) (by omega), dbl_upn _ _ (by decide) (by omega), dbl_upn _ _ (by decide) (by omega)]
theorem dbl_goes (A : Mem) (p : Nat) (s d : Int32) : goesA (dbl A) p s d = dbl (goesA A p s d) := by
  unfold goesA
  rw [dbl_upn _ _ (by decide) (by omega), dbl_upn _ _ (by decide) (by omega), dbl_upn _ _ (by decide) (by omega), dbl_upn _ _ (by decide) (by omega)]
theorem dbl_stays (A : Mem) (p : Nat) : staysA (dbl A) p = dbl (staysA A p) := by
  unfold staysA
  rw [dbl_p A (k := 4) (by decide), dbl_p A (k := 8) (by decide), dbl_k A (i := 0) (k := 8) (by decide) (by decide), dbl_upn _ _ (by decide) (by omega), dbl_upn _ _ (by decide) (by omega), dbl_upn _ _ (by decide) (by omega), dbl_upn _ _ (by decide) (by omega)]
theorem dbl_bw (A : Mem) (o p : Nat) (h1 : A 0 1 = 1) : bwA (dbl A) o p = bwA A o p + bwA A o p := by
  unfold bwA
  rw [dbl_01, h1, dbl_p A (k := 0) (by decide), dbl_p A (k := 0) (by decide), two_x, Int32.one_mul]
theorem add4 (a b : Int32) : (a + a) + (b + b) = (a + b) + (a + b) := by
  ac_rfl
theorem dbl_bow (A : Mem) (o p : Nat) (h1 : A 0 1 = 1) : bowA (dbl A) o p = dbl (bowA A o p) := by
  unfold bowA
  rw [dbl_bw A o p h1, dbl_6, dbl_6, dbl_p A (k := 5) (by decide), dbl_k A (i := 0) (k := 7) (by decide) (by decide), add4, add4, dbl_up6, dbl_upn _ _ (by decide) (by omega), dbl_up6, dbl_upn _ _ (by decide) (by omega)]
theorem dbl_ways (A : Mem) (o p n : Nat) (h1 : A 0 1 = 1) : waysA (dbl A) o p n = (waysA A o p n).map dbl := by
  unfold waysA
  rw [dbl_way, dbl_p A (k := 3) (by decide), dbl_room, dbl_bow A o p h1, dbl_goes, dbl_ends]
  split
  · split <;> rfl
  · rfl
theorem dbl_acts (A : Mem) (p n : Nat) (h1 : A 0 1 = 1) : actsA (dbl A) p n = dbl (actsA A p n) := by
  unfold actsA
  rw [dbl_next, dbl_room, dbl_goes, dbl_yr, dbl_ends]
  have e : ylA (dbl A) p n (nextA A p) (yrA A (nextA A p) p n) = dbl (ylA A p n (nextA A p) (yrA A (nextA A p) p n)) := by
    cases yrA A (nextA A p) p n with
    | none => exact dbl_stays A p
    | some o =>
      simp only [ylA]
      rw [dbl_ways A o p n h1]
      cases waysA A o p n with
      | none => exact dbl_stays A p
      | some B => exact dbl_goes B p _ 1
  rw [e]
  split
  · split <;> rfl
  · rfl
theorem dbl_step (A : Mem) (r : Int32) (p n : Nat) (h1 : A 0 1 = 1) : stepA (dbl A) r p n = dbl (stepA A r p n) := by
  unfold stepA
  rw [dbl_p A (k := 0) (by decide), dbl_p A (k := 2) (by decide), dbl_p A (k := 9) (by decide), dbl_acts A p n h1]
  split <;> rfl
theorem dbl_rows (A : Mem) (r : Int32) (n : Nat) (h1 : A 0 1 = 1) : ∀ p, rowsA (dbl A) r n p = dbl (rowsA A r n p)
  | 0 => rfl
  | p + 1 => by rw [rowsA, dbl_rows A r n h1 p, dbl_step _ _ _ _ (by rw [rows_0 (by decide) p]; exact h1), rowsA]
theorem dbl_ranks (A : Mem) (n : Nat) (h1 : A 0 1 = 1) : ∀ k, ranksA (dbl A) n k = dbl (ranksA A n k)
  | 0 => rfl
  | k + 1 => by rw [ranksA, dbl_ranks A n h1 k, dbl_rows _ _ _ (by rw [ranks_0 (by decide) k]; exact h1), ranksA]
theorem dbl_clear (A : Mem) : clearA (dbl A) = dbl (clearA A) := by
  funext i k
  unfold clearA dbl
  dsimp only
  by_cases e : k = 9 ∧ 1 ≤ i ∧ i ≤ 24
  · rw [if_pos e, if_pos e, if_neg (by omega), if_neg (by omega)]
  · rw [if_neg e, if_neg e]
theorem dbl_tick (A : Mem) (n : Nat) (h1 : A 0 1 = 1) : tickA (dbl A) n = dbl (tickA A n) := by
  have hc : clearA A 0 1 = 1 := by rw [clear_k (by decide)]; exact h1
  unfold tickA
  rw [dbl_clear, dbl_ranks _ _ hc, dbl_k _ (i := 0) (k := 3) (by decide) (by decide), dbl_upn _ _ (by decide) (by omega)]
theorem tick_0 {A : Mem} {n k : Nat} (hk : k < 6) (h3 : k ≠ 3) : tickA A n 0 k = A 0 k := by
  unfold tickA
  rw [up2_app, if_neg (by omega), ranks_0 hk, clear_k (by omega)]
theorem tk_0 {A : Mem} {n k : Nat} (hk : k < 6) (h3 : k ≠ 3) : ∀ j, tkA A n j 0 k = A 0 k
  | 0 => rfl
  | j + 1 => by rw [tkA, tick_0 hk h3, tk_0 hk h3 j]
theorem dbl_tk (A : Mem) (n : Nat) (h1 : A 0 1 = 1) : ∀ j, tkA (dbl A) n j = dbl (tkA A n j)
  | 0 => rfl
  | j + 1 => by rw [tkA, dbl_tk A n h1 j, dbl_tick _ _ (by rw [tk_0 (by decide) (by decide) j]; exact h1), tkA]
theorem dbl_comes (A : Mem) (n : Nat) (r u : Int32) : comesA (dbl A) n r u = dbl (comesA A n r u) := by
  funext i k
  unfold comesA dbl
  dsimp only
  by_cases e : i = n + 1 ∧ k < 9
  · rw [if_pos e, if_pos e]
    by_cases e6 : k = 6
    · subst e6; simp
    · rw [if_neg e6, if_neg (c := i = 0 ∧ k = 1) (by omega)]
  · rw [if_neg e, if_neg e]
    by_cases e4 : i = 0 ∧ k = 4
    · rw [if_pos e4, if_pos e4, if_neg (by omega), if_neg (by omega)]
    · rw [if_neg e4, if_neg e4]
theorem dbl_who (A : Mem) (w : Int32) (n : Nat) : whoA (dbl A) w n = whoA A w n := who_congr (fun q _ => dbl_p A (by decide))
theorem dbl_wayN (A : Mem) : ∀ n, wayN (dbl A) n = wayN A n
  | 0 => rfl
  | n + 1 => by
    unfold wayN
    rw [dbl_wayN A n]
    simp only [dbl_p A (k := 2) (by decide)]
theorem dbl_hi (A : Mem) (s : Int32) : ∀ n, hiA (dbl A) s n = hiA A s n
  | 0 => rfl
  | n + 1 => by
    by_cases hc : A (n + 1) 2 = 1 ∧ A (n + 1) 3 = s
    · have hc2 : dbl A (n + 1) 2 = 1 ∧ dbl A (n + 1) 3 = s := by rw [dbl_p A (by decide), dbl_p A (by decide)]; exact hc
      cases hh : hiA A s n with
      | none => rw [hiA_s hc hh, hiA_s hc2 (by rw [dbl_hi A s n]; exact hh)]
      | some q => rw [hiA_s2 hc hh, hiA_s2 hc2 (by rw [dbl_hi A s n]; exact hh), dbl_p A (by decide), dbl_p A (by decide)]
    · have hc2 : ¬ (dbl A (n + 1) 2 = 1 ∧ dbl A (n + 1) 3 = s) := by rw [dbl_p A (by decide), dbl_p A (by decide)]; exact hc
      rw [hiA_n hc, hiA_n hc2, dbl_hi A s n]
theorem dbl_st (A : Mem) (n s k : Nat) : stA (dbl A) n s k = stA A n s k := by
  unfold stA
  rw [dbl_cnt, dbl_room, dbl_hi]
  simp only [dbl_lnd]
theorem dbl_cn (A : Mem) {n k : Nat} (hk : k < 13) (h1 : k ≠ 1) (h10 : k ≠ 10) : cnA (dbl A) n k = cnA A n k := by
  unfold cnA
  rw [dbl_who]
  by_cases e : k < 3
  · rw [if_pos e, if_pos e, dbl_k A (by omega) (by omega)]
  · rw [if_neg e, if_neg e]
    by_cases e3 : k = 3
    · rw [if_pos e3, if_pos e3, dbl_k A (by omega) (by omega)]
    · rw [if_neg e3, if_neg e3]
      by_cases e4 : k = 4
      · rw [if_pos e4, if_pos e4]
      · rw [if_neg e4, if_neg e4]
        by_cases e8 : k < 9
        · rw [if_pos e8, if_pos e8]
        · rw [if_neg e8, if_neg e8]
          by_cases e9 : k = 9
          · rw [if_pos e9, if_pos e9, dbl_k A (by omega) (by omega)]
          · rw [if_neg e9, if_neg e9, dbl_k A (by omega) (by omega)]
theorem dbl_cn10 (A : Mem) (n : Nat) : cnA (dbl A) n 10 = 2 * cnA A n 10 := by
  rw [cn_10, cn_10, dbl_6, two_x]
theorem dbl_ua (A : Mem) (n p : Nat) (h1 : A 0 1 = 1) : ∀ d j, uaL (dbl A) n p d j = uaL A n p d j
  | 0, j => by unfold uaL; rw [dbl_tk A n h1, dbl_p _ (by decide)]
  | d + 1, j => by unfold uaL; rw [dbl_tk A n h1, dbl_p _ (by decide), dbl_ua A n p h1 d (j + 1)]
theorem dbl_tn (A : Mem) (n : Nat) (h1 : A 0 1 = 1) : ∀ d j, tnA (dbl A) n d j = tnA A n d j
  | 0, j => rfl
  | d + 1, j => by unfold tnA; rw [dbl_tk A n h1, dbl_wayN, dbl_tn A n h1 d (j + 1)]
theorem dbl_ue (A : Mem) (n : Nat) (h1 : A 0 1 = 1) : ueA (dbl A) n = ueA A n := by
  unfold ueA
  rw [dbl_tn A n h1, dbl_tk A n h1, dbl_wayN]
theorem sub4 (a b : Int32) : (a + a) - (b + b) = 2 * (a - b) := by
  rw [two_x, Int32.sub_eq_add_neg, Int32.sub_eq_add_neg, Int32.neg_add, ← add4, Int32.sub_eq_add_neg]
theorem dbl_mv (A B : Mem) {n k : Nat} (hk : k < 4) : mvA (dbl A) (dbl B) n k = if k = 2 then 2 * mvA A B n k else mvA A B n k := by
  have hk4 : k = 0 ∨ k = 1 ∨ k = 2 ∨ k = 3 := by omega
  rcases hk4 with rfl | rfl | rfl | rfl
  · rw [if_neg (by decide)]
    show nI (whoA (dbl B) 2 n) - nI (whoA (dbl A) 2 n) = nI (whoA B 2 n) - nI (whoA A 2 n)
    rw [dbl_who, dbl_who]
  · rw [if_neg (by decide)]
    show nI (whoA (dbl B) 3 n) - nI (whoA (dbl A) 3 n) = nI (whoA B 3 n) - nI (whoA A 3 n)
    rw [dbl_who, dbl_who]
  · rw [if_pos rfl]
    show dbl B 0 6 - dbl A 0 6 = 2 * (B 0 6 - A 0 6)
    rw [dbl_6, dbl_6, sub4]
  · rw [if_neg (by decide)]
    show dbl B 0 8 - dbl A 0 8 = B 0 8 - A 0 8
    rw [dbl_k A (i := 0) (k := 8) (by decide) (by decide), dbl_k B (i := 0) (k := 8) (by decide) (by decide)]
theorem dbl_ld (A : Mem) (s : Nat) : ldA (dbl A) s = dbl (ldA A s) := by
  unfold ldA
  rw [dbl_k A (i := 0) (k := 5) (by decide) (by decide), dbl_upn _ _ (by decide) (by omega)]
theorem dbl_bws (A : Mem) (n s : Nat) (h1 : A 0 1 = 1) : bwS (dbl A) n s = bwS A n s + bwS A n s := by
  unfold bwS
  have h2 : ldA A s 0 1 = 1 := by unfold ldA; rw [up2_app, if_neg (by decide)]; exact h1
  rw [dbl_ld, dbl_tk _ n h2, dbl_6]
theorem dbl_bl {A : Mem} {n t : Nat} (ht : t ≤ 9999) (hA : InvA A n t) (h1 : A 0 1 = 1) : ∀ s, s ≤ 12 → blA (dbl A) n s = ((blA A n s).1, (blA A n s).2 + (blA A n s).2)
  | 0, _ => rfl
  | s + 1, hs => by
    have ih := dbl_bl ht hA h1 s (by omega)
    have hb := bl_nat ht hA s (by omega)
    unfold blA blN
    rw [ih, dbl_bws A n s h1]
    simp only [dbl_lnd]
    by_cases hl : lndA A (nI s)
    · rw [if_pos hl, if_pos hl]
    · rw [if_neg hl, if_neg hl]
      obtain ⟨b, hb2, eb⟩ := bw_nat ht (by omega) hA hl
      by_cases h6 : (blA A n s).1 = -6
      · rw [if_pos (Or.inl h6), if_pos (Or.inl h6)]
      · obtain ⟨a, ha, ea⟩ := hb.resolve_left h6
        have hiff : ((blA A n s).2 + (blA A n s).2 ≤ bwS A n s + bwS A n s) ↔ ((blA A n s).2 ≤ bwS A n s) := by
          rw [ea, eb, nI_add, nI_add, nI_leI (by omega) (by omega), nI_leI (by omega) (by omega)]
          omega
        by_cases hc : (blA A n s).2 ≤ bwS A n s
        · rw [if_neg (fun z => z.elim h6 (fun w => w (hiff.mpr hc))), if_neg (fun z => z.elim h6 (fun w => w hc))]
        · rw [if_pos (Or.inr (fun w => hc (hiff.mp w))), if_pos (Or.inr hc)]

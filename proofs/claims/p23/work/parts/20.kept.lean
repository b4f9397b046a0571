theorem at_b {b : Nat} {μ : Mem} {P : Mem → Prop} (h : P (putS b (getS b μ) μ)) : P μ := by rwa [putS_get] at h
theorem of_abs {S A : Mem} {n t : Nat} (ht : t ≤ 9999) (hI : InvA A n t) (hR : RelC S A n) : RelSt S (rowA A) := by
  have hk : ∀ i k, i ≤ 24 → k < 9 → aR (rowA A) i k = A i k := fun i k _ hk => by rw [aR_k _ hk, rowA_at _ _ _ hk]
  exact ⟨n, t, ht, inv_cg hk hI, relA_cg hk hR⟩
theorem c_who1 {n : Nat} {w : Int32} {μ A : Mem} {K : Int32 → Mem → Prop} (hR : RelC (getS 1 μ) A n) (h : K (nI (whoA A w n)) μ) : wp_X3_peopleWho 1 w μ K := by
  refine at_b (b := 1) (P := fun ν => wp_X3_peopleWho 1 w ν K) (c_peopleWho hR ?_)
  rw [putS_get]
  exact h
theorem c_sum1 {n k : Nat} {w : Int32} {μ A : Mem} {K : Int32 → Mem → Prop} (hk : k < 9) (hw : w = nI k) (hR : RelC (getS 1 μ) A n) (hO : OkA A n) (h : K (sumA A k n) μ) : wp_X3_sumOf 1 w μ K := by
  refine at_b (b := 1) (P := fun ν => wp_X3_sumOf 1 w ν K) (c_sumOf hk hw hR hO ?_)
  rw [putS_get]
  exact h
/-! CALLS THAT CHANGE the people, the settings, the landings -/
def bcE (a0 : Int32) : Int32 := ((((((((a0 - ((isr a0 1) &&& 1431655765)) &&& 858993459) + ((isr (a0 - ((isr a0 1) &&& 1431655765)) 2) &&& 858993459)) + (isr (((a0 - ((isr a0 1) &&& 1431655765)) &&& 858993459) + ((isr (a0 - ((isr a0 1) &&& 1431655765)) 2) &&& 858993459)) 4)) &&& 252645135) + (isr (((((a0 - ((isr a0 1) &&& 1431655765)) &&& 858993459) + ((isr (a0 - ((isr a0 1) &&& 1431655765)) 2) &&& 858993459)) + (isr (((a0 - ((isr a0 1) &&& 1431655765)) &&& 858993459) + ((isr (a0 - ((isr a0 1) &&& 1431655765)) 2) &&& 858993459)) 4)) &&& 252645135) 8)) + (isr ((((((a0 - ((isr a0 1) &&& 1431655765)) &&& 858993459) + ((isr (a0 - ((isr a0 1) &&& 1431655765)) 2) &&& 858993459)) + (isr (((a0 - ((isr a0 1) &&& 1431655765)) &&& 858993459) + ((isr (a0 - ((isr a0 1) &&& 1431655765)) 2) &&& 858993459)) 4)) &&& 252645135) + (isr (((((a0 - ((isr a0 1) &&& 1431655765)) &&& 858993459) + ((isr (a0 - ((isr a0 1) &&& 1431655765)) 2) &&& 858993459)) + (isr (((a0 - ((isr a0 1) &&& 1431655765)) &&& 858993459) + ((isr (a0 - ((isr a0 1) &&& 1431655765)) 2) &&& 858993459)) 4)) &&& 252645135) 8)) 16)) &&& 63)
theorem c_bitCount {x : Int32} {μ : Mem} {K : Int32 → Mem → Prop} (h : K (bcE x) μ) : wp_J6_bitCount_0f7a4 x μ K := h
/-- how many of the lowest twelve bits are set, by the test of one bit -/
def lbN (L : Nat) : Nat → Nat
  | 0 => 0
  | s + 1 => lbN L s + (if ((nI L >>> (nI s &&& 31)) &&& 1) = 1 then 1 else 0)
theorem bc_ok2 : ∀ a, a < 64 → ∀ b, b < 64 → bcE (nI (64 * a + b)) = nI (lbN (64 * a + b) 12) := by decide +kernel
theorem bc_ok (L : Nat) (h : L < 4096) : bcE (nI L) = nI (lbN L 12) := by
  have := bc_ok2 (L / 64) (by omega) (L % 64) (by omega)
  rwa [show 64 * (L / 64) + L % 64 = L by omega] at this
theorem lb_eq {A : Mem} {L : Nat} (h : A 0 5 = nI L) : ∀ s, lbA A s = lbN L s
  | 0 => rfl
  | s + 1 => by
    unfold lbA lbN lndA
    rw [lb_eq h s]
    simp only [h]
theorem sm12 : ∀ s, s < 12 → ((nI s &&& 31).toBitVec.smod 32).toNat = s := by decide
theorem lnd_bit {L s : Nat} (hL : L < 4096) (hs : s < 12) : ((nI L >>> (nI s &&& 31)) &&& 1) = 1 ↔ L.testBit s = true := by
  rw [pk_shrN (by omega) _ s (sm12 s hs), show (1 : Int32) = nI 1 from rfl, pk_andN (Nat.lt_of_le_of_lt (Nat.div_le_self _ _) (by omega)) 1 (by decide), nI_eq (by omega) (by omega), Nat.testBit_eq_decide_div_mod_eq, decide_eq_true_eq]
theorem one_shl : ∀ s, s < 12 → (1 : Int32) <<< (nI s &&& 31) = nI (2 ^ s) := by decide
theorem xor_nI (a b : Nat) : nI a ^^^ nI b = nI (a ^^^ b) := by
  apply Int32.toBitVec_inj.mp
  show BitVec.ofNat 32 a ^^^ BitVec.ofNat 32 b = BitVec.ofNat 32 (a ^^^ b)
  exact (BitVec.ofNat_xor ..).symm
theorem or_nI (a b : Nat) : nI a ||| nI b = nI (a ||| b) := by
  apply Int32.toBitVec_inj.mp
  show BitVec.ofNat 32 a ||| BitVec.ofNat 32 b = BitVec.ofNat 32 (a ||| b)
  exact (BitVec.ofNat_or ..).symm
theorem two12 {s : Nat} (hs : s < 12) : 2 ^ s < 2 ^ 12 := Nat.pow_lt_pow_right (by omega) hs
/-! ===== turn ===== -/
theorem relc_turn {S A : Mem} {n p : Nat} {v : Int32} (hp : p < n) (h2 : A (p + 1) 2 = 1) (hR : RelC S A n) : RelC (up2 S (4 + p) 1 v) (up2 A (p + 1) 1 v) n := by
  obtain ⟨hn, r4, s4, s3, s5, rs, rc, rp⟩ := hR
  refine ⟨hn, by rw [up2_ne _ _ _ _ (by omega), r4], by rw [up2_ne _ _ _ _ (by omega), s4], by rw [up2_ne _ _ _ _ (by omega), up2_ne _ _ _ _ (by omega), s3], by rw [up2_ne _ _ _ _ (by omega), up2_ne _ _ _ _ (by omega), s5], fun k hk => by rw [up2_ne _ _ _ _ (by omega), up2_ne _ _ _ _ (by omega), rs k hk], fun s hs => ?_, fun q hq => ?_⟩
  · rw [up2_ne _ _ _ _ (by omega), rc s hs, cnt_congr (A := A) (B := up2 A (p + 1) 1 v)]
    intro q _
    exact ⟨by rw [up2_app, if_neg (by omega)], by rw [up2_app, if_neg (by omega)]⟩
  · by_cases e : q = p
    · subst e
      have := rp q hq
      unfold RelP at this ⊢
      simp only [up2_app]
      simp only [show (0 : Nat) ≠ 1 by omega, show (2 : Nat) ≠ 1 by omega, show (3 : Nat) ≠ 1 by omega, show (4 : Nat) ≠ 1 by omega, show (5 : Nat) ≠ 1 by omega, show (6 : Nat) ≠ 1 by omega, show (7 : Nat) ≠ 1 by omega, show (8 : Nat) ≠ 1 by omega, and_false, if_false, and_self, if_true]
      obtain ⟨⟨f0, f1, f2, f4, f5, f6, f8⟩, g1, g2, g3, g4, g5⟩ := this
      exact ⟨⟨f0, trivial, f2, f4, f5, f6, f8⟩, g1, g2, fun z => absurd (h2.symm.trans z) (by decide), g4, g5⟩
    · rw [up2_ne _ _ _ _ (by omega), up2_ne _ _ _ _ (by omega)]
      exact rp q hq
theorem inv_up1 {A : Mem} {n t p : Nat} {v : Int32} (hv : v = 0 ∨ v = 1) (h : InvA A n t) : InvA (up2 A (p + 1) 1 v) n t := by
  obtain ⟨hn, h4, h3, hS, hO, hC, hT, hB⟩ := h
  have e0 : ∀ k, up2 A (p + 1) 1 v 0 k = A 0 k := fun k => by rw [up2_ne _ _ _ _ (by omega)]
  have ek : ∀ q k, k ≠ 1 → up2 A (p + 1) 1 v (q + 1) k = A (q + 1) k := fun q k hk => by rw [up2_app, if_neg (fun z => hk z.2)]
  refine ⟨hn, by rw [e0, h4], by rw [e0, h3], ?_, fun q hq => ?_, fun s hs => ?_, ?_, ?_⟩
  · unfold SetA; rw [e0, e0, e0, e0]; exact hS
  · obtain ⟨o1, o2, o3, o4⟩ := hO q hq
    refine ⟨?_, by rw [ek q 0 (by omega)]; exact o2, by rw [ek q 2 (by omega)]; exact o3, by rw [ek q 2 (by omega), ek q 3 (by omega)]; exact o4⟩
    rw [up2_app]
    split
    · exact hv
    · exact o1
  · rw [cnt_congr (A := A) (fun q _ => ⟨ek q 2 (by omega), ek q 3 (by omega)⟩), cap_05 (A := A) (e0 0) (e0 5)]
    exact hC s hs
  · unfold Tot
    rw [e0, e0, e0, sum_congr (A := A) (k := 6) (fun q _ => ek q 6 (by omega)), sum_congr (A := A) (k := 5) (fun q _ => ek q 5 (by omega)), sum_congr (A := A) (k := 4) (fun q _ => ek q 4 (by omega))]
    exact hT
  · unfold Bow; rw [e0]; exact hB
/-! set, landing, pass -/
theorem relc_set {S A : Mem} {n k : Nat} {v : Int32} (hk : k < 3) (hR : RelC S A n) : RelC (up2 S 1 k v) (up2 A 0 k v) n := by
  obtain ⟨hn, r4, s4, s3, s5, rs, rc, rp⟩ := hR
  refine ⟨hn, by rw [up2_app, if_neg (by omega), r4], by rw [up2_ne _ _ _ _ (by omega), s4], by rw [up2_ne _ _ _ _ (by omega), up2_app, if_neg (by omega), s3], by rw [up2_ne _ _ _ _ (by omega), up2_app, if_neg (by omega), s5], fun j hj => ?_, fun s hs => ?_, fun q hq => by rw [up2_ne _ _ _ _ (by omega), up2_ne _ _ _ _ (by omega)]; exact rp q hq⟩
  · rw [up2_app, up2_app, rs j hj]
    simp
  · rw [up2_ne _ _ _ _ (by omega), rc s hs, cnt_congr (A := A) (B := up2 A 0 k v)]
    intro q _
    rw [up2_ne _ _ _ _ (by omega)]
    exact ⟨rfl, rfl⟩
theorem relc_land {S A : Mem} {n : Nat} {v : Int32} (hR : RelC S A n) : RelC (up2 S 0 3 v) (up2 A 0 5 v) n := by
  obtain ⟨hn, r4, s4, s3, s5, rs, rc, rp⟩ := hR
  refine ⟨hn, by rw [up2_app, if_neg (by omega), r4], by rw [up2_app, if_neg (by omega), s4], by rw [up2_app, if_pos ⟨rfl, rfl⟩, up2_app, if_pos ⟨rfl, rfl⟩], by rw [up2_app, if_neg (by omega), up2_app, if_neg (by omega), s5], fun j hj => by rw [up2_ne _ _ _ _ (by omega), up2_app, if_neg (by omega), rs j hj], fun s hs => ?_, fun q hq => by rw [up2_ne _ _ _ _ (by omega), up2_ne _ _ _ _ (by omega)]; exact rp q hq⟩
  rw [up2_ne _ _ _ _ (by omega), rc s hs, cnt_congr (A := A) (B := up2 A 0 5 v)]
  intro q _
  rw [up2_ne _ _ _ _ (by omega)]
  exact ⟨rfl, rfl⟩
/-- the staircase's own numbers change, people don't -/
theorem inv_g {A : Mem} {n t k : Nat} {v : Int32} (hk : k < 6) (h3 : k ≠ 3) (hk4 : k ≠ 4) (hS' : SetA (up2 A 0 k v)) (hC' : CapOk (up2 A 0 k v) n) (h : InvA A n t) : InvA (up2 A 0 k v) n t := by
  obtain ⟨hn, h4, h3', hS, hO, hC, hT, hB⟩ := h
  have ep : ∀ q j, up2 A 0 k v (q + 1) j = A (q + 1) j := fun q j => by rw [up2_ne _ _ _ _ (by omega)]
  refine ⟨hn, by rw [up2_app, if_neg (by omega), h4], by rw [up2_app, if_neg (by omega), h3'], hS', fun q hq => okp_congr (hO q hq) (ep q 0) (ep q 1) (ep q 2) (ep q 3), hC', ?_, ?_⟩
  · unfold Tot
    rw [up2_app, if_neg (by omega), up2_app, if_neg (by omega), up2_app, if_neg (by omega), sum_congr (A := A) (k := 6) (fun q _ => ep q 6), sum_congr (A := A) (k := 5) (fun q _ => ep q 5), sum_congr (A := A) (k := 4) (fun q _ => ep q 4)]
    exact hT
  · unfold Bow
    rw [up2_app, if_neg (by omega)]
    exact hB
theorem cnt_g {A : Mem} {n k : Nat} {v s : Int32} : cntA (up2 A 0 k v) s n = cntA A s n := cnt_congr (fun q _ => by rw [up2_ne _ _ _ _ (by omega)]; exact ⟨rfl, rfl⟩)
theorem nI_rng {y : Int32} {a b : Nat} (ha : a < 2 ^ 31) (hb : b < 2 ^ 31) (h1 : ¬ y < nI a) (h2 : y ≤ nI b) : ∃ v, a ≤ v ∧ v ≤ b ∧ y = nI v := by
  rw [fa_lt, nI_toInt ha] at h1
  have h0 : (0 : Int32).toInt = 0 := rfl
  obtain ⟨v, hv, e⟩ := nI_of2 (x := y) (nI_toInt hb) (fun z => by rw [fa_lt, h0] at z; omega) h2
  refine ⟨v, ?_, hv, e⟩
  rw [e, nI_toInt (by omega)] at h1
  omega
/-! ===== pass ===== -/
def tkA (A : Mem) (n : Nat) : Nat → Mem
  | 0 => A
  | j + 1 => tickA (tkA A n j) n
theorem tk_inv {A : Mem} {n t : Nat} (h : InvA A n t) : ∀ j, InvA (tkA A n j) n (t + j)
  | 0 => h
  | j + 1 => inv_tick (tk_inv h j)
theorem c_slot {x : Int32} {μ : Mem} {K : Int32 → Mem → Prop} (h1 : ∀ k : Nat, k < 2 → x = nI k → K 1 μ) (h0 : (¬ ∃ k : Nat, k < 2 ∧ x = nI k) → K 0 μ) : wp_X4_isSlot x μ K := by
  unfold wp_X4_isSlot
  refine ⟨fun z => h0 ?_, fun z => ⟨fun z2 => h0 ?_, fun z2 => ?_⟩⟩
  · rintro ⟨k, hk, rfl⟩; exact nI_pos (by omega) z
  · rintro ⟨k, hk, rfl⟩; exact nI_ge (b := 2) hk (by omega) z2
  · obtain ⟨k, hk, e⟩ := per_ex (n := 2) (by omega) z z2
    exact h1 k hk e
/-! ===== read ===== -/
def rdA (A : Mem) (n : Nat) (c : Nat → Int32) : Nat → Mem
  | 0 => A
  | i + 1 => comesA (rdA A n c i) (n + i) (c (2 * i + 1) - 48) (if c (2 * i) = 117 then 1 else 0)
theorem bz_ite (p : Prop) [Decidable p] : bz (if p then 1 else 0) := by
  split
  · exact Or.inr rfl
  · exact Or.inl rfl
theorem rd_inv {A : Mem} {n t L : Nat} {c : Nat → Int32} (hall : ∀ k, k < L → okC c k) (h : InvA A n t) : ∀ i, 2 * i ≤ L → n + i ≤ 24 → InvA (rdA A n c i) (n + i) t
  | 0, _, _ => h
  | i + 1, h1, h2 => by
    refine inv_comes (by omega) ?_ (bz_ite _) (rd_inv hall h i (by omega) (by omega))
    have := (hall (2 * i + 1) (by omega)).2 (by omega)
    obtain ⟨m, m1, m2, e⟩ := nI_rng (a := 49) (b := 57) (by omega) (by omega) this.1 (by
      have := this.2
      rw [fa_lt] at this
      rw [fa_le]
      have h57 : (nI 57).toInt = 57 := rfl
      have h58 : (57 : Int32).toInt = 57 := rfl
      omega)
    refine ⟨m - 48, by omega, by omega, ?_⟩
    rw [e, show (48 : Int32) = nI 48 from rfl, pk_sub (by omega)]
theorem half {L : Nat} (h : L ≤ 60) : nI L / 2 = nI (L / 2) := pk_div (d := 2) (by omega) (by omega) (by omega)
/-! WHAT IF: does, untilArrived, untilEmpty, ifPassed -/
theorem goesA_row {A : Mem} {p i : Nat} {s d : Int32} (h : i ≠ p + 1) : goesA A p s d i = A i := by
  unfold goesA
  rw [up2_ne _ _ _ _ h, up2_ne _ _ _ _ h, up2_ne _ _ _ _ h, up2_ne _ _ _ _ h]
theorem endsA_row {A : Mem} {p i : Nat} {w : Int32} (h : i ≠ p + 1) : endsA A p w i = A i := by
  unfold endsA
  rw [up2_ne _ _ _ _ h, up2_ne _ _ _ _ h, up2_ne _ _ _ _ h, up2_ne _ _ _ _ h, up2_ne _ _ _ _ h]
theorem bowA_row {A : Mem} {o p i : Nat} (h : i ≠ o + 1) (h0 : i ≠ 0) : bowA A o p i = A i := by
  unfold bowA
  rw [up2_ne _ _ _ _ h0, up2_ne _ _ _ _ h0, up2_ne _ _ _ _ h, up2_ne _ _ _ _ h]
theorem staysA_row {A : Mem} {p i : Nat} (h : i ≠ p + 1) (h0 : i ≠ 0) : staysA A p i = A i := by
  unfold staysA
  rw [up2_ne _ _ _ _ h, up2_ne _ _ _ _ h0, up2_ne _ _ _ _ h, up2_ne _ _ _ _ h]
theorem waysA_row {A B : Mem} {o p n i : Nat} (h : i ≠ o + 1) (h0 : i ≠ 0) (hw : waysA A o p n = some B) : B i = A i := by
  unfold waysA at hw
  split at hw
  · split at hw
    · cases hw; rw [goesA_row h, bowA_row h h0]
    · cases hw
  · cases hw; rw [endsA_row h, bowA_row h h0]
/-- a deed touches whoever acts, and one who stands on a step -/
theorem actsA_row {A : Mem} {p n i : Nat} (hi : i ≠ p + 1) (h0 : i ≠ 0) (ho : ∀ o, o < n → A (o + 1) 2 = 1 → i ≠ o + 1) : actsA A p n i = A i := by
  unfold actsA
  split
  · split
    · exact goesA_row hi
    · cases hy : yrA A (nextA A p) p n with
      | none => exact staysA_row hi h0
      | some o =>
        simp only [ylA]
        obtain ⟨h1, h2, -⟩ := yrA_lt hy
        cases hw : waysA A o p n with
        | none => exact staysA_row hi h0
        | some B =>
          simp only [wyA]
          rw [goesA_row hi, waysA_row (ho o h1 h2.1) h0 hw]
  · exact endsA_row hi
theorem stepA_far {A : Mem} {r : Int32} {p n i : Nat} (hp : p < n) (h : n < i) : stepA A r p n i = A i := by
  unfold stepA
  split
  · exact actsA_row (by omega) (by omega) (fun o ho _ => by omega)
  · rfl
theorem rowsA_far {A : Mem} {r : Int32} {n i : Nat} (h : n < i) : ∀ p, p ≤ n → rowsA A r n p i = A i
  | 0, _ => rfl
  | p + 1, hp => by rw [rowsA, stepA_far (by omega) h, rowsA_far h p (by omega)]
theorem ranksA_far {A : Mem} {n i : Nat} (h : n < i) : ∀ k, ranksA A n k i = A i
  | 0 => rfl
  | k + 1 => by rw [ranksA, rowsA_far h n (Nat.le_refl n), ranksA_far h k]
theorem tickA_far {A : Mem} {n i : Nat} (hn : n ≤ 24) (h : 24 < i) : tickA A n i = A i := by
  unfold tickA
  rw [up2_ne _ _ _ _ (by omega), ranksA_far (by omega)]
  funext k
  unfold clearA
  rw [if_neg (by omega)]
theorem tkA_far {A : Mem} {n i : Nat} (hn : n ≤ 24) (h : 24 < i) : ∀ j, tkA A n j i = A i
  | 0 => rfl
  | j + 1 => by rw [tkA, tickA_far hn h, tkA_far hn h j]
/-- who was sent off stays so -/
theorem stepA_off {A : Mem} {r : Int32} {p n q : Nat} (h : A (q + 1) 2 = 3) : stepA A r p n (q + 1) 2 = 3 := by
  unfold stepA
  split
  · rename_i hc
    by_cases e : q = p
    · subst e
      rw [h] at hc
      exact absurd hc.2.1 (by decide)
    · rw [actsA_row (by omega) (by omega) (fun o ho h1 e2 => ?_)]
      · exact h
      · have : o = q := by omega
        subst this
        rw [h] at h1
        exact absurd h1 (by decide)
  · exact h
theorem rowsA_off {A : Mem} {r : Int32} {n q : Nat} (h : A (q + 1) 2 = 3) : ∀ p, rowsA A r n p (q + 1) 2 = 3
  | 0 => h
  | p + 1 => by rw [rowsA]; exact stepA_off (rowsA_off h p)
theorem ranksA_off {A : Mem} {n q : Nat} (h : A (q + 1) 2 = 3) : ∀ k, ranksA A n k (q + 1) 2 = 3
  | 0 => h
  | k + 1 => by rw [ranksA]; exact rowsA_off (ranksA_off h k) n
theorem tickA_off {A : Mem} {n q : Nat} (h : A (q + 1) 2 = 3) : tickA A n (q + 1) 2 = 3 := by
  unfold tickA
  rw [up2_ne _ _ _ _ (by omega)]
  exact ranksA_off (by rw [clear_k (by omega)]; exact h) 9
theorem tkA_off {A : Mem} {n q i : Nat} (h : tkA A n i (q + 1) 2 = 3) : ∀ j, tkA A n (i + j) (q + 1) 2 = 3
  | 0 => h
  | j + 1 => tickA_off (tkA_off h j)
/-- nobody on the way: a tick is nothing but a tick -/
theorem rowsA_idle {A : Mem} {r : Int32} {n : Nat} (h : ∀ q, q < n → ¬ A (q + 1) 2 < 2) : ∀ p, p ≤ n → rowsA A r n p = A
  | 0, _ => rfl
  | p + 1, hp => by
    rw [rowsA, rowsA_idle h p (by omega)]
    unfold stepA
    rw [if_neg (fun z => h p (by omega) z.2.1)]
theorem ranksA_idle {A : Mem} {n : Nat} (h : ∀ q, q < n → ¬ A (q + 1) 2 < 2) : ∀ k, ranksA A n k = A
  | 0 => rfl
  | k + 1 => by rw [ranksA, ranksA_idle h k, rowsA_idle h n (Nat.le_refl n)]
theorem idle_of {A : Mem} {n : Nat} (hO : OkA A n) (h : ¬ wayN A n = true) : ∀ q, q < n → ¬ A (q + 1) 2 < 2 := by
  intro q hq hlt
  rcases (hO q hq).2.2.1 with e | e | e | e
  · exact h (wayN_ex.mpr ⟨q, hq, Or.inl e⟩)
  · exact h (wayN_ex.mpr ⟨q, hq, Or.inr e⟩)
  · rw [e] at hlt; exact absurd hlt (by decide)
  · rw [e] at hlt; exact absurd hlt (by decide)
theorem tickA_idle {A : Mem} {n : Nat} (hO : OkA A n) (h : ¬ wayN A n = true) {i k : Nat} (hk : k < 9) (h3 : ¬ (i = 0 ∧ k = 3)) : tickA A n i k = A i k := by
  unfold tickA
  rw [up2_app, if_neg h3, ranksA_idle (fun q hq => by rw [clear_k (by omega)]; exact idle_of hO h q hq), clear_k hk]
theorem way_congr {A B : Mem} {n : Nat} (h : ∀ q, q < n → B (q + 1) 2 = A (q + 1) 2) : wayN B n = true ↔ wayN A n = true := by
  rw [wayN_ex, wayN_ex]
  constructor
  · rintro ⟨p, hp, e⟩; exact ⟨p, hp, by rw [← h p hp]; exact e⟩
  · rintro ⟨p, hp, e⟩; exact ⟨p, hp, by rw [h p hp]; exact e⟩
theorem tkA_idle {A : Mem} {n t i : Nat} (hI : InvA A n t) (h : ¬ wayN (tkA A n i) n = true) : ∀ j, (∀ a k, k < 9 → ¬ (a = 0 ∧ k = 3) → tkA A n (i + j) a k = tkA A n i a k)
  | 0 => fun _ _ _ _ => rfl
  | j + 1 => fun a k hk h3 => by
    have ih := tkA_idle hI h j
    have hno : ¬ wayN (tkA A n (i + j)) n = true := fun z => h ((way_congr (fun q _ => ih (q + 1) 2 (by omega) (by omega))).mp z)
    rw [show i + (j + 1) = (i + j) + 1 by omega, tkA, tickA_idle (tk_inv hI (i + j)).2.2.2.2.1 hno hk h3]
    exact ih a k hk h3
theorem who_congr {A B : Mem} {w : Int32} : ∀ {n : Nat}, (∀ q, q < n → B (q + 1) 2 = A (q + 1) 2) → whoA B w n = whoA A w n
  | 0, _ => rfl
  | n + 1, h => by
    unfold whoA
    rw [who_congr (n := n) (fun q hq => h q (by omega)), h n (by omega)]
/-! the class tries out -/
theorem c_tryOut {m n t : Nat} {S A μ : Mem} {K : Int32 → Mem → Prop} (hm : m ≤ 200) (hI : InvA A n t) (hR : RelC S A n) (h : ∀ j S', j ≤ m → (j = m ∨ ¬ wayN (tkA A n j) n = true) → (∀ i, i < j → wayN (tkA A n i) n = true) → RelC S' (tkA A n j) n → K (nI j) (putS 29 S' μ)) : wp_X4_tryOut (nI m) (putS 29 S μ) K := by
  have key : ∀ d j S', j + d = m → (∀ i, i < j → wayN (tkA A n i) n = true) → RelC S' (tkA A n j) n → wp_X4_tryOut_L2 (nI m) K (d + 1) (nI j) (putS 29 S' μ) := by
    intro d
    induction d with
    | zero =>
      intro j S' hj hb hS'
      have : j = m := by omega
      subst this
      rw [wp_X4_tryOut_L2_s]
      simp only
      exact br_t (nI_le (Nat.le_refl _) (by omega)) (h j S' (Nat.le_refl _) (Or.inl rfl) hb hS')
    | succ d ih =>
      intro j S' hj hb hS'
      rw [wp_X4_tryOut_L2_s]
      simp only
      refine br_f (nI_ge (by omega) (by omega)) ?_
      refine c_anybody hS' (fun q => br_f (by decide) ?_) (fun q => br_t rfl (h j S' (by omega) (Or.inr q) hb hS'))
      refine c_tick hS' (tk_inv hI j).2.2.2.2.1 (fun T hT _ => ?_)
      rw [nI_1]
      refine ih (j + 1) T (by omega) (fun i hi => ?_) hT
      by_cases e : i = j
      · subst e; exact q
      · exact hb i (by omega)
  exact ⟨m + 1, key m 0 S (by omega) (fun i hi => by omega) hR⟩
/-- the class's trial alone was touched -/
def Tr (ω μ : Mem) : Prop := ∀ a, ¬ (29 ≤ a ∧ a < 57) → ω a = μ a
theorem tr_put {S μ : Mem} : Tr (putS 29 S μ) μ := fun a ha => putS_ne _ _ _ (by omega)
theorem who_zero {A : Mem} {n : Nat} : whoA A 0 n + whoA A 1 n = 0 ↔ ¬ wayN A n = true := by
  induction n with
  | zero => simp [whoA, wayN]
  | succ n ih =>
    rw [wayN_ex] at ih ⊢
    unfold whoA
    constructor
    · intro h
      rintro ⟨p, hp, e⟩
      by_cases hpn : p = n
      · subst hpn
        rcases e with e | e
        · rw [if_pos e] at h; omega
        · rw [if_pos e] at h; omega
      · have h2 : whoA A 0 n + whoA A 1 n = 0 := by omega
        exact ih.mp h2 ⟨p, by omega, e⟩
    · intro h
      have h1 := ih.mpr (fun ⟨p, hp, e⟩ => h ⟨p, by omega, e⟩)
      have h0 : ¬ A (n + 1) 2 = 0 := fun e => h ⟨n, by omega, Or.inl e⟩
      have h2 : ¬ A (n + 1) 2 = 1 := fun e => h ⟨n, by omega, Or.inr e⟩
      rw [if_neg h0, if_neg h2]
      omega
theorem who_le {A : Mem} {w : Int32} : ∀ n, whoA A w n ≤ n
  | 0 => Nat.le_refl 0
  | n + 1 => by
    have := who_le (A := A) (w := w) n
    unfold whoA
    split <;> omega
/-! WHAT IF ticks pass; the best landing -/
def mvA (A B : Mem) (n : Nat) : Nat → Int32
  | 0 => nI (whoA B 2 n) - nI (whoA A 2 n)
  | 1 => nI (whoA B 3 n) - nI (whoA A 3 n)
  | 2 => B 0 6 - A 0 6
  | _ + 3 => B 0 8 - A 0 8
/-- what the class tried out is what the ticks make of it -/
theorem try_same {A : Mem} {n t j m : Nat} (hA : InvA A n t) (hj : j ≤ m) (hend : j = m ∨ ¬ wayN (tkA A n j) n = true) : ∀ a k, k < 9 → ¬ (a = 0 ∧ k = 3) → tkA A n m a k = tkA A n j a k := by
  intro a k hk h3
  rcases hend with e | e
  · rw [e]
  · have := tkA_idle hA e (m - j) a k hk h3
    rwa [show j + (m - j) = m by omega] at this
/-! ===== the best landing ===== -/
theorem tick_clear {A B : Mem} {n : Nat} (h : clearA A = clearA B) : tickA A n = tickA B n := by
  unfold tickA
  rw [h]
theorem tk_clear {A B : Mem} {n : Nat} (h : clearA A = clearA B) : ∀ j, tkA A n (j + 1) = tkA B n (j + 1)
  | 0 => tick_clear h
  | j + 1 => by
    rw [tkA, tk_clear h j]
    rfl
def ldA (A : Mem) (s : Nat) : Mem := up2 A 0 5 (A 0 5 ||| (1 <<< (nI s &&& 31)))
def bwS (A : Mem) (n s : Nat) : Int32 := tkA (ldA A s) n 50 0 6
def blN (A : Mem) (n s : Nat) (q : Int32 × Int32) : Int32 × Int32 := if lndA A (nI s) then q else if q.1 = -6 ∨ ¬ q.2 ≤ bwS A n s then (nI s, bwS A n s) else q
def blA (A : Mem) (n : Nat) : Nat → Int32 × Int32
  | 0 => (-6, 0)
  | s + 1 => blN A n s (blA A n s)
theorem ld_inv {A : Mem} {n t s : Nat} (hs : s < 12) (hA : InvA A n t) (hno : ¬ lndA A (nI s)) : InvA (ldA A s) n t := by
  have hC := hA.2.2.2.2.2.1
  obtain ⟨⟨hh, hh1, hh4, eh⟩, s1, s2, L, hL, eL⟩ := id hA.2.2.2.1
  have hL2 : L ||| 2 ^ s < 4096 := Nat.or_lt_two_pow (n := 12) hL (two12 hs)
  unfold ldA
  rw [eL, one_shl s hs, or_nI]
  refine inv_g (by omega) (by omega) (by omega) ?_ (fun j hj => ?_) hA
  · unfold SetA
    simp only [up2_app]
    simp only [show (0 : Nat) ≠ 5 by omega, show (1 : Nat) ≠ 5 by omega, show (2 : Nat) ≠ 5 by omega, and_false, if_false, and_self, if_true]
    exact ⟨⟨hh, hh1, hh4, eh⟩, s1, s2, _, hL2, rfl⟩
  · rw [cnt_g]
    have h2 := hC j hj
    unfold capN at h2 ⊢
    unfold lndA at h2 hno ⊢
    simp only [up2_app]
    simp only [show (0 : Nat) ≠ 5 by omega, and_false, if_false, and_self, if_true]
    rw [eh, nI_clamp (by omega)] at h2 ⊢
    by_cases ej : j = s
    · subst ej
      rw [if_neg hno] at h2
      split <;> omega
    · have hb1 := lnd_bit (L := L) (s := j) hL hj
      have hb2 := lnd_bit (L := L ||| 2 ^ s) (s := j) hL2 hj
      rw [Nat.testBit_or, Nat.testBit_two_pow_of_ne (Ne.symm ej), Bool.or_false] at hb2
      rw [eL] at h2
      by_cases hbj : L.testBit j = true
      · rw [if_pos (hb1.mpr hbj)] at h2
        rw [if_pos (hb2.mpr hbj)]
        exact h2
      · rw [if_neg (fun z => hbj (hb1.mp z))] at h2
        rw [if_neg (fun z => hbj (hb2.mp z))]
        exact h2
theorem bw_nat {A : Mem} {n t s : Nat} (ht : t ≤ 9999) (hs : s < 12) (hA : InvA A n t) (hno : ¬ lndA A (nI s)) : ∃ w, w < 2 ^ 30 ∧ bwS A n s = nI w := by
  obtain ⟨w, hw, e⟩ := (tk_inv (ld_inv hs hA hno) 50).2.2.2.2.2.2.2
  exact ⟨w, by omega, e⟩
theorem bl_nat {A : Mem} {n t : Nat} (ht : t ≤ 9999) (hA : InvA A n t) : ∀ s, s ≤ 12 → (blA A n s).1 = -6 ∨ ∃ w, w < 2 ^ 30 ∧ (blA A n s).2 = nI w
  | 0, _ => Or.inl rfl
  | s + 1, hs => by
    have ih := bl_nat ht hA s (by omega)
    unfold blA blN
    split
    · exact ih
    · rename_i hno
      split
      · exact Or.inr (bw_nat ht (by omega) hA hno)
      · exact ih
theorem le_off {a b c : Nat} (ha : a < 2 ^ 30) (hb : b < 2 ^ 30) (hc : c < 2 ^ 30) : nI a - nI c ≤ nI b - nI c ↔ nI a ≤ nI b := by
  rw [fa_le, fa_le, pk_sub_toInt ha hc, pk_sub_toInt hb hc, nI_toInt (by omega), nI_toInt (by omega)]
  omega

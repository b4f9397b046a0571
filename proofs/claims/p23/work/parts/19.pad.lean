/-! THE PAD (the first family is pasted from laws/BITS.to-paste) -/
/-! ===== lN n to 2^64: shifts, and, or, masks, one bit ===== -/
theorem wb_tb (n : Nat) : (lN n).toBitVec = BitVec.ofNat 64 n := rfl
theorem wb_inj {a b : Int64} (h : a.toBitVec = b.toBitVec) : a = b := Int64.toBitVec_inj.mp h
theorem wb_tn {n : Nat} (h : n < 2 ^ 64) : (lN n).toBitVec.toNat = n := by rw [wb_tb, BitVec.toNat_ofNat, Nat.mod_eq_of_lt h]
theorem wb_of (x : Int64) : ∃ n, n < 2 ^ 64 ∧ x = lN n := ⟨x.toBitVec.toNat, x.toBitVec.isLt, wb_inj (by rw [wb_tb]; simp)⟩
theorem wb_of32 (x : Int32) : ∃ n, n < 2 ^ 32 ∧ x = nI n := ⟨x.toBitVec.toNat, x.toBitVec.isLt, Int32.toBitVec_inj.mp (by show _ = BitVec.ofNat 32 _; simp)⟩
theorem wb_c : ∀ k, k < 64 → ((nI k).toInt64 &&& 63) = lN k := by decide +kernel
theorem wb_cu : ∀ k, k < 64 → ((nI k).toInt64.toUInt64 &&& Int64.toUInt64 63) = UInt64.ofNat k := by decide +kernel
theorem wb_sm : ∀ k, k < 64 → (BitVec.ofNat 64 k).smod 64 = BitVec.ofNat 64 k := by decide +kernel
theorem wb_pw {a b : Nat} (h : a ≤ b) : 2 ^ b = 2 ^ a * 2 ^ (b - a) := by rw [← Nat.pow_add]; congr 1; omega
theorem wb_lt2 {a b : Nat} (h : a < b) : 2 ^ a < 2 ^ b := Nat.pow_lt_pow_right (by decide) h
theorem wb_mod (n : Nat) : lN n = lN (n % 2 ^ 64) := wb_inj (by rw [wb_tb, wb_tb]; apply BitVec.eq_of_toNat_eq; rw [BitVec.toNat_ofNat, BitVec.toNat_ofNat, Nat.mod_mod])
theorem wb_shr {n k : Nat} (hn : n < 2 ^ 64) (hk : k < 64) : ((lN n).toUInt64 >>> ((nI k).toInt64.toUInt64 &&& Int64.toUInt64 63)).toInt64 = lN (n / 2 ^ k) := by
  rw [wb_cu k hk]
  apply wb_inj
  apply BitVec.eq_of_toNat_eq
  show ((lN n).toUInt64 >>> UInt64.ofNat k).toNat = (BitVec.ofNat 64 _).toNat
  have h1 : (UInt64.ofNat k).toNat = k := by
    show (BitVec.ofNat 64 k).toNat = k
    rw [BitVec.toNat_ofNat, Nat.mod_eq_of_lt (by omega)]
  have h2 : (lN n).toUInt64.toNat = n := wb_tn hn
  rw [UInt64.toNat_shiftRight, h1, h2, Nat.mod_eq_of_lt hk, Nat.shiftRight_eq_div_pow, BitVec.toNat_ofNat, Nat.mod_eq_of_lt (Nat.lt_of_le_of_lt (Nat.div_le_self _ _) hn)]
theorem wb_shl (n : Nat) {k : Nat} (hk : k < 64) : lN n <<< ((nI k).toInt64 &&& 63) = lN (n * 2 ^ k) := by
  rw [wb_c k hk]
  apply wb_inj
  rw [Int64.toBitVec_shiftLeft, wb_tb, wb_tb, wb_tb, wb_sm k hk]
  apply BitVec.eq_of_toNat_eq
  rw [BitVec.shiftLeft_eq', BitVec.toNat_shiftLeft, BitVec.toNat_ofNat, BitVec.toNat_ofNat, BitVec.toNat_ofNat, Nat.mod_eq_of_lt (show k < 2 ^ 64 by omega), Nat.shiftLeft_eq, Nat.mul_mod, Nat.mod_mod, ← Nat.mul_mod]
theorem wb_and {a b : Nat} (ha : a < 2 ^ 64) (hb : b < 2 ^ 64) : lN a &&& lN b = lN (a &&& b) := by
  apply wb_inj
  rw [Int64.toBitVec_and, wb_tb, wb_tb, wb_tb]
  apply BitVec.eq_of_toNat_eq
  rw [BitVec.toNat_and, BitVec.toNat_ofNat, BitVec.toNat_ofNat, BitVec.toNat_ofNat, Nat.mod_eq_of_lt ha, Nat.mod_eq_of_lt hb, Nat.mod_eq_of_lt (Nat.and_lt_two_pow _ hb)]
theorem wb_or {a b : Nat} (ha : a < 2 ^ 64) (hb : b < 2 ^ 64) : lN a ||| lN b = lN (a ||| b) := by
  apply wb_inj
  rw [Int64.toBitVec_or, wb_tb, wb_tb, wb_tb]
  apply BitVec.eq_of_toNat_eq
  rw [BitVec.toNat_or, BitVec.toNat_ofNat, BitVec.toNat_ofNat, BitVec.toNat_ofNat, Nat.mod_eq_of_lt ha, Nat.mod_eq_of_lt hb, Nat.mod_eq_of_lt (Nat.or_lt_two_pow ha hb)]
theorem wb_mask {n k : Nat} (hn : n < 2 ^ 64) (hk : k < 64) : lN n &&& lN (2 ^ k - 1) = lN (n % 2 ^ k) := by
  rw [wb_and hn (by have := wb_lt2 hk; omega), Nat.and_two_pow_sub_one_eq_mod]
theorem wb_a1 {n : Nat} (hn : n < 2 ^ 64) : lN n &&& 1 = lN (n % 2) := wb_mask (k := 1) hn (by decide)
theorem wb_bit {n k : Nat} (hn : n < 2 ^ 64) (hk : k < 64) : ((lN n).toUInt64 >>> ((nI k).toInt64.toUInt64 &&& Int64.toUInt64 63)).toInt64 &&& 1 = lN (n / 2 ^ k % 2) := by
  rw [wb_shr hn hk, wb_a1 (Nat.lt_of_le_of_lt (Nat.div_le_self _ _) hn)]
theorem wb_xor {q k : Nat} (hk : k < 63) (h : 2 ^ k ≤ q) (h2 : q < 2 ^ (k + 1)) : lN q ^^^ lN (2 ^ k) = lN (q - 2 ^ k) := by
  obtain ⟨r, rfl⟩ : ∃ r, q = 2 ^ k + r := ⟨q - 2 ^ k, by omega⟩
  have hr : r < 2 ^ k := by rw [Nat.pow_succ] at h2; omega
  have hx : (2 ^ k + r) ^^^ 2 ^ k = r := by
    apply Nat.eq_of_testBit_eq
    intro i
    rw [Nat.testBit_xor, Nat.testBit_two_pow]
    rcases Nat.lt_trichotomy i k with h | h | h
    · rw [Nat.testBit_two_pow_add_gt h]
      simp [show ¬ k = i by omega]
    · subst h
      rw [Nat.testBit_two_pow_add_eq]
      simp
    · have a1 : 2 ^ (k + 1) ≤ 2 ^ i := Nat.pow_le_pow_right (by decide) h
      rw [Nat.testBit_lt_two_pow (show 2 ^ k + r < 2 ^ i by omega), Nat.testBit_lt_two_pow (show r < 2 ^ i by omega)]
      simp [show ¬ k = i by omega]
  have b1 := wb_lt2 (show k + 1 < 64 by omega)
  have b2 := wb_lt2 (show k < 64 by omega)
  apply wb_inj
  rw [Int64.toBitVec_xor, wb_tb, wb_tb, wb_tb]
  apply BitVec.eq_of_toNat_eq
  rw [BitVec.toNat_xor, BitVec.toNat_ofNat, BitVec.toNat_ofNat, BitVec.toNat_ofNat, Nat.mod_eq_of_lt (by omega : 2 ^ k + r < 2 ^ 64), Nat.mod_eq_of_lt b2, hx, Nat.add_sub_cancel_left, Nat.mod_eq_of_lt (by omega)]
/-! ===== its fault ===== -/
abbrev okC (c : Nat → Int32) (i : Nat) : Prop := (i % 2 = 0 → (c i = 117 ∨ c i = 100)) ∧ (¬ i % 2 = 0 → (¬ c i < 49 ∧ ¬ 57 < c i))
def ffE (L : Nat) : Int32 := if L % 2 = 0 ∧ 0 < L then -6 else nI L
theorem rem2 {i : Nat} (hi : i < 2 ^ 31) : nI i - nI i / 2 * 2 = nI (i % 2) := pk_rem (d := 2) hi (by omega) (by omega)
theorem rem2_0 {i : Nat} : nI (i % 2) = (0 : Int32) ↔ i % 2 = 0 := by
  rw [show (0 : Int32) = nI 0 from rfl]
  exact nI_eq (by omega) (by omega)
theorem rem2_1 {i : Nat} : nI (i % 2) = (1 : Int32) ↔ i % 2 = 1 := by
  rw [show (1 : Int32) = nI 1 from rfl]
  exact nI_eq (by omega) (by omega)
theorem c_canStand {i : Nat} {μ : Mem} {K : Int32 → Mem → Prop} (hi : i < 60) (h1 : okC (μ 230) i → K 1 μ) (h0 : ¬ okC (μ 230) i → K 0 μ) : wp_X1_canStandAt (nI i) μ K := by
  unfold wp_X1_canStandAt
  refine ⟨vp_in_nI hi (by omega), ?_⟩
  rw [nI_clamp (by omega), rem2 (by omega), rem2_0]
  refine ⟨fun e => ⟨fun z => h0 (fun y => (y.2 e).1 z), fun z => ⟨fun z2 => h0 (fun y => (y.2 e).2 z2), fun z2 => h1 ⟨fun q => absurd q e, fun _ => ⟨z, z2⟩⟩⟩⟩, fun e => ⟨fun z => h1 ⟨fun _ => Or.inl z, fun q => absurd e q⟩, fun z => ⟨fun z2 => h0 (fun y => (y.1 e).elim z z2), fun z2 => h1 ⟨fun _ => Or.inr z2, fun q => absurd e q⟩⟩⟩⟩
theorem c_fault {L : Nat} {μ : Mem} {K : Int32 → Mem → Prop} (hL : L ≤ 60) (h9 : μ 229 1 = nI L) (h1 : ∀ i, i < L → ¬ okC (μ 230) i → (∀ k, k < i → okC (μ 230) k) → K (nI i) μ) (h2 : (∀ k, k < L → okC (μ 230) k) → K (ffE L) μ) : wp_X1_firstFault μ K := by
  have key : ∀ d j, j + d = L → (∀ k, k < j → okC (μ 230) k) → wp_X1_firstFault_L2 K (d + 1) (nI j) μ := by
    intro d
    induction d with
    | zero =>
      intro j hj hk
      have : j = L := by omega
      subst this
      rw [wp_X1_firstFault_L2_s]
      simp only
      rw [h9, rem2 (by omega), rem2_1]
      refine br_t (nI_le (Nat.le_refl _) (by omega)) ?_
      have h2 := h2 hk
      unfold ffE at h2
      by_cases e : j = 0
      · subst e
        exact br_t rfl h2
      · refine br_f (nI_ne0 (by omega) (by omega)) ?_
        by_cases e2 : j % 2 = 0
        · rw [if_pos ⟨e2, by omega⟩] at h2
          exact br_nt (by omega) h2
        · rw [if_neg (fun z => e2 z.1)] at h2
          exact br_nf (by omega) h2
    | succ d ih =>
      intro j hj hk
      rw [wp_X1_firstFault_L2_s]
      simp only
      rw [h9]
      refine br_f (nI_ge (by omega) (by omega)) ?_
      refine c_canStand (by omega) (fun q => br_nt (by decide) ?_) (fun q => br_nf rfl (h1 j (by omega) q hk))
      rw [nI_1]
      refine ih (j + 1) (by omega) (fun k hk2 => ?_)
      by_cases e : k = j
      · subst e; exact q
      · exact hk k (by omega)
  exact ⟨L + 1, key L 0 (by omega) (fun k hk => by omega)⟩
/-! ===== characters of a number ===== -/
theorem lN_0 {n : Nat} (h : n < 2 ^ 64) : lN n = 0 ↔ n = 0 := by
  constructor
  · intro e
    have h1 := wb_tn h
    rw [e] at h1
    exact h1.symm
  · rintro rfl
    rfl
theorem lsr_N {n k : Nat} (hn : n < 2 ^ 64) (hk : k < 64) : lsr (lN n) (nI k) = lN (n / 2 ^ k) := by
  unfold lsr
  exact wb_shr hn hk
theorem and255 {n : Nat} (hn : n < 2 ^ 64) : lN n &&& 255 = lN (n % 256) := wb_mask (k := 8) hn (by omega)
abbrev okN (b : Nat) : Prop := 33 ≤ b ∧ b ≤ 126
theorem pow_step (n j : Nat) : n / 256 ^ j / 2 ^ 8 = n / 256 ^ (j + 1) := by rw [Nat.div_div_eq_div_mul, show 256 ^ j * 2 ^ 8 = 256 ^ (j + 1) from (Nat.pow_succ (n := 256) (m := j)).symm]
def chV (x : Int64) (i : Nat) : Int32 := Int64.toInt32 ((lsr x (nI (8 * i))) &&& 255)
theorem chV_N (x : Int64) {i : Nat} (hi : i < 8) : ∃ m, m < 256 ∧ chV x i = nI m := by
  obtain ⟨n, hn, rfl⟩ := wb_of x
  refine ⟨n / 2 ^ (8 * i) % 256, by omega, ?_⟩
  unfold chV
  rw [lsr_N hn (by omega), and255 (Nat.lt_of_le_of_lt (Nat.div_le_self _ _) hn), lN_i]
theorem chV_c (x : Int64) {i : Nat} (hi : i < 8) : vp_nar .char ((Int32.toUInt32 (chV x i) % 65536).toInt32) = chV x i := by
  obtain ⟨m, hm, e⟩ := chV_N x hi
  rw [e, pk_vc, pk_char, pk_tn (by omega), Nat.mod_eq_of_lt (by omega)]
/-- characters are appended: the class -/
theorem c_append {x : Int64} {L N : Nat} {μ : Mem} {K : Int32 → Mem → Prop} (hN : N ≤ 8) (hc : ∀ (ν : Mem) (K : Int32 → Mem → Prop), K (nI N) ν → wp_X1_charactersIn x ν K) (hL : L ≤ 60) (h9 : μ 229 1 = nI L) (h0 : N = 0 → K (-2) μ) (h4 : 0 < N → 60 < L + N → K (-4) μ)
    (h : 0 < N → L + N ≤ 60 → ∀ ν : Mem, (∀ a, a ≠ 229 → a ≠ 230 → ν a = μ a) → ν 229 0 = μ 229 0 → ν 229 1 = nI (L + N) → (∀ i, i < L → ν 230 i = μ 230 i) → (∀ k, k < N → ν 230 (L + k) = chV x (N - 1 - k)) → K (nI (L + N)) ν) : wp_X1_append x μ K := by
  unfold wp_X1_append
  refine hc _ _ ?_
  by_cases e : N = 0
  · subst e
    exact br_nf rfl (h0 rfl)
  · refine br_nt (nI_ne0 (by omega) (by omega)) ?_
    rw [h9, nI_add]
    by_cases e2 : L + N ≤ 60
    · refine br_t (nI_le (b := 60) e2 (by omega)) ?_
      have key : ∀ d j (ν : Mem), j + d = N → (∀ a, a ≠ 230 → ν a = μ a) → (∀ k, N - j ≤ k → k < N → ν 230 (L + k) = chV x (N - 1 - k)) → (∀ i, i < L + (N - j) → ν 230 i = μ 230 i) → wp_X1_append_L29 x (nI N) K (d + 1) (nI j) ν := by
        intro d
        induction d with
        | zero =>
          intro j ν hj a1 a2 a3
          have : j = N := by omega
          subst this
          rw [wp_X1_append_L29_s]
          simp only
          refine br_t (nI_le (Nat.le_refl _) (by omega)) (nm_e ?_)
          rw [a1 229 (by decide), h9, nI_add]
          rw [show up2 ν 229 1 (nI (L + j)) 229 1 = nI (L + j) by rw [up2_app, if_pos ⟨rfl, rfl⟩]]
          refine h (by omega) e2 _ (fun a ha hb => ?_) ?_ ?_ (fun i hi => ?_) (fun k hk => ?_)
          · rw [up2_ne _ _ _ _ ha, a1 a hb]
          · rw [up2_app, if_neg (by decide), a1 229 (by decide)]
          · rw [up2_app, if_pos ⟨rfl, rfl⟩]
          · rw [up2_ne _ _ _ _ (by decide), a3 i (by omega)]
          · rw [up2_ne _ _ _ _ (by decide), a2 k (by omega) hk]
        | succ d ih =>
          intro j ν hj a1 a2 a3
          rw [wp_X1_append_L29_s]
          simp only
          refine br_f (nI_ge (by omega) (by omega)) ?_
          rw [a1 229 (by decide), h9, nI_add, show (1 : Int32) = nI 1 from rfl, pk_sub (by omega), pk_sub (by omega), show (8 : Int32) * nI j = nI (8 * j) from pk_mul 8 j, nI_add]
          refine ⟨vp_in_nI (by omega) (by omega), nm_e ?_⟩
          rw [nI_clamp (by omega), show Int64.toInt32 ((lsr x (nI (8 * j))) &&& 255) = chV x j from rfl, chV_c x (by omega)]
          refine ih (j + 1) _ (by omega) (fun a ha => by rw [up2_ne _ _ _ _ ha, a1 a ha]) (fun k hk1 hk2 => ?_) (fun i hi => ?_)
          · rw [up2_app]
            by_cases e3 : k = N - 1 - j
            · rw [if_pos ⟨rfl, by omega⟩]
              congr 1
              omega
            · rw [if_neg (by omega)]
              exact a2 k (by omega) hk2
          · rw [up2_app, if_neg (by omega)]
            exact a3 i (by omega)
      exact ⟨N + 1, key N 0 μ (by omega) (fun _ _ => rfl) (fun k hk1 hk2 => by omega) (fun _ _ => rfl)⟩
    · exact br_f (nI_ge (a := 60) (by omega) (by omega)) (h4 (by omega) (by omega))

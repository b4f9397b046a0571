/-! A STAIRCASE AND A ROW of 225 numbers; the history; who comes in -/
def aR (r : Nat → Int32) : Mem := fun i k => if k = 9 then 0 else r (9 * i + k)
theorem aR_k (r : Nat → Int32) {i k : Nat} (h : k < 9) : aR r i k = r (9 * i + k) := by unfold aR; rw [if_neg (by omega)]
theorem inv_cg {A B : Mem} {n t : Nat} (h : ∀ i k, i ≤ 24 → k < 9 → B i k = A i k) (hI : InvA A n t) : InvA B n t := by
  obtain ⟨hn, h4, h3, hS, hO, hC, hT, hB⟩ := hI
  refine ⟨hn, by rw [h 0 4 (by omega) (by omega), h4], by rw [h 0 3 (by omega) (by omega), h3], ?_, fun p hp => okp_congr (hO p hp) (h _ 0 (by omega) (by omega)) (h _ 1 (by omega) (by omega)) (h _ 2 (by omega) (by omega)) (h _ 3 (by omega) (by omega)), fun s hs => ?_, ?_, ?_⟩
  · unfold SetA
    rw [h 0 0 (by omega) (by omega), h 0 1 (by omega) (by omega), h 0 2 (by omega) (by omega), h 0 5 (by omega) (by omega)]
    exact hS
  · rw [cnt_congr (A := A) (B := B) (fun q hq => ⟨h _ 2 (by omega) (by omega), h _ 3 (by omega) (by omega)⟩), cap_05 (A := A) (h 0 0 (by omega) (by omega)) (h 0 5 (by omega) (by omega))]
    exact hC s hs
  · unfold Tot
    rw [h 0 6 (by omega) (by omega), h 0 7 (by omega) (by omega), h 0 8 (by omega) (by omega), sum_congr (A := A) (B := B) (k := 6) (fun q hq => h _ 6 (by omega) (by omega)), sum_congr (A := A) (B := B) (k := 5) (fun q hq => h _ 5 (by omega) (by omega)), sum_congr (A := A) (B := B) (k := 4) (fun q hq => h _ 4 (by omega) (by omega))]
    exact hT
  · unfold Bow
    rw [h 0 6 (by omega) (by omega)]
    exact hB
theorem relA_cg {S A B : Mem} {n : Nat} (h : ∀ i k, i ≤ 24 → k < 9 → B i k = A i k) (hR : RelC S A n) : RelC S B n := by
  obtain ⟨hn, r4, s4, s3, s5, rs, rc, rp⟩ := hR
  refine ⟨hn, by rw [h 0 4 (by omega) (by omega), r4], s4, by rw [h 0 5 (by omega) (by omega), s3], by rw [h 0 3 (by omega) (by omega), s5], fun k hk => by rw [rs k hk, h 0 k (by omega) (by omega)], fun s hs => ?_, fun p hp => ?_⟩
  · rw [rc s hs, cnt_congr (A := A) (B := B) (fun q hq => ⟨h _ 2 (by omega) (by omega), h _ 3 (by omega) (by omega)⟩)]
  · have := rp p hp
    unfold RelP at this ⊢
    rw [h _ 0 (by omega) (by omega), h _ 1 (by omega) (by omega), h _ 2 (by omega) (by omega), h _ 3 (by omega) (by omega), h _ 4 (by omega) (by omega), h _ 5 (by omega) (by omega), h _ 6 (by omega) (by omega), h _ 7 (by omega) (by omega), h _ 8 (by omega) (by omega)]
    exact this
def RelSt (S : Mem) (r : Nat → Int32) : Prop := ∃ n t, t ≤ 9999 ∧ InvA (aR r) n t ∧ RelC S (aR r) n
theorem relst_cg {S : Mem} {r r' : Nat → Int32} (h : ∀ j, j < 225 → r' j = r j) (hR : RelSt S r) : RelSt S r' := by
  obtain ⟨n, t, ht, hI, hC⟩ := hR
  have hk : ∀ i k, i ≤ 24 → k < 9 → aR r' i k = aR r i k := fun i k hi hk => by rw [aR_k _ hk, aR_k _ hk, h _ (by omega)]
  exact ⟨n, t, ht, inv_cg hk hI, relA_cg hk hC⟩
theorem relst_S {S T : Mem} {r : Nat → Int32} (h : ∀ o, o < 28 → T o = S o) (hR : RelSt S r) : RelSt T r := by
  obtain ⟨n, t, ht, hI, hC⟩ := hR
  exact ⟨n, t, ht, hI, relc_congr h hC⟩
theorem getS_eq {b : Nat} {μ ν : Mem} (h : ∀ a, b ≤ a → a < b + 28 → ν a = μ a) : ∀ o, o < 28 → getS b ν o = getS b μ o := fun o ho => h _ (by omega) (by omega)
/-- a copy from q to d: the place d holds what q holds -/
theorem c_copy {d q : Nat} {r : Nat → Int32} {μ : Mem} {K : Mem → Prop} (hdis : d + 28 ≤ q ∨ q + 28 ≤ d) (hR : RelSt (getS q μ) r) (h : ∀ S', RelSt S' r → (∀ A n, RelC (getS q μ) A n → RelC S' A n) → K (putS d S' μ)) : wp_X3_takeFrom d q μ K := by
  obtain ⟨n, t, ht, hI, hC⟩ := hR
  have e4 : μ q 4 = nI n := hC.2.2.1
  refine c_takeFrom hdis hC.1 e4 (fun p hp => ?_) (fun S' hS' => h S' ⟨n, t, ht, hI, relc_copy hS' hC⟩ (fun A m hA => ?_))
  · have := (hC.2.2.2.2.2.2.2 p hp).1.2.1
    unfold getS at this
    rw [show q + 2 + 2 + p = q + (4 + p) by omega, this]
    exact (hI.2.2.2.2.1 p hp).1
  · have : m = n := by
      have e1 := hA.2.2.1
      have e2 := hC.2.2.1
      rw [e1] at e2
      exact (nI_eq (by have := hA.1; omega) (by have := hC.1; omega)).mp e2
    subst this
    exact relc_copy hS' hA
/-! ===== the history ===== -/
def HistC (μ : Mem) (g : Nat) (R : Nat → Nat → Int32) : Prop :=
  ∃ π : Nat → Nat, g ≤ 6 ∧ μ 57 1 = nI g ∧ (∀ k, k < 6 → π k < 6 ∧ μ 58 k = nI (π k)) ∧ (∀ i j, i < 6 → j < 6 → π i = π j → i = j) ∧ ∀ k, k < g → RelSt (getS (59 + 28 * π k) μ) (R k)
theorem hist_fr {μ ν : Mem} {g : Nat} {R : Nat → Nat → Int32} (h : ∀ a, 57 ≤ a → a < 227 → ν a = μ a) (hH : HistC μ g R) : HistC ν g R := by
  obtain ⟨π, hg, h57, h58, hi, hr⟩ := hH
  refine ⟨π, hg, by rw [h 57 (by omega) (by omega), h57], fun k hk => by rw [h 58 (by omega) (by omega)]; exact h58 k hk, hi, fun k hk => relst_S (getS_eq (fun a h1 h2 => ?_)) (hr k hk)⟩
  have := (h58 k (by omega)).1
  exact h a (by omega) (by omega)
theorem hist_cg {μ : Mem} {g : Nat} {R R' : Nat → Nat → Int32} (h : ∀ k j, k < g → j < 225 → R' k j = R k j) (hH : HistC μ g R) : HistC μ g R' := by
  obtain ⟨π, hg, h57, h58, hi, hr⟩ := hH
  exact ⟨π, hg, h57, h58, hi, fun k hk => relst_cg (fun j hj => h k j hk hj) (hr k hk)⟩
theorem c_keepB {g : Nat} {R : Nat → Nat → Int32} {r : Nat → Int32} {μ : Mem} {K : Mem → Prop} (hg : g ≤ 5) (hH : HistC μ g R) (hR : RelSt (getS 1 μ) r) (h : ∀ ν : Mem, (∀ a, ¬ (57 ≤ a ∧ a < 227) → ν a = μ a) → HistC ν (g + 1) (fun k => if k = g then r else R k) → K ν) : wp_X0_keep_B13 1 K μ := by
  obtain ⟨π, -, h57, h58, hi, hr⟩ := hH
  obtain ⟨hp, e58⟩ := h58 g (by omega)
  unfold wp_X0_keep_B13
  rw [h57]
  refine br_f (nI_pos (by omega)) (br_f (nI_ge (b := 6) (by omega) (by omega)) ⟨vp_in_nI (by omega) (by omega), ?_⟩)
  rw [nI_clamp (by omega), e58, nI_clamp (by omega)]
  refine ⟨hp, c_copy (Or.inr (by omega)) hR (fun S' hS' _ => nm_e ?_)⟩
  have e57 : putS (59 + 28 * π g) S' μ 57 = μ 57 := putS_ne _ _ _ (by omega)
  rw [e57, h57, nI_1]
  refine h _ (fun a ha => ?_) ⟨π, by omega, ?_, fun k hk => ⟨(h58 k hk).1, ?_⟩, hi, fun k hk => ?_⟩
  · rw [up2_ne _ _ _ _ (by omega), putS_ne _ _ _ (by omega)]
  · rw [up2_app, if_pos ⟨rfl, rfl⟩]
  · rw [up2_ne _ _ _ _ (by omega), putS_ne _ _ _ (by omega)]
    exact (h58 k hk).2
  · have hpk := (h58 k (by omega)).1
    dsimp only
    by_cases e : k = g
    · subst e
      rw [if_pos rfl]
      refine relst_S (fun o ho => ?_) hS'
      unfold getS
      rw [up2_ne _ _ _ _ (by omega)]
      exact putS_at _ _ _ ho
    · rw [if_neg e]
      refine relst_S (getS_eq (fun a h1 h2 => ?_)) (hr k (by omega))
      have hne : π k ≠ π g := fun z => e (hi k g (by omega) (by omega) z)
      rw [up2_ne _ _ _ _ (by omega), putS_ne _ _ _ (by omega)]
theorem c_drop {R : Nat → Nat → Int32} {μ : Mem} {K : Mem → Prop} (hH : HistC μ 6 R) (h : ∀ ν : Mem, (∀ a, a ≠ 57 → a ≠ 58 → ν a = μ a) → HistC ν 5 (fun k => R (k + 1)) → K ν) : wp_X0_dropOldest μ K := by
  obtain ⟨π, -, h57, h58, hi, hr⟩ := hH
  obtain ⟨hp0, e0⟩ := h58 0 (by omega)
  unfold wp_X0_dropOldest
  rw [e0, nI_clamp (by omega)]
  refine ⟨hp0, ?_⟩
  have key : ∀ d j (ν : Mem), (j + 1) + d = 6 → (∀ a, a ≠ 58 → ν a = μ a) → (∀ k, k < j → ν 58 k = μ 58 (k + 1)) → (∀ k, ¬ k < j → ν 58 k = μ 58 k) → wp_X0_dropOldest_L9 (nI (π 0)) K (d + 1) (nI (j + 1)) ν := by
    intro d
    induction d with
    | zero =>
      intro j ν hj h1 h2 h3
      have : j = 5 := by omega
      subst this
      rw [wp_X0_dropOldest_L9_s]
      simp only
      refine br_t (by decide) (nm_e (nm_e ?_))
      rw [up2_ne _ _ _ _ (by decide), h1 57 (by decide), h57, show (nI 6 - 1 : Int32) = nI 5 by decide]
      have e58 : ∀ k, k < 6 → up2 (up2 ν 58 5 (nI (π 0))) 57 1 (nI 5) 58 k = if k < 5 then μ 58 (k + 1) else μ 58 0 := by
        intro k hk
        rw [up2_ne _ _ _ _ (by decide), up2_app]
        by_cases e : k = 5
        · subst e
          rw [if_pos ⟨rfl, rfl⟩, if_neg (by omega), e0]
        · rw [if_neg (fun z => e z.2), if_pos (by omega), h2 k (by omega)]
      refine h _ (fun a ha hb => ?_) ⟨fun k => if k < 5 then π (k + 1) else π 0, by omega, ?_, fun k hk => ⟨?_, ?_⟩, fun i j hi6 hj6 e => ?_, fun k hk => ?_⟩
      · rw [up2_ne _ _ _ _ ha, up2_ne _ _ _ _ hb, h1 a hb]
      · rw [up2_app, if_pos ⟨rfl, rfl⟩]
      · dsimp only
        split
        · exact (h58 _ (by omega)).1
        · exact hp0
      · rw [e58 k hk]
        dsimp only
        split
        · exact (h58 _ (by omega)).2
        · exact e0
      · dsimp only at e
        split at e <;> split at e
        · have := hi _ _ (by omega) (by omega) e; omega
        · have := hi _ _ (by omega) (by omega) e; omega
        · have := hi _ _ (by omega) (by omega) e; omega
        · omega
      · dsimp only
        rw [if_pos hk]
        have hpk := (h58 (k + 1) (by omega)).1
        refine relst_S (getS_eq (fun a ha hb => ?_)) (hr (k + 1) (by omega))
        rw [up2_ne _ _ _ _ (by omega), up2_ne _ _ _ _ (by omega), h1 a (by omega)]
    | succ d ih =>
      intro j ν hj h1 h2 h3
      rw [wp_X0_dropOldest_L9_s]
      simp only
      refine br_f (nI_ge (b := 6) (by omega) (by omega)) ⟨vp_in_nI (by omega) (by omega), ?_⟩
      obtain ⟨hpj, ej⟩ := h58 (j + 1) (by omega)
      rw [nI_clamp (by omega), h3 _ (by omega), ej, nI_clamp (by omega)]
      refine ⟨hpj, ?_⟩
      rw [nI_pred]
      refine ⟨vp_in_nI (by omega) (by omega), nm_e ?_⟩
      rw [nI_clamp (by omega), nI_1]
      refine ih (j + 1) _ (by omega) (fun a ha => by rw [up2_ne _ _ _ _ ha, h1 a ha]) (fun k hk => ?_) (fun k hk => ?_)
      · rw [up2_app]
        by_cases e : k = j
        · subst e
          rw [if_pos ⟨rfl, rfl⟩, ej]
        · rw [if_neg (fun z => e z.2)]
          exact h2 k (by omega)
      · rw [up2_app, if_neg (fun z => hk (by omega))]
        exact h3 k (by omega)
  exact ⟨6, key 5 0 μ (by omega) (fun _ _ => rfl) (fun k hk => by omega) (fun _ _ => rfl)⟩
theorem c_keep {g : Nat} {R : Nat → Nat → Int32} {r : Nat → Int32} {μ : Mem} {K : Mem → Prop} (hH : HistC μ g R) (hR : RelSt (getS 1 μ) r) (h : ∀ ν : Mem, (∀ a, ¬ (57 ≤ a ∧ a < 227) → ν a = μ a) → HistC ν (pushH g) (pushR g R r) → K ν) : wp_X0_keep 1 μ K := by
  have hg : g ≤ 6 := by obtain ⟨π, hg, -⟩ := hH; exact hg
  have h57 : μ 57 1 = nI g := by obtain ⟨π, -, h57, -⟩ := hH; exact h57
  unfold wp_X0_keep
  rw [h57]
  by_cases h6 : g = 6
  · subst h6
    refine br_nf rfl (c_drop hH (fun ν h1 h2 => ?_))
    refine c_keepB (by omega) h2 (relst_S (getS_eq (fun a ha hb => h1 a (by omega) (by omega))) hR) (fun ρ h3 h4 => ?_)
    refine h ρ (fun a ha => by rw [h3 a ha, h1 a (by omega) (by omega)]) ?_
    have e : pushR 6 R r = (fun k => if k = 5 then r else R (k + 1)) := by
      unfold pushR
      funext k
      rw [if_neg (by omega)]
    rw [e]
    exact h4
  · refine br_nt (by rw [show (6 : Int32) = nI 6 from rfl]; exact fun z => h6 (nI_inj (by omega) (by omega) z)) ?_
    refine c_keepB (by omega) hH hR (fun ρ h3 h4 => h ρ h3 ?_)
    have e : pushR g R r = (fun k => if k = g then r else R k) := by
      unfold pushR
      funext k
      rw [if_pos (by omega)]
    have e2 : pushH g = g + 1 := by unfold pushH; rw [if_pos (by omega)]
    rw [e, e2]
    exact h4
/-! ===== who comes in ===== -/
def comesA (A : Mem) (n : Nat) (r u : Int32) : Mem := fun i k => if i = n + 1 ∧ k < 9 then (if k = 0 then r else if k = 1 then u else if k = 3 then -6 else if k = 7 then -6 else 0) else if i = 0 ∧ k = 4 then nI (n + 1) else A i k
theorem comes_p (A : Mem) (n : Nat) (r u : Int32) {k : Nat} (hk : k < 9) : comesA A n r u (n + 1) k = if k = 0 then r else if k = 1 then u else if k = 3 then -6 else if k = 7 then -6 else 0 := by unfold comesA; rw [if_pos ⟨rfl, hk⟩]
theorem comes_q (A : Mem) (n : Nat) (r u : Int32) {q k : Nat} (hq : q < n) : comesA A n r u (q + 1) k = A (q + 1) k := by unfold comesA; rw [if_neg (by omega), if_neg (by omega)]
theorem comes_0 (A : Mem) (n : Nat) (r u : Int32) {k : Nat} (hk : k ≠ 4) : comesA A n r u 0 k = A 0 k := by unfold comesA; rw [if_neg (by omega), if_neg (by omega)]
theorem comes_4 (A : Mem) (n : Nat) (r u : Int32) : comesA A n r u 0 4 = nI (n + 1) := by unfold comesA; rw [if_neg (by omega), if_pos ⟨rfl, rfl⟩]
def zjA (A : Mem) (n j : Nat) : Mem := fun i k => if i = n + 1 ∧ k < j then 0 else up2 A 0 4 (nI (n + 1)) i k
theorem zjA_s (A : Mem) (n j : Nat) : up2 (zjA A n j) (n + 1) j 0 = zjA A n (j + 1) := by
  funext a b
  rw [up2_app]
  unfold zjA
  by_cases h : a = n + 1 ∧ b = j
  · rw [if_pos h, if_pos ⟨h.1, by omega⟩]
  · rw [if_neg h]
    by_cases h2 : a = n + 1 ∧ b < j
    · rw [if_pos h2, if_pos ⟨h2.1, by omega⟩]
    · rw [if_neg h2, if_neg (by omega)]
theorem zjA_e (A : Mem) (n : Nat) (r u : Int32) : up2 (up2 (up2 (up2 (zjA A n 9) (n + 1) 0 r) (n + 1) 1 u) (n + 1) 3 (-6)) (n + 1) 7 (-6) = comesA A n r u := by
  funext a b
  simp only [up2_app]
  unfold zjA comesA
  simp only [up2_app]
  by_cases ha : a = n + 1
  · subst ha
    by_cases hb : b < 9
    · have : b = 0 ∨ b = 1 ∨ b = 2 ∨ b = 3 ∨ b = 4 ∨ b = 5 ∨ b = 6 ∨ b = 7 ∨ b = 8 := by omega
      rcases this with rfl | rfl | rfl | rfl | rfl | rfl | rfl | rfl | rfl <;> simp
    · simp [hb, show b ≠ 0 by omega, show b ≠ 1 by omega, show b ≠ 3 by omega, show b ≠ 7 by omega]
  · simp [ha]
/-- a person comes into a hall of the class's staircase -/
theorem c_admit {b n : Nat} {r u : Int32} {S A μ : Mem} {K : Mem → Prop} (hn : n < 24) (hR : RelC S A n) (hu : bz u) (h : ∀ S', RelC S' (comesA A n r u) (n + 1) → K (putS b S' μ)) : wp_X3_admit b r u (putS b S μ) K := by
  obtain ⟨-, r4, s4, s3, s5, rs, rc, rp⟩ := id hR
  unfold wp_X3_admit
  rw [putS_b, s4]
  refine br_f (nI_ge (b := 24) (by omega) (by omega)) ⟨vp_in_nI (by omega) (by omega), ?_⟩
  rw [nI_clamp (by omega)]
  unfold wp_X2_enterHall
  refine nm_e ?_
  rw [putS_upP b S μ hn]
  refine ⟨hu, nm_e ?_⟩
  rw [putS_upP b _ μ hn]
  refine nm_e ?_
  rw [putS_upP b _ μ hn]
  have fin : ∀ w : Int32, (w = if u = 1 then -1 else 12) → wp_X2_enterHall_B26 (b + 2 + 2 + n) w (b + 2 + 2 + n) (fun m_3 => ∀ m_4, m_4 = up2 m_3 b 4 ((m_3 b 4) + 1) → K m_4) (putS b (up2 (up2 (up2 S (4 + n) 0 r) (4 + n) 1 u) (4 + n) 2 0) μ) := by
    intro w hw
    unfold wp_X2_enterHall_B26
    refine nm_e ?_
    rw [putS_upP b _ μ hn]
    refine nm_e ?_
    rw [putS_upP b _ μ hn]
    refine nm_e ?_
    rw [putS_upP b _ μ hn]
    refine nm_e ?_
    rw [putS_upP b _ μ hn]
    refine nm_e ?_
    rw [putS_upP b _ μ hn]
    refine nm_e ?_
    rw [putS_upP b _ μ hn]
    refine nm_e ?_
    rw [putS_b, putS_up0]
    refine h _ ?_
    refine ⟨by omega, comes_4 _ _ _ _, ?_, ?_, ?_, fun k hk => ?_, fun s hs => ?_, fun p hp => ?_⟩
    · simp [up2_app, s4, nI_1, show (0 : Nat) ≠ 4 + n by omega]
    · rw [comes_0 _ _ _ _ (by omega)]; simp [up2_app, s3, show (0 : Nat) ≠ 4 + n by omega]
    · rw [comes_0 _ _ _ _ (by omega)]; simp [up2_app, s5, show (0 : Nat) ≠ 4 + n by omega]
    · rw [comes_0 _ _ _ _ (by omega), ← rs k hk]; simp [up2_app, show (1 : Nat) ≠ 4 + n by omega]
    · rw [cntA, comes_p _ _ _ _ (by omega), comes_p _ _ _ _ (by omega), if_neg (by simp), Nat.add_zero, cnt_congr (A := A) (fun q hq => ⟨comes_q _ _ _ _ hq, comes_q _ _ _ _ hq⟩), ← rc s hs]
      simp [up2_app, show (3 : Nat) ≠ 4 + n by omega]
    · by_cases e : p = n
      · subst e
        refine ⟨⟨?_, ?_, ?_, ?_, ?_, ?_, ?_⟩, ?_, ?_, ?_, ?_, ?_⟩
        · rw [comes_p _ _ _ _ (by omega)]; simp [up2_app]
        · rw [comes_p _ _ _ _ (by omega)]; simp [up2_app]
        · rw [comes_p _ _ _ _ (by omega)]; simp [up2_app]
        · rw [comes_p _ _ _ _ (by omega)]; simp [up2_app]
        · rw [comes_p _ _ _ _ (by omega)]; simp [up2_app]
        · rw [comes_p _ _ _ _ (by omega)]; simp [up2_app]
        · rw [comes_p _ _ _ _ (by omega)]; simp [up2_app]
        · intro z; rw [comes_p _ _ _ _ (by omega)] at z; exact absurd z (by simp)
        · intro z; rw [comes_p _ _ _ _ (by omega)]; simp
        · intro z; rw [comes_p _ _ _ _ (by omega)]; simp [up2_app, hw]
        · intro z; rw [comes_p _ _ _ _ (by omega)]; simp
        · intro z; rw [comes_p _ _ _ _ (by omega)] at z; exact absurd (Or.inl (by simp)) z
      · have hp' : p < n := by omega
        have h1 := rp p hp'
        have e1 : ∀ k, (up2 (up2 (up2 (up2 (up2 (up2 (up2 (up2 (up2 (up2 S (4 + n) 0 r) (4 + n) 1 u) (4 + n) 2 0) (4 + n) 3 w) (4 + n) 4 0) (4 + n) 5 0) (4 + n) 6 0) (4 + n) 7 0) (4 + n) 8 0) 0 4 (up2 (up2 (up2 (up2 (up2 (up2 (up2 (up2 (up2 S (4 + n) 0 r) (4 + n) 1 u) (4 + n) 2 0) (4 + n) 3 w) (4 + n) 4 0) (4 + n) 5 0) (4 + n) 6 0) (4 + n) 7 0) (4 + n) 8 0 0 4 + 1)) (4 + p) k = S (4 + p) k := by
          intro k
          simp [up2_app, e]
        have e2 : ∀ k, comesA A n r u (p + 1) k = A (p + 1) k := fun k => comes_q _ _ _ _ hp'
        unfold RelP at h1 ⊢
        simp only [e1, e2]
        exact h1
  refine ⟨fun z => fin 12 ?_, fun z => fin (-1) ?_⟩
  · rw [if_neg (by rw [z]; decide)]
  · rw [if_pos (hu.resolve_left z)]
theorem inv_comes {A : Mem} {n t : Nat} {r u : Int32} (hn : n < 24) (hr : ∃ q : Nat, 1 ≤ q ∧ q ≤ 9 ∧ r = nI q) (hu : bz u) (h : InvA A n t) : InvA (comesA A n r u) (n + 1) t := by
  obtain ⟨-, h4, h3, hS, hO, hC, hT, hB⟩ := h
  refine ⟨by omega, comes_4 _ _ _ _, by rw [comes_0 _ _ _ _ (by omega), h3], ?_, fun p hp => ?_, fun s hs => ?_, ?_, ?_⟩
  · unfold SetA
    rw [comes_0 _ _ _ _ (by omega), comes_0 _ _ _ _ (by omega), comes_0 _ _ _ _ (by omega), comes_0 _ _ _ _ (by omega)]
    exact hS
  · by_cases e : p = n
    · subst e
      refine ⟨?_, ?_, ?_, fun z => ?_⟩
      · rw [comes_p _ _ _ _ (by omega)]; simpa [bz] using hu
      · rw [comes_p _ _ _ _ (by omega)]; simpa using hr
      · rw [comes_p _ _ _ _ (by omega)]; simp
      · rw [comes_p _ _ _ _ (by omega)] at z; exact absurd z (by simp)
    · exact okp_congr (hO p (by omega)) (comes_q _ _ _ _ (by omega)) (comes_q _ _ _ _ (by omega)) (comes_q _ _ _ _ (by omega)) (comes_q _ _ _ _ (by omega))
  · rw [cntA, comes_p _ _ _ _ (by omega), comes_p _ _ _ _ (by omega), if_neg (by simp), Nat.add_zero, cnt_congr (A := A) (fun q hq => ⟨comes_q _ _ _ _ hq, comes_q _ _ _ _ hq⟩), cap_05 (A := A) (comes_0 _ _ _ _ (by omega)) (comes_0 _ _ _ _ (by omega))]
    exact hC s hs
  · unfold Tot
    rw [comes_0 _ _ _ _ (by omega), comes_0 _ _ _ _ (by omega), comes_0 _ _ _ _ (by omega), sumA, sumA, sumA, comes_p _ _ _ _ (by omega), comes_p _ _ _ _ (by omega), comes_p _ _ _ _ (by omega), sum_congr (A := A) (k := 6) (fun q hq => comes_q _ _ _ _ hq), sum_congr (A := A) (k := 5) (fun q hq => comes_q _ _ _ _ hq), sum_congr (A := A) (k := 4) (fun q hq => comes_q _ _ _ _ hq)]
    unfold Tot at hT
    simpa using hT
  · unfold Bow
    rw [comes_0 _ _ _ _ (by omega)]
    exact hB


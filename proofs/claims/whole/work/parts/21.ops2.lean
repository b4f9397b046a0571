/-! CALLS THAT CHANGE the people, the settings, the landings -/
def bcE (a0 : Int32) : Int32 := ((((((((a0 - ((isr a0 1) &&& 1431655765)) &&& 858993459) + ((isr (a0 - ((isr a0 1) &&& 1431655765)) 2) &&& 858993459)) + (isr (((a0 - ((isr a0 1) &&& 1431655765)) &&& 858993459) + ((isr (a0 - ((isr a0 1) &&& 1431655765)) 2) &&& 858993459)) 4)) &&& 252645135) + (isr (((((a0 - ((isr a0 1) &&& 1431655765)) &&& 858993459) + ((isr (a0 - ((isr a0 1) &&& 1431655765)) 2) &&& 858993459)) + (isr (((a0 - ((isr a0 1) &&& 1431655765)) &&& 858993459) + ((isr (a0 - ((isr a0 1) &&& 1431655765)) 2) &&& 858993459)) 4)) &&& 252645135) 8)) + (isr ((((((a0 - ((isr a0 1) &&& 1431655765)) &&& 858993459) + ((isr (a0 - ((isr a0 1) &&& 1431655765)) 2) &&& 858993459)) + (isr (((a0 - ((isr a0 1) &&& 1431655765)) &&& 858993459) + ((isr (a0 - ((isr a0 1) &&& 1431655765)) 2) &&& 858993459)) 4)) &&& 252645135) + (isr (((((a0 - ((isr a0 1) &&& 1431655765)) &&& 858993459) + ((isr (a0 - ((isr a0 1) &&& 1431655765)) 2) &&& 858993459)) + (isr (((a0 - ((isr a0 1) &&& 1431655765)) &&& 858993459) + ((isr (a0 - ((isr a0 1) &&& 1431655765)) 2) &&& 858993459)) 4)) &&& 252645135) 8)) 16)) &&& 63)
theorem c_bitCount {x : Int32} {μ : Mem} {K : Int32 → Mem → Prop} (h : K (bcE x) μ) : wp_J6_bitCount_0f7a4 x μ K := h
/-- how many of the lowest twelve bits are set, by the test of one bit -/
def lbN (L : Nat) : Nat → Nat
  | 0 => 0
  | s + 1 => lbN L s + (if ((nI L >>> (nI s &&& 31)) &&& 1) = 1 then 1 else 0)
theorem bc_ok2 : ∀ a, a < 64 → ∀ b, b < 64 → bcE (nI (64 * a + b)) = nI (lbN (64 * a + b) 12) := by decide +kernel
theorem bc_ok (L : Nat) (h : L < 4096) : bcE (nI L) = nI (lbN L 12) := by
  have := bc_ok2 (L / 64) (by omega) (L % 64) (by omega)
  rwa [show 64 * (L / 64) + L % 64 = L by omega] at this
theorem lb_eq {A : Mem} {L : Nat} (h : A 0 5 = nI L) : ∀ s, lbA A s = lbN L s
  | 0 => rfl
  | s + 1 => by
    unfold lbA lbN lndA
    rw [lb_eq h s]
    simp only [h]
theorem sm12 : ∀ s, s < 12 → ((nI s &&& 31).toBitVec.smod 32).toNat = s := by decide
theorem lnd_bit {L s : Nat} (hL : L < 4096) (hs : s < 12) : ((nI L >>> (nI s &&& 31)) &&& 1) = 1 ↔ L.testBit s = true := by
  rw [pk_shrN (by omega) _ s (sm12 s hs), show (1 : Int32) = nI 1 from rfl, pk_andN (Nat.lt_of_le_of_lt (Nat.div_le_self _ _) (by omega)) 1 (by decide), nI_eq (by omega) (by omega), Nat.testBit_eq_decide_div_mod_eq, decide_eq_true_eq]
theorem one_shl : ∀ s, s < 12 → (1 : Int32) <<< (nI s &&& 31) = nI (2 ^ s) := by decide
theorem xor_nI (a b : Nat) : nI a ^^^ nI b = nI (a ^^^ b) := by
  apply Int32.toBitVec_inj.mp
  show BitVec.ofNat 32 a ^^^ BitVec.ofNat 32 b = BitVec.ofNat 32 (a ^^^ b)
  exact (BitVec.ofNat_xor ..).symm
theorem or_nI (a b : Nat) : nI a ||| nI b = nI (a ||| b) := by
  apply Int32.toBitVec_inj.mp
  show BitVec.ofNat 32 a ||| BitVec.ofNat 32 b = BitVec.ofNat 32 (a ||| b)
  exact (BitVec.ofNat_or ..).symm
theorem two12 {s : Nat} (hs : s < 12) : 2 ^ s < 2 ^ 12 := Nat.pow_lt_pow_right (by omega) hs
theorem abs_eq {μ ρ : Mem} (h1 : ρ 288 = μ 288) (h2 : ρ 293 = μ 293) : absA ρ = absA μ := by
  unfold absA
  rw [h1, h2]
/-- behind a change: what was, is in the history -/
theorem inv_chg {g : Nat} {μ ν φ : Mem} (hg : g ≤ 6) (hI : Inv μ) (hν : HistC ν (pushH g) (pushR g (hisR μ) (μ 288))) (c1 : ∀ a, 57 ≤ a → a < 227 → φ a = ν a) (c2 : φ 228 = μ 228) (c3 : ∀ a, 231 ≤ a → a < 287 → φ a = μ a) (c4 : φ 291 = μ 291) (c5 : φ 292 = μ 292) (c6 : φ 287 3 = nI (pushH g)) (c7 : ∀ k j, k < pushH g → j < 225 → hisR φ k j = pushR g (hisR μ) (μ 288) k j) (hP : PadI φ) (hN : RelSt (getS 1 φ) (φ 288)) : Inv φ := by
  refine ⟨hN, ⟨pushH g, by unfold pushH; split <;> omega, c6, hist_cg c7 (hist_fr c1 hν)⟩, slot_fr c3 c2 c5 c4 hI.2.2.1, hP⟩
/-- the common case: the class's change lies in its staircase, the reference's in its row -/
theorem inv_chg2 {g : Nat} {μ ν ω ρ φ : Mem} (hg : g ≤ 6) (hI : Inv μ) (hν1 : ∀ a, ¬ (57 ≤ a ∧ a < 227) → ν a = μ a) (hν : HistC ν (pushH g) (pushR g (hisR μ) (μ 288))) (hω : ∀ a, ¬ (1 ≤ a ∧ a < 29) → ω a = ν a) (r1 : ∀ a, a ≠ 287 → a ≠ 290 → ρ a = ω a) (r2 : ∀ k, k ≠ 3 → ρ 287 k = ω 287 k) (r3 : ρ 287 3 = nI (pushH g)) (r4 : ∀ k j, k < pushH g → j < 225 → hisR ρ k j = pushR g (hisR ω) (ω 288) k j) (hφ : ∀ a, a ≠ 288 → a ≠ 293 → φ a = ρ a) (hN : RelSt (getS 1 φ) (φ 288)) : Inv φ := by
  have e : ∀ a, 227 ≤ a → ω a = μ a := fun a ha => by rw [hω a (by omega), hν1 a (by omega)]
  have eh : hisR ω = hisR μ := by unfold hisR; rw [e 290 (by omega)]
  refine inv_chg hg hI hν (fun a x y => ?_) ?_ (fun a x y => ?_) ?_ ?_ ?_ (fun k j hk hj => ?_) (pad_fr (μ := μ) ?_ ?_ ?_ ?_ hI.2.2.2) hN
  · rw [hφ a (by omega) (by omega), r1 a (by omega) (by omega), hω a (by omega)]
  · rw [hφ 228 (by omega) (by omega), r1 228 (by omega) (by omega), e 228 (by omega)]
  · rw [hφ a (by omega) (by omega), r1 a (by omega) (by omega), e a (by omega)]
  · rw [hφ 291 (by omega) (by omega), r1 291 (by omega) (by omega), e 291 (by omega)]
  · rw [hφ 292 (by omega) (by omega), r1 292 (by omega) (by omega), e 292 (by omega)]
  · rw [hφ 287 (by omega) (by omega), r3]
  · have := r4 k j hk hj
    rw [eh, e 288 (by omega)] at this
    unfold hisR at this ⊢
    rw [hφ 290 (by omega) (by omega)]
    exact this
  · rw [hφ 229 (by omega) (by omega), r1 229 (by omega) (by omega), e 229 (by omega)]
  · rw [hφ 230 (by omega) (by omega), r1 230 (by omega) (by omega), e 230 (by omega)]
  · rw [hφ 287 (by omega) (by omega), r2 8 (by omega), e 287 (by omega)]
  · rw [hφ 294 (by omega) (by omega), r1 294 (by omega) (by omega), e 294 (by omega)]
/-- the row behind the reference's change -/
theorem rel_fin {ω ρ φ A : Mem} {n t : Nat} (ht : t ≤ 9999) (hI : InvA A n t) (hR : RelC (getS 1 ω) A n) (r1 : ∀ a, 1 ≤ a → a < 29 → φ a = ω a) (hφ : φ 288 = rowA A) : RelSt (getS 1 φ) (φ 288) := by
  rw [hφ]
  exact of_abs ht hI (relc_congr (getS_eq (fun a x y => r1 a x (by omega))) hR)
/-! ===== come ===== -/
theorem op_come {μ : Mem} {x y : Int32} (hy : bz y) (hI : Inv μ) : wp_X4_come x y μ (fun r μ1 => wp_X5_come x y μ1 (Fin2 r)) := by
  obtain ⟨n, t, ht, hA, hR⟩ := now_abs hI.1
  obtain ⟨g, hg, h73, hH⟩ := hI.2.1
  have hn := hR.1
  have h4 := hA.2.1
  have h84 : μ 288 4 = nI n := by rw [← abs_0 μ (by decide), h4]
  unfold wp_X4_come
  have bad : (x < 1 ∨ 9 < x) → wp_X5_come x y μ (Fin2 (-2)) := fun z => by
    unfold wp_X5_come
    exact m_in (lo := 1) (hi := 9) rfl rfl (fun q => absurd z (fun w => w.elim q.1 q.2)) (fun _ => br_nf rfl ⟨rfl, hI⟩)
  refine ⟨fun z => bad (Or.inl z), fun z => ⟨fun z2 => ?_, fun z2 => bad (Or.inr (nle_lt z2))⟩⟩
  have hin : ¬ x < 1 ∧ ¬ 9 < x := ⟨z, le_nlt z2⟩
  obtain ⟨q, hq, e⟩ : ∃ q : Nat, (1 ≤ q ∧ q ≤ 9) ∧ x = nI q := by
    obtain ⟨q, hq, e⟩ := nI_of2 (x := x) (n := 9) (M := 9) rfl (fun w => z (by rw [fa_lt] at w ⊢; have h0 : (0 : Int32).toInt = 0 := rfl; have h1 : (1 : Int32).toInt = 1 := rfl; omega)) z2
    refine ⟨q, ⟨?_, hq⟩, e⟩
    rcases Nat.lt_or_ge 0 q with w | w
    · exact w
    · have : q = 0 := by omega
      subst this
      exact absurd (by rw [e]; decide) z
  have e14 : μ 1 4 = nI n := hR.2.2.1
  rw [e14]
  by_cases h24 : n = 24
  · subst h24
    refine br_f (by decide) ?_
    unfold wp_X5_come
    refine m_in (lo := 1) (hi := 9) rfl rfl (fun _ => br_nt (by decide) (br_nf (by rw [h84]; rfl) ⟨rfl, hI⟩)) (fun w => absurd w (fun v => v.elim hin.1 hin.2))
  · refine br_t (nI_lt (b := 24) (by omega) (by omega)) ?_
    refine c_keep hH hI.1 (fun ν n1 n2 => ?_)
    have hRν : RelC (getS 1 ν) (absA μ) n := relc_congr (getS_eq (fun a u v => n1 a (by omega))) hR
    refine at_b (b := 1) (P := fun ρ => wp_X3_admit 1 x y ρ _) ?_
    refine c_admit (by omega) hRν hy (fun S' hS' => ?_)
    have eω : ∀ a, ¬ (1 ≤ a ∧ a < 29) → putS 1 S' ν a = ν a := fun a ha => putS_ne _ _ _ (by omega)
    have e4 : putS 1 S' ν 1 4 = nI (n + 1) := by rw [putS_b]; exact hS'.2.2.1
    rw [e4, nI_pred]
    have eμ : ∀ a, 227 ≤ a → putS 1 S' ν a = μ a := fun a ha => by rw [eω a (by omega), n1 a (by omega)]
    unfold wp_X5_come
    refine m_in (lo := 1) (hi := 9) rfl rfl (fun _ => br_nt (by decide) (br_nt ?_ ?_)) (fun w => absurd w (fun v => v.elim hin.1 hin.2))
    · rw [eμ 288 (by omega), h84]
      exact fun w => h24 ((nI_eq (b := 24) (by omega) (by omega)).mp w)
    refine m_changes hg (by rw [eμ 287 (by omega), h73]) (fun ρ r1 r2 r3 r4 => ?_)
    have eA : absA ρ = absA μ := abs_eq (by rw [r1 288 (by omega) (by omega), eμ 288 (by omega)]) (by rw [r1 293 (by omega) (by omega), eμ 293 (by omega)])
    have fin : ∀ u : Int32, u = y → wp_X5_comes x u ρ (fun m_7 => Fin2 (nI n) ((m_7 288 4) - 1) m_7) := by
      intro u hu
      subst hu
      refine at_A (P := fun ρ => wp_X5_comes x u ρ _) ?_
      rw [eA]
      refine m_comes (by omega) h4 ⟨?_, ?_⟩
      · rw [conA_0 _ _ _ (by decide), comes_4, nI_pred]
      · refine inv_chg2 hg hI n1 n2 eω r1 r2 r3 r4 (fun a h1 h2 => conA_ne _ _ h1 h2) ?_
        refine rel_fin ht (inv_comes (by omega) ⟨q, hq.1, hq.2, e⟩ hy hA) (ω := putS 1 S' ν) (ρ := ρ) ?_ (fun a h1 h2 => ?_) (conA_288 _ _)
        · exact relc_congr (fun o ho => getS_put _ _ _ ho) hS'
        · rw [conA_ne _ _ (by omega) (by omega), r1 a (by omega) (by omega)]
    rcases hy with hy | hy
    · exact br_t hy (fin 0 hy.symm)
    · exact br_f (by rw [hy]; decide) (fin 1 hy.symm)
/-! ===== turn ===== -/
theorem relc_turn {S A : Mem} {n p : Nat} {v : Int32} (hp : p < n) (h2 : A (p + 1) 2 = 1) (hR : RelC S A n) : RelC (up2 S (4 + p) 1 v) (up2 A (p + 1) 1 v) n := by
  obtain ⟨hn, r4, s4, s3, s5, rs, rc, rp⟩ := hR
  refine ⟨hn, by rw [up2_ne _ _ _ _ (by omega), r4], by rw [up2_ne _ _ _ _ (by omega), s4], by rw [up2_ne _ _ _ _ (by omega), up2_ne _ _ _ _ (by omega), s3], by rw [up2_ne _ _ _ _ (by omega), up2_ne _ _ _ _ (by omega), s5], fun k hk => by rw [up2_ne _ _ _ _ (by omega), up2_ne _ _ _ _ (by omega), rs k hk], fun s hs => ?_, fun q hq => ?_⟩
  · rw [up2_ne _ _ _ _ (by omega), rc s hs, cnt_congr (A := A) (B := up2 A (p + 1) 1 v)]
    intro q _
    exact ⟨by rw [up2_app, if_neg (by omega)], by rw [up2_app, if_neg (by omega)]⟩
  · by_cases e : q = p
    · subst e
      have := rp q hq
      unfold RelP at this ⊢
      simp only [up2_app]
      simp only [show (0 : Nat) ≠ 1 by omega, show (2 : Nat) ≠ 1 by omega, show (3 : Nat) ≠ 1 by omega, show (4 : Nat) ≠ 1 by omega, show (5 : Nat) ≠ 1 by omega, show (6 : Nat) ≠ 1 by omega, show (7 : Nat) ≠ 1 by omega, show (8 : Nat) ≠ 1 by omega, and_false, if_false, and_self, if_true]
      obtain ⟨⟨f0, f1, f2, f4, f5, f6, f8⟩, g1, g2, g3, g4, g5⟩ := this
      exact ⟨⟨f0, trivial, f2, f4, f5, f6, f8⟩, g1, g2, fun z => absurd (h2.symm.trans z) (by decide), g4, g5⟩
    · rw [up2_ne _ _ _ _ (by omega), up2_ne _ _ _ _ (by omega)]
      exact rp q hq
theorem inv_up1 {A : Mem} {n t p : Nat} {v : Int32} (hv : v = 0 ∨ v = 1) (h : InvA A n t) : InvA (up2 A (p + 1) 1 v) n t := by
  obtain ⟨hn, h4, h3, hS, hO, hC, hT, hB⟩ := h
  have e0 : ∀ k, up2 A (p + 1) 1 v 0 k = A 0 k := fun k => by rw [up2_ne _ _ _ _ (by omega)]
  have ek : ∀ q k, k ≠ 1 → up2 A (p + 1) 1 v (q + 1) k = A (q + 1) k := fun q k hk => by rw [up2_app, if_neg (fun z => hk z.2)]
  refine ⟨hn, by rw [e0, h4], by rw [e0, h3], ?_, fun q hq => ?_, fun s hs => ?_, ?_, ?_⟩
  · unfold SetA; rw [e0, e0, e0, e0]; exact hS
  · obtain ⟨o1, o2, o3, o4⟩ := hO q hq
    refine ⟨?_, by rw [ek q 0 (by omega)]; exact o2, by rw [ek q 2 (by omega)]; exact o3, by rw [ek q 2 (by omega), ek q 3 (by omega)]; exact o4⟩
    rw [up2_app]
    split
    · exact hv
    · exact o1
  · rw [cnt_congr (A := A) (fun q _ => ⟨ek q 2 (by omega), ek q 3 (by omega)⟩), cap_05 (A := A) (e0 0) (e0 5)]
    exact hC s hs
  · unfold Tot
    rw [e0, e0, e0, sum_congr (A := A) (k := 6) (fun q _ => ek q 6 (by omega)), sum_congr (A := A) (k := 5) (fun q _ => ek q 5 (by omega)), sum_congr (A := A) (k := 4) (fun q _ => ek q 4 (by omega))]
    exact hT
  · unfold Bow; rw [e0]; exact hB
theorem op_turn {μ : Mem} {x : Int32} (hI : Inv μ) : wp_X4_turn x μ (fun r μ1 => wp_X5_turn x μ1 (Fin2 r)) := by
  obtain ⟨n, t, ht, hA, hR⟩ := now_abs hI.1
  obtain ⟨g, hg, h73, hH⟩ := hI.2.1
  have hn := hR.1
  have h4 := hA.2.1
  have h84 : μ 288 4 = nI n := by rw [← abs_0 μ (by decide), h4]
  have h14 : μ 1 4 = nI n := hR.2.2.1
  unfold wp_X4_turn
  refine c_isPerson hn h14 (fun p hp e => br_nt (by decide) ⟨?_, ?_⟩) (fun z => br_nf rfl ?_)
  · subst e; exact vp_in_nI (by omega) (by omega)
  · subst e
    rw [nI_clamp (by omega)]
    have hrel := hR.2.2.2.2.2.2.2 p hp
    have eS : ∀ (ν : Mem) k, ν (3 + 2 + p) k = getS 1 ν (4 + p) k := fun ν k => by
      unfold getS
      rw [show 3 + 2 + p = 1 + (4 + p) by omega]
    rw [eS μ 2, hrel.1.2.2.1]
    have mod : ∀ (ν : Mem) (K : Int32 → Mem → Prop) , ν 288 4 = nI n → K 1 ν → wp_X5_isPerson (nI p) ν K := fun ν K h hK => m_isPerson hn h (fun _ _ _ => hK) (fun z => by
      rcases z with z | z
      · exact absurd z (nI_pos (by omega))
      · exact absurd z (nI_ge hp (by omega)))
    refine ⟨fun q => ?_, fun q => ?_⟩
    · refine c_keep hH hI.1 (fun ν n1 n2 => ?_)
      have hRν : RelC (getS 1 ν) (absA μ) n := relc_congr (getS_eq (fun a u v => n1 a (by omega))) hR
      have rest : ∀ v : Int32, (v = 0 ∨ v = 1) → v = 1 - absA μ (p + 1) 1 → wp_X5_turn (nI p) (up2 ν (3 + 2 + p) 1 v) (Fin2 v) := by
        intro v hv ev
        have eω : ∀ a, ¬ (1 ≤ a ∧ a < 29) → up2 ν (3 + 2 + p) 1 v a = ν a := fun a ha => up2_ne _ _ _ _ (by omega)
        have eμ : ∀ a, 227 ≤ a → up2 ν (3 + 2 + p) 1 v a = μ a := fun a ha => by rw [eω a (by omega), n1 a (by omega)]
        unfold wp_X5_turn
        refine mod _ _ (by rw [eμ 288 (by omega), h84]) (br_nt (by decide) ?_)
        have eA0 : absA (up2 ν (3 + 2 + p) 1 v) = absA μ := abs_eq (eμ 288 (by omega)) (eμ 293 (by omega))
        refine at_A (P := fun ρ => wp_X5_get (nI p) 2 ρ _) ?_
        rw [eA0]
        refine m_get (p := p) (k := 2) (by omega) (by omega) rfl rfl (br_t q ?_)
        rw [← eA0, conA_abs]
        refine m_changes hg (by rw [eμ 287 (by omega), h73]) (fun ρ r1 r2 r3 r4 => ?_)
        have eA : absA ρ = absA μ := abs_eq (by rw [r1 288 (by omega) (by omega), eμ 288 (by omega)]) (by rw [r1 293 (by omega) (by omega), eμ 293 (by omega)])
        refine at_A (P := fun ρ => wp_X5_get (nI p) 1 ρ _) ?_
        rw [eA]
        refine m_get (p := p) (k := 1) (by omega) (by omega) rfl rfl (m_lays (p := p) (k := 1) (by omega) (by omega) rfl rfl (m_get (p := p) (k := 1) (by omega) (by omega) rfl rfl ⟨?_, ?_⟩))
        · rw [up2_app, if_pos ⟨rfl, rfl⟩, ev]
        · rw [← ev]
          refine inv_chg2 hg hI n1 n2 eω r1 r2 r3 r4 (fun a h1 h2 => conA_ne _ _ h1 h2) ?_
          refine rel_fin ht (inv_up1 hv hA) (ω := up2 ν (3 + 2 + p) 1 v) (ρ := ρ) ?_ (fun a h1 h2 => ?_) (conA_288 _ _)
          · refine relc_congr (fun o ho => ?_) (relc_turn hp q hRν)
            unfold getS
            funext k
            rw [up2_app, up2_app]
            by_cases e : o = 4 + p ∧ k = 1
            · rw [if_pos ⟨by omega, e.2⟩, if_pos e]
            · rw [if_neg (by omega), if_neg e]
          · rw [conA_ne _ _ (by omega) (by omega), r1 a (by omega) (by omega)]
      have hrν := hRν.2.2.2.2.2.2.2 p hp
      rw [eS ν 1, hrν.1.2.1]
      have rd : ∀ v : Int32, up2 ν (3 + 2 + p) 1 v (3 + 2 + p) 1 = v := fun v => by rw [up2_app, if_pos ⟨rfl, rfl⟩]
      rcases (hA.2.2.2.2.1 p hp).1 with hu | hu
      · refine br_nf hu (nm_e ?_)
        rw [rd]
        exact br_f (by decide) (rest 1 (Or.inr rfl) (by rw [hu]; rfl))
      · refine br_nt (by rw [hu]; decide) (nm_e ?_)
        rw [rd]
        exact br_t rfl (rest 0 (Or.inl rfl) (by rw [hu]; rfl))
    · unfold wp_X5_turn
      refine mod μ _ h84 (br_nt (by decide) ?_)
      refine at_A (P := fun ρ => wp_X5_get (nI p) 2 ρ _) ?_
      refine m_get (p := p) (k := 2) (by omega) (by omega) rfl rfl (br_f q ?_)
      rw [conA_abs]
      exact ⟨rfl, hI⟩
  · unfold wp_X5_turn
    refine m_isPerson hn h84 (fun q hq e2 => ?_) (fun _ => br_nf rfl ⟨rfl, hI⟩)
    subst e2
    rcases z with z | z
    · exact absurd z (nI_pos (by omega))
    · exact absurd z (nI_ge hq (by omega))

/-! ONE STAIRCASE OBJECT: its changes -/
section CH
variable {μ A : Mem} {n t L : Nat} {Z : Nat → Option (Mem × Nat × Nat)} {c : Nat → Int32} {K : Int32 → Mem → Prop}
/-- behind 'keep': the staircase is what it was, the history holds something -/
theorem ob_keep {K : Mem → Prop} (h : Ob μ A n t Z L c) (hK : ∀ ν : Mem, (∀ a, ¬ (57 ≤ a ∧ a < 227) → ν a = μ a) → RelC (getS 1 ν) A n → (∃ g R, HistC ν g R) → K ν) : wp_X0_keep 1 μ K := by
  obtain ⟨g, R, hH⟩ := h.2.2.2.1
  refine c_keep hH (ob_st h) (fun ν n1 n2 => ?_)
  exact hK ν n1 (relc_congr (getS_eq (fun a u v => n1 a (by omega))) h.2.2.1) ⟨_, _, n2⟩
/-- the staircase alone has changed since 'keep' -/
theorem ob_new {ν ω A' : Mem} {n' t' : Nat} (h : Ob μ A n t Z L c) (n1 : ∀ a, ¬ (57 ≤ a ∧ a < 227) → ν a = μ a) (n2 : ∃ g R, HistC ν g R) (hω : ∀ a, ¬ (1 ≤ a ∧ a < 29) → ω a = ν a) (ht : t' ≤ 9999) (hI : InvA A' n' t') (hR : RelC (getS 1 ω) A' n') : Ob ω A' n' t' Z L c := by
  have e : ∀ a, 227 ≤ a → ω a = μ a := fun a ha => by rw [hω a (by omega), n1 a (by omega)]
  obtain ⟨g, R, hH⟩ := n2
  exact ob_fr h ht hI hR ⟨g, R, hist_fr (fun a x y => hω a (by omega)) hH⟩ (e 228 (by omega)) (fun a x y => e a (by omega)) (e 229 (by omega)) (e 230 (by omega))
theorem sp_set_go {k : Nat} {y : Int32} (h : Ob μ A n t Z L c) (hk : k < 3) (hA : InvA (up2 A 0 k y) n t) (hK : ∀ ω, Ob ω (up2 A 0 k y) n t Z L c → K (A 0 k) ω) : wp_X4_set_B46 (nI k) y K μ := by
  unfold wp_X4_set_B46
  refine ob_keep h (fun ν n1 hRν n2 => ?_)
  have hv := vp_in_nI (n := k) (N := 3) hk (by omega)
  refine ⟨hv, hv, nm_e ?_⟩
  rw [nI_clamp (by omega)]
  have e : ν 2 k = A 0 k := hRν.2.2.2.2.2.1 k hk
  rw [e]
  refine hK _ (ob_new h n1 n2 (fun a ha => up2_ne _ _ _ _ (by omega)) h.1 hA ?_)
  refine relc_congr (fun o ho => ?_) (relc_set hk hRν)
  unfold getS
  funext j
  rw [up2_app, up2_app]
  by_cases e : o = 1 ∧ j = k
  · rw [if_pos ⟨by omega, e.2⟩, if_pos e]
  · rw [if_neg (by omega), if_neg e]
theorem inv_holds {v : Nat} (hA : InvA A n t) (hv1 : 1 ≤ v) (hv4 : v ≤ 4) (hfull : gcA A n 12 ≤ v) : InvA (up2 A 0 0 (nI v)) n t := by
  have hS := hA.2.2.2.1
  have hC := hA.2.2.2.2.2.1
  refine inv_g (by omega) (by omega) (by omega) ?_ (fun s hs => ?_) hA
  · obtain ⟨-, s1, s2, s5⟩ := hS
    unfold SetA
    simp only [up2_app]
    simp only [show (1 : Nat) ≠ 0 by omega, show (2 : Nat) ≠ 0 by omega, show (5 : Nat) ≠ 0 by omega, and_false, if_false, and_self, if_true]
    exact ⟨⟨v, hv1, hv4, rfl⟩, s1, s2, s5⟩
  · rw [cnt_g]
    have h1 := gcA_iff.mp hfull s hs
    have h2 := hC s hs
    unfold capN lndA at h2 ⊢
    simp only [up2_app]
    simp only [show (5 : Nat) ≠ 0 by omega, and_false, if_false, and_self, if_true]
    split
    · rw [nI_clamp (by omega)]; exact h1
    · rename_i hl
      rw [if_neg hl] at h2
      exact h2
theorem sp_setH {v : Nat} (h : Ob μ A n t Z L c) (hv1 : 1 ≤ v) (hv4 : v ≤ 4) (hK : gcA A n 12 ≤ v → ∀ ω, Ob ω (up2 A 0 0 (nI v)) n t Z L c → K (A 0 0) ω) (hF : ¬ gcA A n 12 ≤ v → K (-5) μ) : wp_X4_set 0 (nI v) μ K := by
  have hn := ob_n h
  have hgc := gcA_le (A := A) (n := n) (s := 12)
  unfold wp_X4_set
  refine isSet_t (k := 0) (by omega) (br_f (by decide) ⟨vp_in_nI (n := 0) (by omega) (by omega), ?_⟩)
  refine br_f (nI_nlt (a := v) (b := 1) (by omega) (by omega)) ⟨vp_in_nI (n := 0) (by omega) (by omega), br_t (nI_le (b := 4) (by omega) (by omega)) (br_nf rfl ?_)⟩
  refine at_b (b := 1) (P := fun ρ => wp_X3_greatestCrowd 1 ρ _) (c_greatest h.2.2.1 ?_)
  rw [putS_get]
  by_cases hfull : gcA A n 12 ≤ v
  · exact br_t (nI_le hfull (by omega)) (sp_set_go (k := 0) h (by omega) (inv_holds h.2.1 hv1 hv4 hfull) (hK hfull))
  · exact br_f (nI_ge (by omega) (by omega)) (hF hfull)
theorem inv_k12 {k v : Nat} (hA : InvA A n t) (hk : k = 1 ∧ 1 ≤ v ∧ v ≤ 5 ∨ k = 2 ∧ v ≤ 9) : InvA (up2 A 0 k (nI v)) n t := by
  have hS := hA.2.2.2.1
  have hC := hA.2.2.2.2.2.1
  refine inv_g (by omega) (by omega) (by omega) ?_ (fun s hs => ?_) hA
  · obtain ⟨s0, s1, s2, s5⟩ := hS
    unfold SetA
    simp only [up2_app]
    rcases hk with ⟨rfl, hv1, hv4⟩ | ⟨rfl, hv4⟩
    · simp only [show (0 : Nat) ≠ 1 by omega, show (2 : Nat) ≠ 1 by omega, show (5 : Nat) ≠ 1 by omega, and_false, if_false, and_self, if_true]
      exact ⟨s0, ⟨v, hv1, hv4, rfl⟩, s2, s5⟩
    · simp only [show (0 : Nat) ≠ 2 by omega, show (1 : Nat) ≠ 2 by omega, show (5 : Nat) ≠ 2 by omega, and_false, if_false, and_self, if_true]
      exact ⟨s0, s1, ⟨v, hv4, rfl⟩, s5⟩
  · rw [cnt_g, cap_05 (A := A) (by rw [up2_app, if_neg (by omega)]) (by rw [up2_app, if_neg (by omega)])]
    exact hC s hs
theorem sp_set {k v : Nat} (h : Ob μ A n t Z L c) (hk : k = 1 ∧ 1 ≤ v ∧ v ≤ 5 ∨ k = 2 ∧ v ≤ 9) (hK : ∀ ω, Ob ω (up2 A 0 k (nI v)) n t Z L c → K (A 0 k) ω) : wp_X4_set (nI k) (nI v) μ K := by
  unfold wp_X4_set
  refine isSet_t (k := k) (by omega) (br_f (by decide) ⟨vp_in_nI (by omega) (by omega), ?_⟩)
  rw [nI_clamp (by omega)]
  have hlo : ¬ nI v < leastV k := by
    rcases hk with ⟨rfl, hv1, hv4⟩ | ⟨rfl, hv4⟩
    · exact nI_nlt (a := v) (b := 1) (by omega) (by omega)
    · exact nI_pos (by omega)
  have hhi : nI v ≤ greatV k := by
    rcases hk with ⟨rfl, hv1, hv4⟩ | ⟨rfl, hv4⟩
    · exact nI_le (b := 5) (by omega) (by omega)
    · exact nI_le (b := 9) (by omega) (by omega)
  refine br_f hlo ⟨vp_in_nI (by omega) (by omega), br_t hhi (br_nt (fun q => ?_) (sp_set_go h (by omega) (inv_k12 h.2.1 hk) hK))⟩
  have : k = 0 := nI_inj (by omega) (by omega) (q.trans (rfl : (0 : Int32) = nI 0))
  omega
/-! landing -/
theorem inv_land {s Lm : Nat} (hs : s < 12) (hL : Lm < 4096) (eL : A 0 5 = nI Lm) (hA : InvA A n t) (hc : cntA A (nI s) n ≤ 1) : InvA (up2 A 0 5 (nI (Lm ^^^ 2 ^ s))) n t := by
  have hC := hA.2.2.2.2.2.1
  obtain ⟨⟨hh, hh1, hh4, eh⟩, s1, s2, -⟩ := id hA.2.2.2.1
  have hL2 : Lm ^^^ 2 ^ s < 4096 := Nat.xor_lt_two_pow (n := 12) hL (two12 hs)
  refine inv_g (by omega) (by omega) (by omega) ?_ (fun j hj => ?_) hA
  · unfold SetA
    simp only [up2_app]
    simp only [show (0 : Nat) ≠ 5 by omega, show (1 : Nat) ≠ 5 by omega, show (2 : Nat) ≠ 5 by omega, and_false, if_false, and_self, if_true]
    exact ⟨⟨hh, hh1, hh4, eh⟩, s1, s2, _, hL2, rfl⟩
  · rw [cnt_g]
    have h2 := hC j hj
    unfold capN lndA at h2 ⊢
    simp only [up2_app]
    simp only [show (0 : Nat) ≠ 5 by omega, and_false, if_false, and_self, if_true]
    rw [eh, nI_clamp (by omega)] at h2 ⊢
    by_cases ej : j = s
    · subst ej
      split <;> omega
    · have hb1 := lnd_bit (L := Lm) (s := j) hL hj
      have hb2 := lnd_bit (L := Lm ^^^ 2 ^ s) (s := j) hL2 hj
      rw [Nat.testBit_xor, Nat.testBit_two_pow_of_ne (Ne.symm ej), Bool.xor_false] at hb2
      rw [eL] at h2
      by_cases hbj : Lm.testBit j = true
      · rw [if_pos (hb1.mpr hbj)] at h2
        rw [if_pos (hb2.mpr hbj)]
        exact h2
      · rw [if_neg (fun z => hbj (hb1.mp z))] at h2
        rw [if_neg (fun z => hbj (hb2.mp z))]
        exact h2
def lfI (A : Mem) (s : Nat) : Int32 := if lndA A (nI s) then 1 else 0
theorem sp_landing {s Lm : Nat} {y : Int32} (h : Ob μ A n t Z L c) (hs : s < 12) (hL : Lm < 4096) (eL : A 0 5 = nI Lm) (hK : ¬ lfI A s = y → cntA A (nI s) n ≤ 1 → ∀ ω, Ob ω (up2 A 0 5 (nI (Lm ^^^ 2 ^ s))) n t Z L c → K (nI (lbN (Lm ^^^ 2 ^ s) 12)) ω) (hF : (lfI A s = y ∨ ¬ cntA A (nI s) n ≤ 1) → K (-5) μ) : wp_X4_landing (nI s) y μ K := by
  have hn := ob_n h
  have hR := h.2.2.1
  have q : stp (nI s) := stp_of hs
  have hL2 : Lm ^^^ 2 ^ s < 4096 := Nat.xor_lt_two_pow (n := 12) hL (two12 hs)
  have hcn := cnt_le (A := A) (s := nI s) n
  unfold wp_X4_landing
  refine c_isStep (fun _ => br_nt (by decide) ?_) (fun z => absurd q z)
  refine at_b (b := 1) (P := fun ν => wp_X3_isLanding 1 (nI s) ν _) ?_
  have rest : ∀ b : Int32, b = lfI A s → ((b = y → K (-5) μ) ∧ (¬ b = y → (wp_X3_crowdOn 1 (nI s) μ (fun r_8 m_7 => ((r_8 ≤ 1 → (wp_X0_keep 1 m_7 (fun m_10 => (∀ m_11, m_11 = up2 m_10 1 3 ((m_10 1 3) ^^^ (1 <<< (nI s &&& 31))) → (wp_J6_bitCount_0f7a4 (m_11 1 3) m_11 (fun r_14 m_13 => K r_14 m_13)))))) ∧ (¬ r_8 ≤ 1 → K (-5) m_7)))))) := by
    intro b hb
    subst hb
    refine ⟨fun z => hF (Or.inl z), fun z => ?_⟩
    refine at_b (b := 1) (P := fun ν => wp_X3_crowdOn 1 (nI s) ν _) (c_crowdOn hR q ?_)
    rw [putS_get]
    refine ⟨fun z2 => ?_, fun z2 => hF (Or.inr (fun w => z2 (nI_le (b := 1) w (by omega))))⟩
    have hc1 : cntA A (nI s) n ≤ 1 := (nI_leI (b := 1) (by omega) (by omega)).mp z2
    refine ob_keep h (fun ν n1 hRν n2 => nm_e ?_)
    have e13 : ν 1 3 = nI Lm := by
      have := hRν.2.2.2.1
      rw [eL] at this
      exact this
    rw [e13, one_shl s hs, xor_nI]
    refine c_bitCount ?_
    rw [show up2 ν 1 3 (nI (Lm ^^^ 2 ^ s)) 1 3 = nI (Lm ^^^ 2 ^ s) by rw [up2_app, if_pos ⟨rfl, rfl⟩], bc_ok _ hL2]
    refine hK z hc1 _ (ob_new h n1 n2 (fun a ha => up2_ne _ _ _ _ (by omega)) h.1 (inv_land hs hL eL h.2.1 hc1) ?_)
    refine relc_congr (fun o ho => ?_) (relc_land hRν)
    unfold getS
    funext j
    rw [up2_app, up2_app]
    by_cases e : o = 0 ∧ j = 3
    · rw [if_pos ⟨by omega, e.2⟩, if_pos e]
    · rw [if_neg (by omega), if_neg e]
  refine c_isLanding (A := A) hR.2.2.2.1 (fun hl => ?_) (fun hl => ?_)
  · rw [putS_get]
    exact rest 1 (by unfold lfI; rw [if_pos hl])
  · rw [putS_get]
    exact rest 0 (by unfold lfI; rw [if_neg hl])
/-! come -/
theorem sp_come {r : Nat} {y : Int32} (h : Ob μ A n t Z L c) (hr1 : 1 ≤ r) (hr9 : r ≤ 9) (hy : bz y) (hK : n < 24 → ∀ ω, Ob ω (comesA A n (nI r) y) (n + 1) t Z L c → K (nI n) ω) (hF : n = 24 → K (-4) μ) : wp_X4_come (nI r) y μ K := by
  have hn := ob_n h
  unfold wp_X4_come
  refine br_f (nI_nlt (a := r) (b := 1) (by omega) (by omega)) (br_t (nI_le (b := 9) (by omega) (by omega)) ?_)
  have e14 : μ 1 4 = nI n := h.2.2.1.2.2.1
  rw [e14]
  by_cases h24 : n = 24
  · subst h24
    exact br_f (by decide) (hF rfl)
  · refine br_t (nI_lt (b := 24) (by omega) (by omega)) ?_
    refine ob_keep h (fun ν n1 hRν n2 => ?_)
    refine at_b (b := 1) (P := fun ρ => wp_X3_admit 1 (nI r) y ρ _) ?_
    refine c_admit (by omega) hRν hy (fun S' hS' => ?_)
    have e4 : putS 1 S' ν 1 4 = nI (n + 1) := by rw [putS_b]; exact hS'.2.2.1
    rw [e4, nI_pred]
    refine hK (by omega) _ (ob_new h n1 n2 (fun a ha => putS_ne _ _ _ (by omega)) h.1 (inv_comes (by omega) ⟨r, hr1, hr9, rfl⟩ hy h.2.1) ?_)
    exact relc_congr (fun o ho => getS_put _ _ _ ho) hS'
/-! turn -/
theorem sp_turn {p : Nat} (h : Ob μ A n t Z L c) (hp : p < n) (hK : A (p + 1) 2 = 1 → ∀ ω, Ob ω (up2 A (p + 1) 1 (1 - A (p + 1) 1)) n t Z L c → K (1 - A (p + 1) 1) ω) (hF : ¬ A (p + 1) 2 = 1 → K (-5) μ) : wp_X4_turn (nI p) μ K := by
  have hn := ob_n h
  have hA := h.2.1
  have hR := h.2.2.1
  unfold wp_X4_turn
  refine isPer_t h hp (br_nt (by decide) ⟨vp_in_nI (by omega) (by omega), ?_⟩)
  rw [nI_clamp (by omega)]
  have hrel := hR.2.2.2.2.2.2.2 p hp
  have eS : ∀ (ν : Mem) k, ν (3 + 2 + p) k = getS 1 ν (4 + p) k := fun ν k => by
    unfold getS
    rw [show 3 + 2 + p = 1 + (4 + p) by omega]
  rw [eS μ 2, hrel.1.2.2.1]
  refine ⟨fun q => ?_, hF⟩
  refine ob_keep h (fun ν n1 hRν n2 => ?_)
  have rest : ∀ v : Int32, (v = 0 ∨ v = 1) → v = 1 - A (p + 1) 1 → K v (up2 ν (3 + 2 + p) 1 v) := by
    intro v hv ev
    subst ev
    refine hK q _ (ob_new h n1 n2 (fun a ha => up2_ne _ _ _ _ (by omega)) h.1 (inv_up1 hv hA) ?_)
    refine relc_congr (fun o ho => ?_) (relc_turn hp q hRν)
    unfold getS
    funext k
    rw [up2_app, up2_app]
    by_cases e : o = 4 + p ∧ k = 1
    · rw [if_pos ⟨by omega, e.2⟩, if_pos e]
    · rw [if_neg (by omega), if_neg e]
  have hrν := hRν.2.2.2.2.2.2.2 p hp
  rw [eS ν 1, hrν.1.2.1]
  have rd : ∀ v : Int32, up2 ν (3 + 2 + p) 1 v (3 + 2 + p) 1 = v := fun v => by rw [up2_app, if_pos ⟨rfl, rfl⟩]
  rcases (hA.2.2.2.2.1 p hp).1 with hu | hu
  · refine br_nf hu (nm_e ?_)
    rw [rd]
    exact br_f (by decide) (rest 1 (Or.inr rfl) (by rw [hu]; rfl))
  · refine br_nt (by rw [hu]; decide) (nm_e ?_)
    rw [rd]
    exact br_t rfl (rest 0 (Or.inl rfl) (by rw [hu]; rfl))
theorem sp_turnX {x : Int32} (h : Ob μ A n t Z L c) (hx : x < 0 ∨ nI n ≤ x) (hK : K (-1) μ) : wp_X4_turn x μ K := by
  unfold wp_X4_turn
  exact isPer_f h hx (br_nf rfl hK)
/-! pass -/
theorem sp_pass {m : Nat} (h : Ob μ A n t Z L c) (hm1 : 1 ≤ m) (hm2 : m ≤ 99) (hlim : t + m ≤ 9999) (hK : ∀ ω, Ob ω (tkA A n m) n (t + m) Z L c → K (nI (whoA (tkA A n m) 2 n) - nI (whoA A 2 n)) ω) : wp_X4_pass (nI m) μ K := by
  have hn := ob_n h
  have hA := h.2.1
  have h15 : μ 1 5 = nI t := by
    have := h.2.2.1.2.2.2.2.1
    rw [hA.2.2.1] at this
    exact this
  unfold wp_X4_pass
  refine br_f (nI_nlt (a := m) (b := 1) (by omega) (by omega)) (br_t (nI_le (b := 99) (by omega) (by omega)) ?_)
  rw [h15, nI_add]
  refine br_t (nI_le (b := 9999) hlim (by omega)) ?_
  refine ob_keep h (fun ν n1 hRν n2 => ?_)
  refine c_who1 hRν ?_
  have key : ∀ d j S', j + d = m → RelC S' (tkA A n j) n → wp_X4_pass_L54 (nI m) (nI (whoA A 2 n)) K (d + 1) (nI j) (putS 1 S' ν) := by
    intro d
    induction d with
    | zero =>
      intro j S' hj hS'
      have : j = m := by omega
      subst this
      rw [wp_X4_pass_L54_s]
      simp only
      refine br_t (nI_le (Nat.le_refl _) (by omega)) ?_
      refine c_peopleWho hS' (hK _ (ob_new h n1 n2 (fun a ha => putS_ne _ _ _ (by omega)) hlim (tk_inv hA j) ?_))
      exact relc_congr (fun o ho => getS_put _ _ _ ho) hS'
    | succ d ih =>
      intro j S' hj hS'
      rw [wp_X4_pass_L54_s]
      simp only
      refine br_f (nI_ge (by omega) (by omega)) ?_
      refine c_tick hS' (tk_inv hA j).2.2.2.2.1 (fun T hT _ => ?_)
      rw [nI_1]
      exact ih (j + 1) T (by omega) hT
  refine ⟨m + 1, ?_⟩
  have := key m 0 (getS 1 ν) (by omega) hRν
  rw [putS_get] at this
  exact this
/-! save, restore -/
def zUp (Z : Nat → Option (Mem × Nat × Nat)) (k : Nat) (z : Mem × Nat × Nat) : Nat → Option (Mem × Nat × Nat) := fun j => if j = k then some z else Z j
theorem sp_save {k : Nat} (h : Ob μ A n t Z L c) (hk : k < 2) (hK : ∀ ω, Ob ω A n t (zUp Z k (A, n, t)) L c → K (A 0 3) ω) : wp_X4_save (nI k) μ K := by
  unfold wp_X4_save
  refine c_slot (fun j hj e => br_nt (by decide) ?_) (fun hno => absurd ⟨k, hk, rfl⟩ hno)
  have hv := vp_in_nI (n := k) (N := 2) hk (by omega)
  refine ⟨hv, ?_⟩
  rw [nI_clamp (by omega)]
  refine c_copy (Or.inr (by omega)) (ob_st h) (fun S' _ hS' => ⟨hv, nm_e ?_⟩)
  have e1 : ∀ a, ¬ (231 + 28 * k ≤ a ∧ a < 231 + 28 * k + 28) → a ≠ 228 → up2 (putS (231 + 28 * k) S' μ) 228 k 1 a = μ a := fun a ha hb => by rw [up2_ne _ _ _ _ hb, putS_ne _ _ _ ha]
  have e15 : up2 (putS (231 + 28 * k) S' μ) 228 k 1 1 5 = A 0 3 := by
    rw [e1 1 (by omega) (by omega)]
    exact h.2.2.1.2.2.2.2.1
  rw [e15]
  obtain ⟨o1, o2, o3, ⟨g, R, hH⟩, o5, o6, o7, o8⟩ := id h
  refine hK _ ⟨o1, o2, relc_congr (getS_eq (fun a x y => e1 a (by omega) (by omega))) o3, ⟨g, R, hist_fr (fun a x y => e1 a (by omega) (by omega)) hH⟩, fun j hj => ?_, o6, by rw [e1 229 (by omega) (by omega)]; exact o7, fun i hi => by rw [e1 230 (by omega) (by omega)]; exact o8 i hi⟩
  have e8 : up2 (putS (231 + 28 * k) S' μ) 228 k 1 228 j = if j = k then 1 else μ 228 j := by
    rw [up2_app, putS_ne _ _ _ (by omega)]
    simp
  unfold zUp
  by_cases hjk : j = k
  · subst hjk
    rw [if_pos rfl]
    refine ⟨fun z => (by cases z), fun B m u z => ?_⟩
    cases z
    refine ⟨by rw [e8, if_pos rfl], o1, o2, relc_congr (fun o ho => ?_) (hS' _ _ o3)⟩
    unfold getS
    rw [up2_ne _ _ _ _ (by omega)]
    exact putS_at _ _ _ ho
  · rw [if_neg hjk]
    obtain ⟨a1, a2⟩ := o5 j hj
    refine ⟨fun z => by rw [e8, if_neg hjk]; exact a1 z, fun B m u z => ?_⟩
    obtain ⟨b1, b2, b3, b4⟩ := a2 B m u z
    exact ⟨by rw [e8, if_neg hjk]; exact b1, b2, b3, relc_congr (getS_eq (fun a x y => e1 a (by omega) (by omega))) b4⟩
theorem sp_restore {k : Nat} (h : Ob μ A n t Z L c) (hk : k < 2) (hN : Z k = none → K (-5) μ) (hK : ∀ B m u, Z k = some (B, m, u) → ∀ ω, Ob ω B m u Z L c → K (B 0 3) ω) : wp_X4_restore (nI k) μ K := by
  unfold wp_X4_restore
  refine c_slot (fun j hj e => br_nt (by decide) ?_) (fun hno => absurd ⟨k, hk, rfl⟩ hno)
  have hv := vp_in_nI (n := k) (N := 2) hk (by omega)
  refine ⟨hv, ?_⟩
  rw [nI_clamp (by omega)]
  obtain ⟨a1, a2⟩ := h.2.2.2.2.1 k hk
  cases hz : Z k with
  | none => exact br_nf (a1 hz) (hN hz)
  | some z =>
    obtain ⟨B, m, u⟩ := z
    obtain ⟨b1, b2, b3, b4⟩ := a2 B m u hz
    refine br_nt (by rw [b1]; decide) ?_
    refine ob_keep h (fun ν n1 hRν n2 => ⟨hv, ?_⟩)
    have b4ν : RelC (getS (231 + 28 * k) ν) B m := relc_congr (getS_eq (fun a x y => n1 a (by omega))) b4
    refine c_copy (Or.inl (by omega)) (of_abs b2 b3 b4ν) (fun S' _ hS' => ?_)
    have hS2 := hS' _ _ b4ν
    have e15 : putS 1 S' ν 1 5 = B 0 3 := by rw [putS_b]; exact hS2.2.2.2.2.1
    rw [e15]
    exact hK B m u hz _ (ob_new h n1 n2 (fun a ha => putS_ne _ _ _ (by omega)) b2 b3 (relc_congr (fun o ho => getS_put _ _ _ ho) hS2))
/-! the pad -/
theorem sp_wipe (h : Ob μ A n t Z L c) (hK : ∀ ω, Ob ω A n t Z 0 c → K (nI L) ω) : wp_X4_wipe μ K := by
  unfold wp_X4_wipe
  refine nm_e ?_
  obtain ⟨o1, o2, o3, ⟨g, R, hH⟩, o5, o6, o7, o8⟩ := id h
  rw [o7]
  have e : ∀ a, a ≠ 229 → up2 μ 229 1 0 a = μ a := fun a ha => up2_ne _ _ _ _ ha
  exact hK _ ⟨o1, o2, relc_congr (getS_eq (fun a x y => e a (by omega))) o3, ⟨g, R, hist_fr (fun a x y => e a (by omega)) hH⟩, fun k hk => slz_fr hk (fun a x y => e a (by omega)) (e 228 (by omega)) (o5 k hk), by omega, by rw [up2_app, if_pos ⟨rfl, rfl⟩]; rfl, fun i hi => by omega⟩
/-- a number that is one character -/
theorem one_char {m : Nat} (hm1 : 33 ≤ m) (hm2 : m ≤ 126) (ν : Mem) (K : Int32 → Mem → Prop) (hK : K (nI 1) ν) : wp_X1_charactersIn (lN m) ν K := by
  refine ⟨2, ?_⟩
  rw [wp_X1_charactersIn_L4_s]
  simp only
  rw [lg_cmp_eq, lN_0 (by omega)]
  refine br_f (by omega) (br_f (by decide) ?_)
  rw [and255 (by omega), Nat.mod_eq_of_lt (by omega), lg_cmp_lt, lg_cmp_le, show (lN m < 33 ↔ m < 33) from lN_lt (b := 33) (by omega) (by omega), show (lN m ≤ 126 ↔ m ≤ 126) from lN_le (b := 126) (by omega) (by omega)]
  refine br_f (by omega) (br_t hm2 ?_)
  rw [show (8 : Int32) = nI 8 from rfl, lsr_N (by omega) (by omega), show m / 2 ^ 8 = 0 by omega, show (0 : Int32) + 1 = nI 1 from rfl]
  rw [wp_X1_charactersIn_L4_s]
  simp only
  rw [lg_cmp_eq]
  exact br_t rfl hK
theorem sp_put1 {m : Nat} (h : Ob μ A n t Z L c) (hm1 : 33 ≤ m) (hm2 : m ≤ 126) (hL : L + 1 ≤ 60) (hK : ∀ ω c', Ob ω A n t Z (L + 1) c' → (∀ i, i < L → c' i = c i) → c' L = nI m → K (nI (L + 1)) ω) : wp_X4_put (lN m) μ K := by
  obtain ⟨o1, o2, o3, ⟨g, R, hH⟩, o5, o6, o7, o8⟩ := id h
  unfold wp_X4_put
  refine c_append (N := 1) (by omega) (fun ν K hK => one_char hm1 hm2 ν K hK) o6 o7 (fun e => by omega) (fun _ e => by omega) (fun _ _ ν a1 a0 a2 a3 a4 => ?_)
  refine hK ν (ν 230) ⟨o1, o2, relc_congr (getS_eq (fun a x y => a1 a (by omega) (by omega))) o3, ⟨g, R, hist_fr (fun a x y => a1 a (by omega) (by omega)) hH⟩, fun k hk => slz_fr hk (fun a x y => a1 a (by omega) (by omega)) (a1 228 (by omega) (by omega)) (o5 k hk), hL, a2, fun i hi => rfl⟩ (fun i hi => by rw [a3 i hi]; exact o8 i hi) ?_
  have := a4 0 (by omega)
  rw [Nat.add_zero] at this
  rw [this]
  show chV (lN m) 0 = nI m
  unfold chV
  rw [show (8 * 0 : Nat) = 0 from rfl, lsr_N (by omega) (by omega), Nat.pow_zero, Nat.div_one, and255 (by omega), Nat.mod_eq_of_lt (by omega), lN_i]
/-! read: one person on the pad -/
theorem sp_read2 {r : Nat} (h : Ob μ A n t Z 2 c) (h0 : c 0 = 117 ∨ c 0 = 100) (hr1 : 1 ≤ r) (hr9 : r ≤ 9) (h1 : c 1 = nI (48 + r)) (hn : n < 24) (hK : ∀ ω, Ob ω (comesA A n (nI r) (if c 0 = 117 then 1 else 0)) (n + 1) t Z 0 c → K (nI (n + 1)) ω) : wp_X4_read μ K := by
  obtain ⟨o1, o2, o3, ⟨g, R, hH⟩, o5, o6, o7, o8⟩ := id h
  have e0 : μ 230 0 = c 0 := o8 0 (by omega)
  have e1 : μ 230 1 = c 1 := o8 1 (by omega)
  have h14 : μ 1 4 = nI n := o3.2.2.1
  unfold wp_X4_read
  have ok0 : okC (μ 230) 0 := ⟨fun _ => by rw [e0]; exact h0, fun z => absurd rfl z⟩
  have ok1 : okC (μ 230) 1 := ⟨fun z => by omega, fun _ => by rw [e1, h1]; exact ⟨nI_nlt (a := 48 + r) (b := 49) (by omega) (by omega), nI_nlt (a := 57) (b := 48 + r) (by omega) (by omega)⟩⟩
  refine c_fault (L := 2) (by omega) o7 (fun i hi hno _ => ?_) (fun _ => ?_)
  · rcases (show i = 0 ∨ i = 1 by omega) with rfl | rfl
    · exact absurd ok0 hno
    · exact absurd ok1 hno
  rw [show ffE 2 = -6 from rfl]
  refine br_t rfl ?_
  rw [o7, h14, show nI 2 / 2 = nI 1 by decide, nI_add]
  refine br_t (nI_le (b := 24) (by omega) (by omega)) ?_
  refine ob_keep h (fun ν n1 hRν n2 => ?_)
  have eν9 : ν 229 1 = nI 2 := by rw [n1 229 (by omega)]; exact o7
  have eν0 : ν 230 0 = c 0 := by rw [n1 230 (by omega)]; exact e0
  have eν1 : ν 230 1 = c 1 := by rw [n1 230 (by omega)]; exact e1
  have t1 : ((2 * (0 : Int32)) + 1).toNatClampNeg = 1 := by decide
  have t0 : (2 * (0 : Int32)).toNatClampNeg = 0 := by decide
  refine ⟨2, ?_⟩
  rw [wp_X4_read_L55_s]
  simp only
  refine br_f (by decide) ?_
  unfold wp_X1_rankOf
  rw [eν9]
  refine br_f (by decide) (br_f (by decide) ⟨vp_lit (by decide) (by decide), ?_⟩)
  rw [t1, eν1, h1, show nI (48 + r) - 48 = nI r by rw [show (48 : Int32) = nI 48 from rfl, pk_sub (by omega)]; congr 1; omega]
  unfold wp_X1_isUp
  dsimp only
  rw [eν9]
  refine br_f (by decide) (br_f (by decide) ⟨vp_lit (by decide) (by decide), ?_⟩)
  rw [t0, eν0]
  have fin : ∀ u : Int32, bz u → u = (if c 0 = 117 then 1 else 0) → wp_X3_admit 1 (nI r) u ν (fun m_13 => wp_X4_read_L55 (nI 1) K 1 (0 + 1) m_13) := by
    intro u hu eu
    rw [← eu] at hK
    refine at_b (b := 1) (P := fun ρ => wp_X3_admit 1 (nI r) u ρ _) (c_admit (by omega) hRν hu (fun S' hS' => ?_))
    rw [wp_X4_read_L55_s]
    simp only
    refine br_t (by decide) (nm_e ?_)
    have eω : ∀ a, ¬ (1 ≤ a ∧ a < 29) → a ≠ 229 → up2 (putS 1 S' ν) 229 1 0 a = ν a := fun a ha hb => by rw [up2_ne _ _ _ _ hb, putS_ne _ _ _ (by omega)]
    have eμ : ∀ a, 227 ≤ a → a ≠ 229 → up2 (putS 1 S' ν) 229 1 0 a = μ a := fun a ha hb => by rw [eω a (by omega) hb, n1 a (by omega)]
    have e4 : up2 (putS 1 S' ν) 229 1 0 1 4 = nI (n + 1) := by rw [up2_ne _ _ _ _ (by decide), putS_b]; exact hS'.2.2.1
    rw [e4]
    obtain ⟨g2, R2, hH2⟩ := n2
    refine hK _ ⟨o1, inv_comes (by omega) ⟨r, hr1, hr9, rfl⟩ hu o2, relc_congr (fun o ho => ?_) hS', ⟨g2, R2, hist_fr (fun a x y => eω a (by omega) (by omega)) hH2⟩, fun k hk => slz_fr hk (fun a x y => eμ a (by omega) (by omega)) (eμ 228 (by omega) (by omega)) (o5 k hk), by omega, by rw [up2_app, if_pos ⟨rfl, rfl⟩]; rfl, fun i hi => by omega⟩
    unfold getS
    rw [up2_ne _ _ _ _ (by omega)]
    exact putS_at _ _ _ ho
  refine ⟨fun z => fin 0 (Or.inl rfl) (by rw [if_neg z]), fun z => fin 1 (Or.inr rfl) (by rw [if_pos z])⟩
end CH

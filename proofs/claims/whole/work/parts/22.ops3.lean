/-! set, landing, pass -/
theorem relc_set {S A : Mem} {n k : Nat} {v : Int32} (hk : k < 3) (hR : RelC S A n) : RelC (up2 S 1 k v) (up2 A 0 k v) n := by
  obtain ⟨hn, r4, s4, s3, s5, rs, rc, rp⟩ := hR
  refine ⟨hn, by rw [up2_app, if_neg (by omega), r4], by rw [up2_ne _ _ _ _ (by omega), s4], by rw [up2_ne _ _ _ _ (by omega), up2_app, if_neg (by omega), s3], by rw [up2_ne _ _ _ _ (by omega), up2_app, if_neg (by omega), s5], fun j hj => ?_, fun s hs => ?_, fun q hq => by rw [up2_ne _ _ _ _ (by omega), up2_ne _ _ _ _ (by omega)]; exact rp q hq⟩
  · rw [up2_app, up2_app, rs j hj]
    simp
  · rw [up2_ne _ _ _ _ (by omega), rc s hs, cnt_congr (A := A) (B := up2 A 0 k v)]
    intro q _
    rw [up2_ne _ _ _ _ (by omega)]
    exact ⟨rfl, rfl⟩
theorem relc_land {S A : Mem} {n : Nat} {v : Int32} (hR : RelC S A n) : RelC (up2 S 0 3 v) (up2 A 0 5 v) n := by
  obtain ⟨hn, r4, s4, s3, s5, rs, rc, rp⟩ := hR
  refine ⟨hn, by rw [up2_app, if_neg (by omega), r4], by rw [up2_app, if_neg (by omega), s4], by rw [up2_app, if_pos ⟨rfl, rfl⟩, up2_app, if_pos ⟨rfl, rfl⟩], by rw [up2_app, if_neg (by omega), up2_app, if_neg (by omega), s5], fun j hj => by rw [up2_ne _ _ _ _ (by omega), up2_app, if_neg (by omega), rs j hj], fun s hs => ?_, fun q hq => by rw [up2_ne _ _ _ _ (by omega), up2_ne _ _ _ _ (by omega)]; exact rp q hq⟩
  rw [up2_ne _ _ _ _ (by omega), rc s hs, cnt_congr (A := A) (B := up2 A 0 5 v)]
  intro q _
  rw [up2_ne _ _ _ _ (by omega)]
  exact ⟨rfl, rfl⟩
/-- the staircase's own numbers change, people don't -/
theorem inv_g {A : Mem} {n t k : Nat} {v : Int32} (hk : k < 6) (h3 : k ≠ 3) (hk4 : k ≠ 4) (hS' : SetA (up2 A 0 k v)) (hC' : CapOk (up2 A 0 k v) n) (h : InvA A n t) : InvA (up2 A 0 k v) n t := by
  obtain ⟨hn, h4, h3', hS, hO, hC, hT, hB⟩ := h
  have ep : ∀ q j, up2 A 0 k v (q + 1) j = A (q + 1) j := fun q j => by rw [up2_ne _ _ _ _ (by omega)]
  refine ⟨hn, by rw [up2_app, if_neg (by omega), h4], by rw [up2_app, if_neg (by omega), h3'], hS', fun q hq => okp_congr (hO q hq) (ep q 0) (ep q 1) (ep q 2) (ep q 3), hC', ?_, ?_⟩
  · unfold Tot
    rw [up2_app, if_neg (by omega), up2_app, if_neg (by omega), up2_app, if_neg (by omega), sum_congr (A := A) (k := 6) (fun q _ => ep q 6), sum_congr (A := A) (k := 5) (fun q _ => ep q 5), sum_congr (A := A) (k := 4) (fun q _ => ep q 4)]
    exact hT
  · unfold Bow
    rw [up2_app, if_neg (by omega)]
    exact hB
theorem cnt_g {A : Mem} {n k : Nat} {v s : Int32} : cntA (up2 A 0 k v) s n = cntA A s n := cnt_congr (fun q _ => by rw [up2_ne _ _ _ _ (by omega)]; exact ⟨rfl, rfl⟩)
theorem m_isSet {k : Nat} {y : Int32} {μ : Mem} {K : Int32 → Mem → Prop} (hk : k < 3) (h1 : ¬ y < leastV k ∧ ¬ greatV k < y → K 1 μ) (h0 : (y < leastV k ∨ greatV k < y) → K 0 μ) : wp_X5_isSetting (nI k) y μ K := by
  unfold wp_X5_isSetting
  have hi : (nI k).toInt = k := nI_toInt (by omega)
  have go : ∀ lo hi2 : Int32, leastV k = lo → greatV k = hi2 → ∀ a b : Int64, a = lo.toInt64 → b = hi2.toInt64 → wp_X5_in y.toInt64 a b μ (fun r m => (bz r ∧ K r m)) := by
    intro lo hi2 e1 e2 a b e3 e4
    subst e1 e2
    exact m_in e3 e4 (fun z => ⟨Or.inr rfl, h1 z⟩) (fun z => ⟨Or.inl rfl, h0 z⟩)
  refine ⟨fun z => by omega, fun z => ?_, fun z => ?_, fun z => ?_⟩
  · have : k = 0 := by omega
    subst this
    exact go 1 4 rfl rfl _ _ rfl rfl
  · have : k = 1 := by omega
    subst this
    exact go 1 5 rfl rfl _ _ rfl rfl
  · have : k = 2 := by omega
    subst this
    exact go 0 9 rfl rfl _ _ rfl rfl
theorem set_go {μ : Mem} {k n t g : Nat} {y : Int32} (hk : k < 3) (hI : Inv μ) (ht : t ≤ 9999) (hg : g ≤ 6) (h73 : μ 287 3 = nI g) (hH : HistC μ g (hisR μ)) (hR : RelC (getS 1 μ) (absA μ) n) (hA : InvA (up2 (absA μ) 0 k y) n t)
    (hm : ∀ (ω : Mem) (K : Int32 → Mem → Prop), absA ω = absA μ → wp_X5_changes ω (fun m_5 => (vp_in (nI k) 225 ∧ (vp_in (nI k) 225 ∧ (∀ m_6, m_6 = up2 m_5 288 (nI k).toNatClampNeg y → K (m_5 288 (nI k).toNatClampNeg) m_6)))) → wp_X5_set (nI k) y ω K) : wp_X4_set_B46 (nI k) y (fun r μ1 => wp_X5_set (nI k) y μ1 (Fin2 r)) μ := by
  unfold wp_X4_set_B46
  refine c_keep hH hI.1 (fun ν n1 n2 => ?_)
  have hRν : RelC (getS 1 ν) (absA μ) n := relc_congr (getS_eq (fun a u v => n1 a (by omega))) hR
  have hv := vp_in_nI (n := k) (N := 3) hk (by omega)
  refine ⟨hv, hv, nm_e ?_⟩
  rw [nI_clamp (by omega)]
  have eω : ∀ a, ¬ (1 ≤ a ∧ a < 29) → up2 ν 2 k y a = ν a := fun a ha => up2_ne _ _ _ _ (by omega)
  have eμ : ∀ a, 227 ≤ a → up2 ν 2 k y a = μ a := fun a ha => by rw [eω a (by omega), n1 a (by omega)]
  have eA0 : absA (up2 ν 2 k y) = absA μ := abs_eq (eμ 288 (by omega)) (eμ 293 (by omega))
  refine hm _ _ eA0 (m_changes hg (by rw [eμ 287 (by omega), h73]) (fun ρ r1 r2 r3 r4 => ?_))
  have eA : absA ρ = absA μ := abs_eq (by rw [r1 288 (by omega) (by omega), eμ 288 (by omega)]) (by rw [r1 293 (by omega) (by omega), eμ 293 (by omega)])
  have hv2 := vp_in_nI (n := k) (N := 225) (by omega) (by omega)
  refine ⟨hv2, hv2, nm_e ?_⟩
  rw [nI_clamp (by omega)]
  refine ⟨?_, ?_⟩
  · rw [← abs_0 ρ (by omega), eA, ← hRν.2.2.2.2.2.1 k hk]
    rfl
  · have eφ : up2 ρ 288 k y = conA (up2 (absA μ) 0 k y) ρ := by
      rw [← conA_up0 _ _ _ _ (by omega), ← eA, conA_abs]
    rw [eφ]
    refine inv_chg2 hg hI n1 n2 eω r1 r2 r3 r4 (fun a h1 h2 => conA_ne _ _ h1 h2) ?_
    refine rel_fin ht hA (ω := up2 ν 2 k y) (ρ := ρ) ?_ (fun a h1 h2 => ?_) (conA_288 _ _)
    · refine relc_congr (fun o ho => ?_) (relc_set hk hRν)
      unfold getS
      funext j
      rw [up2_app, up2_app]
      by_cases e : o = 1 ∧ j = k
      · rw [if_pos ⟨by omega, e.2⟩, if_pos e]
      · rw [if_neg (by omega), if_neg e]
    · rw [conA_ne _ _ (by omega) (by omega), r1 a (by omega) (by omega)]
theorem nI_rng {y : Int32} {a b : Nat} (ha : a < 2 ^ 31) (hb : b < 2 ^ 31) (h1 : ¬ y < nI a) (h2 : y ≤ nI b) : ∃ v, a ≤ v ∧ v ≤ b ∧ y = nI v := by
  rw [fa_lt, nI_toInt ha] at h1
  have h0 : (0 : Int32).toInt = 0 := rfl
  obtain ⟨v, hv, e⟩ := nI_of2 (x := y) (nI_toInt hb) (fun z => by rw [fa_lt, h0] at z; omega) h2
  refine ⟨v, ?_, hv, e⟩
  rw [e, nI_toInt (by omega)] at h1
  omega
theorem op_set {μ : Mem} {x y : Int32} (hI : Inv μ) : wp_X4_set x y μ (fun r μ1 => wp_X5_set x y μ1 (Fin2 r)) := by
  obtain ⟨n, t, ht, hA, hR⟩ := now_abs hI.1
  obtain ⟨g, hg, h73, hH⟩ := hI.2.1
  have hn := hR.1
  have h4 := hA.2.1
  have hS := hA.2.2.2.1
  have hC := hA.2.2.2.2.2.1
  have bad : (x < 0 ∨ 2 < x) → wp_X5_set x y μ (Fin2 (-2)) := fun z => by
    unfold wp_X5_set wp_X5_isSetting
    have zz : x.toInt < 0 ∨ 2 < x.toInt := by
      rcases z with z | z
      · rw [fa_lt] at z; exact Or.inl z
      · rw [fa_lt] at z; exact Or.inr z
    exact ⟨fun _ => br_nf rfl ⟨rfl, hI⟩, fun w => by omega, fun w => by omega, fun w => by omega⟩
  unfold wp_X4_set wp_X4_isSetting
  refine ⟨fun z => br_t rfl (bad (Or.inl z)), fun z => ⟨fun z2 => br_t rfl (bad (Or.inr z2)), fun z2 => br_f (by decide) ?_⟩⟩
  obtain ⟨k, hk, e⟩ := nI_of2 (n := 2) (M := 2) rfl z (by rw [fa_lt] at z2; rw [fa_le]; omega)
  subst e
  have hv := vp_in_nI (n := k) (N := 3) (by omega) (by omega)
  rw [nI_clamp (by omega)]
  have bad2 : (y < leastV k ∨ greatV k < y) → wp_X5_set (nI k) y μ (Fin2 (-2)) := fun w => by
    unfold wp_X5_set
    exact m_isSet (by omega) (fun q => absurd w (fun v => v.elim q.1 q.2)) (fun _ => br_nf rfl ⟨rfl, hI⟩)
  refine ⟨hv, fun w => bad2 (Or.inl w), fun w => ⟨hv, fun w2 => ?_, fun w2 => bad2 (Or.inr (nle_lt w2))⟩⟩
  have hin : ¬ y < leastV k ∧ ¬ greatV k < y := ⟨w, le_nlt w2⟩
  by_cases hk0 : k = 0
  · subst hk0
    refine br_nf rfl ?_
    obtain ⟨v, hv1, hv4, ev⟩ := nI_rng (a := 1) (b := 4) (by omega) (by omega) w w2
    subst ev
    refine at_b (b := 1) (P := fun ρ => wp_X3_greatestCrowd 1 ρ _) (c_greatest hR ?_)
    rw [putS_get]
    have hgc := gcA_le (A := absA μ) (n := n) (s := 12)
    have htf : tfA (absA μ) n (nI v) 12 = true ↔ ¬ gcA (absA μ) n 12 ≤ v := by
      rw [tfA_ex, gcA_iff]
      constructor
      · rintro ⟨j, hj, _, hc⟩ hall
        have hle := cnt_le (A := absA μ) (s := nI j) n
        exact hc (nI_le (hall j hj) (by omega))
      · intro hno
        refine Classical.byContradiction (fun hne => hno (fun j hj => ?_))
        refine Classical.byContradiction (fun hgt => hne ⟨j, hj, ?_, ?_⟩)
        · refine Classical.byContradiction (fun hl => ?_)
          have := hC j hj
          unfold capN at this
          rw [if_neg hl] at this
          omega
        · have hle := cnt_le (A := absA μ) (s := nI j) n
          exact nI_ge (by omega) (by omega)
    by_cases hfull : gcA (absA μ) n 12 ≤ v
    · refine br_t (nI_le hfull (by omega)) ?_
      have htf0 : tfA (absA μ) n (nI v) 12 = false := by
        cases h : tfA (absA μ) n (nI v) 12 with
        | false => rfl
        | true => exact absurd hfull (htf.mp h)
      have hA' : InvA (up2 (absA μ) 0 0 (nI v)) n t := by
        refine inv_g (by omega) (by omega) (by omega) ?_ (fun s hs => ?_) hA
        · obtain ⟨-, s1, s2, s5⟩ := hS
          unfold SetA
          simp only [up2_app]
          simp only [show (1 : Nat) ≠ 0 by omega, show (2 : Nat) ≠ 0 by omega, show (5 : Nat) ≠ 0 by omega, and_false, if_false, and_self, if_true]
          exact ⟨⟨v, hv1, hv4, rfl⟩, s1, s2, s5⟩
        · rw [cnt_g]
          have h1 := gcA_iff.mp hfull s hs
          have h2 := hC s hs
          unfold capN lndA at h2 ⊢
          simp only [up2_app]
          simp only [show (5 : Nat) ≠ 0 by omega, and_false, if_false, and_self, if_true]
          split
          · rw [nI_clamp (by omega)]; exact h1
          · rename_i hl
            rw [if_neg hl] at h2
            exact h2
      refine set_go (by omega) hI ht hg h73 hH hR hA' (fun ω K eω h => ?_)
      unfold wp_X5_set
      refine m_isSet (by omega) (fun _ => br_nt (by decide) (br_nf rfl ?_)) (fun q => absurd q (fun u => u.elim hin.1 hin.2))
      refine at_A (P := fun ρ => wp_X5_isTooFull (nI v) ρ _) ?_
      rw [eω]
      refine m_isTooFull hn h4 ?_
      rw [htf0]
      refine br_t rfl ?_
      rw [← eω, conA_abs]
      exact h
    · refine br_f (nI_ge (by omega) (by omega)) ?_
      unfold wp_X5_set
      refine m_isSet (by omega) (fun _ => br_nt (by decide) (br_nf rfl ?_)) (fun q => absurd q (fun u => u.elim hin.1 hin.2))
      refine at_A (P := fun ρ => wp_X5_isTooFull (nI v) ρ _) (m_isTooFull hn h4 ?_)
      rw [htf.mpr hfull, conA_abs]
      exact br_f (by decide) ⟨rfl, hI⟩
  · refine br_nt (fun q => hk0 (nI_inj (by omega) (by omega) (q.trans (rfl : (0 : Int32) = nI 0)))) ?_
    have hA' : InvA (up2 (absA μ) 0 k y) n t := by
      refine inv_g (by omega) (by omega) (by omega) ?_ (fun s hs => ?_) hA
      · obtain ⟨s0, s1, s2, s5⟩ := hS
        unfold SetA
        simp only [up2_app]
        have : k = 1 ∨ k = 2 := by omega
        rcases this with rfl | rfl
        · obtain ⟨v, hv1, hv4, ev⟩ := nI_rng (a := 1) (b := 5) (by omega) (by omega) w w2
          simp only [show (0 : Nat) ≠ 1 by omega, show (2 : Nat) ≠ 1 by omega, show (5 : Nat) ≠ 1 by omega, and_false, if_false, and_self, if_true]
          exact ⟨s0, ⟨v, hv1, hv4, ev⟩, s2, s5⟩
        · obtain ⟨v, hv1, hv4, ev⟩ := nI_rng (a := 0) (b := 9) (by omega) (by omega) w w2
          simp only [show (0 : Nat) ≠ 2 by omega, show (1 : Nat) ≠ 2 by omega, show (5 : Nat) ≠ 2 by omega, and_false, if_false, and_self, if_true]
          exact ⟨s0, s1, ⟨v, hv4, ev⟩, s5⟩
      · rw [cnt_g, cap_05 (A := absA μ) (by rw [up2_app, if_neg (by omega)]) (by rw [up2_app, if_neg (by omega)])]
        exact hC s hs
    refine set_go (by omega) hI ht hg h73 hH hR hA' (fun ω K eω h => ?_)
    unfold wp_X5_set
    exact m_isSet (by omega) (fun _ => br_nt (by decide) (br_nt (fun q => hk0 (nI_inj (by omega) (by omega) (q.trans (rfl : (0 : Int32) = nI 0)))) h)) (fun q => absurd q (fun u => u.elim hin.1 hin.2))
/-! ===== landing ===== -/
theorem op_landing {μ : Mem} {x y : Int32} (hI : Inv μ) : wp_X4_landing x y μ (fun r μ1 => wp_X5_landing x y μ1 (Fin2 r)) := by
  obtain ⟨n, t, ht, hA, hR⟩ := now_abs hI.1
  obtain ⟨g, hg, h73, hH⟩ := hI.2.1
  have hn := hR.1
  have h4 := hA.2.1
  have hC := hA.2.2.2.2.2.1
  obtain ⟨⟨hh, hh1, hh4, eh⟩, s1, s2, L, hL, eL⟩ := id hA.2.2.2.1
  unfold wp_X4_landing
  refine c_isStep (fun q => br_nt (by decide) ?_) (fun q => br_nf rfl ?_)
  · obtain ⟨s, hs, es⟩ := stp_ex q
    subst es
    -- the reference, up to the landing's test
    have mod : ∀ (ω : Mem) (K : Int32 → Mem → Prop), absA ω = absA μ → ∀ b : Int32, (lndA (absA μ) (nI s) ∧ b = 1 ∨ ¬ lndA (absA μ) (nI s) ∧ b = 0) → ((b = y → K (-5) ω) ∧ (¬ b = y → (wp_X5_peopleAt (nI s) ω (fun r_8 m_7 => ((r_8 ≤ 1 → (wp_X5_changes m_7 (fun m_10 => (∀ m_11, m_11 = up2 m_10 288 5 ((m_10 288 5) ^^^ (1 <<< (nI s &&& 31))) → (wp_X5_landings m_11 (fun r_14 m_13 => K r_14 m_13)))))) ∧ (¬ r_8 ≤ 1 → K (-5) m_7)))))) → wp_X5_landing (nI s) y ω K := by
      intro ω K eω b hb h
      unfold wp_X5_landing
      refine m_isStep (fun _ => br_nt (by decide) ?_) (fun z => absurd q z)
      refine at_A (P := fun ρ => wp_X5_isLanding (nI s) ρ _) ?_
      rw [eω]
      have eb : conA (absA μ) ω = ω := by rw [← eω, conA_abs]
      refine m_isLanding (fun hl => ?_) (fun hl => ?_)
      · rw [eb]
        rcases hb with ⟨_, hb⟩ | ⟨hb, _⟩
        · subst hb; exact h
        · exact absurd hl hb
      · rw [eb]
        rcases hb with ⟨hb, _⟩ | ⟨_, hb⟩
        · exact absurd hb hl
        · subst hb; exact h
    refine at_b (b := 1) (P := fun ν => wp_X3_isLanding 1 (nI s) ν _) ?_
    have rest : ∀ b : Int32, (lndA (absA μ) (nI s) ∧ b = 1 ∨ ¬ lndA (absA μ) (nI s) ∧ b = 0) → ((b = y → wp_X5_landing (nI s) y μ (Fin2 (-5))) ∧ (¬ b = y → (wp_X3_crowdOn 1 (nI s) μ (fun r_8 m_7 => ((r_8 ≤ 1 → (wp_X0_keep 1 m_7 (fun m_10 => (∀ m_11, m_11 = up2 m_10 1 3 ((m_10 1 3) ^^^ (1 <<< (nI s &&& 31))) → (wp_J6_bitCount_0f7a4 (m_11 1 3) m_11 (fun r_14 m_13 => wp_X5_landing (nI s) y m_13 (Fin2 r_14))))))) ∧ (¬ r_8 ≤ 1 → wp_X5_landing (nI s) y m_7 (Fin2 (-5)))))))) := by
      intro b hb
      refine ⟨fun z => mod μ _ rfl b hb (br_t z ⟨rfl, hI⟩), fun z => ?_⟩
      refine at_b (b := 1) (P := fun ν => wp_X3_crowdOn 1 (nI s) ν _) (c_crowdOn hR q ?_)
      rw [putS_get]
      have hcn := cnt_le (A := absA μ) (s := nI s) n
      refine ⟨fun z2 => ?_, fun z2 => ?_⟩
      · have hc1 : cntA (absA μ) (nI s) n ≤ 1 := (nI_leI (b := 1) (by omega) (by omega)).mp z2
        refine c_keep hH hI.1 (fun ν n1 n2 => nm_e ?_)
        have hRν : RelC (getS 1 ν) (absA μ) n := relc_congr (getS_eq (fun a u v => n1 a (by omega))) hR
        have e13 : ν 1 3 = nI L := by
          have := hRν.2.2.2.1
          rw [eL] at this
          exact this
        rw [e13, one_shl s hs, xor_nI]
        have eω : ∀ a, ¬ (1 ≤ a ∧ a < 29) → up2 ν 1 3 (nI (L ^^^ 2 ^ s)) a = ν a := fun a ha => up2_ne _ _ _ _ (by omega)
        have eμ : ∀ a, 227 ≤ a → up2 ν 1 3 (nI (L ^^^ 2 ^ s)) a = μ a := fun a ha => by rw [eω a (by omega), n1 a (by omega)]
        have hL2 : L ^^^ 2 ^ s < 4096 := Nat.xor_lt_two_pow (n := 12) hL (two12 hs)
        refine c_bitCount ?_
        rw [show up2 ν 1 3 (nI (L ^^^ 2 ^ s)) 1 3 = nI (L ^^^ 2 ^ s) by rw [up2_app, if_pos ⟨rfl, rfl⟩], bc_ok _ hL2]
        have eA0 : absA (up2 ν 1 3 (nI (L ^^^ 2 ^ s))) = absA μ := abs_eq (eμ 288 (by omega)) (eμ 293 (by omega))
        refine mod _ _ eA0 b hb (br_f z ?_)
        refine at_A (P := fun ρ => wp_X5_peopleAt (nI s) ρ _) ?_
        rw [eA0]
        refine m_peopleAt hn h4 (br_t z2 ?_)
        rw [← eA0, conA_abs]
        refine m_changes hg (by rw [eμ 287 (by omega), h73]) (fun ρ r1 r2 r3 r4 => nm_e ?_)
        have eA : absA ρ = absA μ := abs_eq (by rw [r1 288 (by omega) (by omega), eμ 288 (by omega)]) (by rw [r1 293 (by omega) (by omega), eμ 293 (by omega)])
        have e85 : ρ 288 5 = nI L := by rw [← abs_0 ρ (by omega), eA, eL]
        rw [e85, one_shl s hs, xor_nI]
        have eφ : up2 ρ 288 5 (nI (L ^^^ 2 ^ s)) = conA (up2 (absA μ) 0 5 (nI (L ^^^ 2 ^ s))) ρ := by
          rw [← conA_up0 _ _ _ _ (by omega), ← eA, conA_abs]
        rw [eφ]
        refine m_landings ⟨?_, ?_⟩
        · rw [lb_eq (by rw [up2_app, if_pos ⟨rfl, rfl⟩])]
        · refine inv_chg2 hg hI n1 n2 eω r1 r2 r3 r4 (fun a h1 h2 => conA_ne _ _ h1 h2) ?_
          have hA' : InvA (up2 (absA μ) 0 5 (nI (L ^^^ 2 ^ s))) n t := by
            refine inv_g (by omega) (by omega) (by omega) ?_ (fun j hj => ?_) hA
            · unfold SetA
              simp only [up2_app]
              simp only [show (0 : Nat) ≠ 5 by omega, show (1 : Nat) ≠ 5 by omega, show (2 : Nat) ≠ 5 by omega, and_false, if_false, and_self, if_true]
              exact ⟨⟨hh, hh1, hh4, eh⟩, s1, s2, _, hL2, rfl⟩
            · rw [cnt_g]
              have h2 := hC j hj
              unfold capN lndA at h2 ⊢
              simp only [up2_app]
              simp only [show (0 : Nat) ≠ 5 by omega, and_false, if_false, and_self, if_true]
              rw [eh, nI_clamp (by omega)] at h2 ⊢
              by_cases ej : j = s
              · subst ej
                split <;> omega
              · have hb1 := lnd_bit (L := L) (s := j) hL hj
                have hb2 := lnd_bit (L := L ^^^ 2 ^ s) (s := j) hL2 hj
                rw [Nat.testBit_xor, Nat.testBit_two_pow_of_ne (Ne.symm ej), Bool.xor_false] at hb2
                rw [eL] at h2
                by_cases hbj : L.testBit j = true
                · rw [if_pos (hb1.mpr hbj)] at h2
                  rw [if_pos (hb2.mpr hbj)]
                  exact h2
                · rw [if_neg (fun z => hbj (hb1.mp z))] at h2
                  rw [if_neg (fun z => hbj (hb2.mp z))]
                  exact h2
          refine rel_fin ht hA' (ω := up2 ν 1 3 (nI (L ^^^ 2 ^ s))) (ρ := ρ) ?_ (fun a h1 h2 => ?_) (conA_288 _ _)
          · refine relc_congr (fun o ho => ?_) (relc_land hRν)
            unfold getS
            funext j
            rw [up2_app, up2_app]
            by_cases e : o = 0 ∧ j = 3
            · rw [if_pos ⟨by omega, e.2⟩, if_pos e]
            · rw [if_neg (by omega), if_neg e]
          · rw [conA_ne _ _ (by omega) (by omega), r1 a (by omega) (by omega)]
      · refine mod μ _ rfl b hb (br_f z ?_)
        refine at_A (P := fun ρ => wp_X5_peopleAt (nI s) ρ _) (m_peopleAt hn h4 (br_f z2 ?_))
        rw [conA_abs]
        exact ⟨rfl, hI⟩
    refine c_isLanding (A := absA μ) hR.2.2.2.1 (fun hl => ?_) (fun hl => ?_)
    · rw [putS_get]
      exact rest 1 (Or.inl ⟨hl, rfl⟩)
    · rw [putS_get]
      exact rest 0 (Or.inr ⟨hl, rfl⟩)
  · unfold wp_X5_landing
    exact m_isStep (fun z => absurd z q) (fun _ => br_nf rfl ⟨rfl, hI⟩)
/-! ===== pass ===== -/
def tkA (A : Mem) (n : Nat) : Nat → Mem
  | 0 => A
  | j + 1 => tickA (tkA A n j) n
theorem tk_inv {A : Mem} {n t : Nat} (h : InvA A n t) : ∀ j, InvA (tkA A n j) n (t + j)
  | 0 => h
  | j + 1 => inv_tick (tk_inv h j)
theorem op_pass {μ : Mem} {x : Int32} (hI : Inv μ) : wp_X4_pass x μ (fun r μ1 => wp_X5_pass x μ1 (Fin2 r)) := by
  obtain ⟨n, t, ht, hA, hR⟩ := now_abs hI.1
  obtain ⟨g, hg, h73, hH⟩ := hI.2.1
  have hn := hR.1
  have h4 := hA.2.1
  have h83 : μ 288 3 = nI t := by rw [← abs_0 μ (by decide), hA.2.2.1]
  have h15 : μ 1 5 = nI t := by
    have := hR.2.2.2.2.1
    rw [hA.2.2.1] at this
    exact this
  have bad : (x < 1 ∨ 99 < x) → wp_X5_pass x μ (Fin2 (-2)) := fun z => by
    unfold wp_X5_pass
    exact m_in (lo := 1) (hi := 99) rfl rfl (fun q => absurd z (fun w => w.elim q.1 q.2)) (fun _ => br_nf rfl ⟨rfl, hI⟩)
  unfold wp_X4_pass
  refine ⟨fun z => bad (Or.inl z), fun z => ⟨fun z2 => ?_, fun z2 => bad (Or.inr (nle_lt z2))⟩⟩
  have hin : ¬ x < 1 ∧ ¬ 99 < x := ⟨z, le_nlt z2⟩
  obtain ⟨m, hm1, hm2, e⟩ := nI_rng (a := 1) (b := 99) (by omega) (by omega) z z2
  subst e
  rw [h15, nI_add]
  by_cases hlim : t + m ≤ 9999
  · refine br_t (nI_le (b := 9999) hlim (by omega)) ?_
    refine c_keep hH hI.1 (fun ν n1 n2 => ?_)
    have hRν : RelC (getS 1 ν) (absA μ) n := relc_congr (getS_eq (fun a u v => n1 a (by omega))) hR
    refine c_who1 hRν ?_
    have fin : ∀ S', RelC S' (tkA (absA μ) n m) n → wp_X5_pass (nI m) (putS 1 S' ν) (Fin2 (nI (whoA (tkA (absA μ) n m) 2 n) - nI (whoA (absA μ) 2 n))) := by
      intro S' hS'
      have eω : ∀ a, ¬ (1 ≤ a ∧ a < 29) → putS 1 S' ν a = ν a := fun a ha => putS_ne _ _ _ (by omega)
      have eμ : ∀ a, 227 ≤ a → putS 1 S' ν a = μ a := fun a ha => by rw [eω a (by omega), n1 a (by omega)]
      unfold wp_X5_pass
      refine m_in (lo := 1) (hi := 99) rfl rfl (fun _ => br_nt (by decide) ?_) (fun w => absurd w (fun v => v.elim hin.1 hin.2))
      rw [eμ 288 (by omega), h83, nI_add]
      refine br_t (nI_le (b := 9999) hlim (by omega)) ?_
      refine m_changes hg (by rw [eμ 287 (by omega), h73]) (fun ρ r1 r2 r3 r4 => ?_)
      have eA : absA ρ = absA μ := abs_eq (by rw [r1 288 (by omega) (by omega), eμ 288 (by omega)]) (by rw [r1 293 (by omega) (by omega), eμ 293 (by omega)])
      refine m_who1 hn (by rw [eA, h4]) ?_
      rw [eA]
      have key : ∀ d j, j + d = m → wp_X5_pass_L44 (nI m) (nI (whoA (absA μ) 2 n)) (Fin2 (nI (whoA (tkA (absA μ) n m) 2 n) - nI (whoA (absA μ) 2 n))) (d + 1) (nI j) (conA (tkA (absA μ) n j) ρ) := by
        intro d
        induction d with
        | zero =>
          intro j hj
          have : j = m := by omega
          subst this
          rw [wp_X5_pass_L44_s]
          simp only
          refine br_t (nI_le (Nat.le_refl _) (by omega)) ?_
          refine m_thatAre hn (tk_inv hA j).2.1 ⟨rfl, ?_⟩
          refine inv_chg2 hg hI n1 n2 eω r1 r2 r3 r4 (fun a h1 h2 => conA_ne _ _ h1 h2) ?_
          refine rel_fin hlim (tk_inv hA j) (ω := putS 1 S' ν) (ρ := ρ) ?_ (fun a h1 h2 => ?_) (conA_288 _ _)
          · exact relc_congr (fun o ho => getS_put _ _ _ ho) hS'
          · rw [conA_ne _ _ (by omega) (by omega), r1 a (by omega) (by omega)]
        | succ d ih =>
          intro j hj
          rw [wp_X5_pass_L44_s]
          simp only
          refine br_f (nI_ge (by omega) (by omega)) ?_
          refine m_ticks hn (tk_inv hA j).2.1 ?_
          rw [nI_1]
          exact ih (j + 1) (by omega)
      refine ⟨m + 1, ?_⟩
      have := key m 0 (by omega)
      rw [show conA (tkA (absA μ) n 0) ρ = ρ by rw [show tkA (absA μ) n 0 = absA ρ from eA.symm, conA_abs]] at this
      exact this
    have key : ∀ d j S', j + d = m → RelC S' (tkA (absA μ) n j) n → wp_X4_pass_L54 (nI m) (nI (whoA (absA μ) 2 n)) (fun r μ1 => wp_X5_pass (nI m) μ1 (Fin2 r)) (d + 1) (nI j) (putS 1 S' ν) := by
      intro d
      induction d with
      | zero =>
        intro j S' hj hS'
        have : j = m := by omega
        subst this
        rw [wp_X4_pass_L54_s]
        simp only
        refine br_t (nI_le (Nat.le_refl _) (by omega)) ?_
        exact c_peopleWho hS' (fin S' hS')
      | succ d ih =>
        intro j S' hj hS'
        rw [wp_X4_pass_L54_s]
        simp only
        refine br_f (nI_ge (by omega) (by omega)) ?_
        refine c_tick hS' (tk_inv hA j).2.2.2.2.1 (fun T hT _ => ?_)
        rw [nI_1]
        exact ih (j + 1) T (by omega) hT
    refine ⟨m + 1, ?_⟩
    have := key m 0 (getS 1 ν) (by omega) hRν
    rw [putS_get] at this
    exact this
  · refine br_f (nI_ge (a := 9999) (by omega) (by omega)) ?_
    unfold wp_X5_pass
    refine m_in (lo := 1) (hi := 99) rfl rfl (fun _ => br_nt (by decide) ?_) (fun w => absurd w (fun v => v.elim hin.1 hin.2))
    rw [h83, nI_add]
    exact br_f (nI_ge (a := 9999) (by omega) (by omega)) ⟨rfl, hI⟩

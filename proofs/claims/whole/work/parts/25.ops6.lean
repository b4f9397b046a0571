/-! WHAT IF ticks pass; the best landing -/
def mvA (A B : Mem) (n : Nat) : Nat → Int32
  | 0 => nI (whoA B 2 n) - nI (whoA A 2 n)
  | 1 => nI (whoA B 3 n) - nI (whoA A 3 n)
  | 2 => B 0 6 - A 0 6
  | _ + 3 => B 0 8 - A 0 8
/-- the reference tries out -/
theorem m_ifPassed {n t m k : Nat} {ω : Mem} {K : Int32 → Mem → Prop} (hA : InvA (absA ω) n t) (hm1 : 1 ≤ m) (hm : m ≤ 200) (hk : k ≤ 3) (h : ∀ ρ, Sm ρ ω → K (mvA (absA ω) (tkA (absA ω) n m) n k) ρ) : wp_X5_ifPassed (nI m) (nI k) ω K := by
  have hn := hA.1
  have h4 := hA.2.1
  have h4m := (tk_inv hA m).2.1
  unfold wp_X5_ifPassed
  refine m_in (lo := 1) (hi := 200) rfl rfl (fun _ => br_f (by decide) ?_) (fun z => ?_)
  · refine m_in (lo := 0) (hi := 3) rfl rfl (fun _ => br_nt (by decide) ?_) (fun z => ?_)
    · refine at_A (P := fun ρ => wp_X5_thatAre 2 ρ _) ?_
      refine m_thatAre hn h4 (m_thatAre hn h4 ?_)
      rw [conA_abs]
      refine m_keeps2 (fun ν hν => ?_)
      have eν := kp_abs hν
      have far : ∀ i, 24 < i → tkA (absA ω) n m i = absA ω i := fun i hi => tkA_far hn hi m
      have eK : ∀ j, j < 9 → ν 289 j = absA ω 0 j := fun j hj => by rw [hν.2 j (by omega), abs_0 ω hj]
      have key : ∀ d i, i + d = m → wp_X5_ifPassed_L47 (nI m) (nI k) (nI (whoA (absA ω) 2 n)) (nI (whoA (absA ω) 3 n)) K (d + 1) (nI i) (conA (tkA (absA ω) n i) ν) := by
        intro d
        induction d with
        | zero =>
          intro i hi
          have : i = m := by omega
          subst this
          rw [wp_X5_ifPassed_L47_s]
          simp only
          refine br_t (nI_le (Nat.le_refl _) (by omega)) ?_
          have hk4 : k = 0 ∨ k = 1 ∨ k = 2 ∨ k = 3 := by omega
          rcases hk4 with rfl | rfl | rfl | rfl
          · exact br_nf rfl (m_thatAre hn h4m (m_back2 hν far h))
          · exact br_nt (by decide) (br_nf rfl (m_thatAre hn h4m (m_back2 hν far h)))
          · refine br_nt (by decide) (br_nt (by decide) (br_nf rfl (m_back2 hν far (fun ρ hρ => ?_))))
            rw [conA_0 _ _ _ (by decide), conA_ne _ _ (by decide) (by decide), eK 6 (by decide)]
            exact h ρ hρ
          · refine br_nt (by decide) (br_nt (by decide) (br_nt (by decide) (m_back2 hν far (fun ρ hρ => ?_))))
            rw [conA_0 _ _ _ (by decide), conA_ne _ _ (by decide) (by decide), eK 8 (by decide)]
            exact h ρ hρ
        | succ d ih =>
          intro i hi
          rw [wp_X5_ifPassed_L47_s]
          simp only
          refine br_f (nI_ge (by omega) (by omega)) (m_ticks hn (tk_inv hA i).2.1 ?_)
          rw [nI_1]
          exact ih (i + 1) (by omega)
      refine ⟨m + 1, ?_⟩
      have := key m 0 (by omega)
      rw [show conA (tkA (absA ω) n 0) ν = ν by rw [show tkA (absA ω) n 0 = absA ν from eν.symm, conA_abs]] at this
      exact this
    · rcases z with z | z
      · exact absurd z (nI_pos (by omega))
      · exact absurd z (nI_nlt (b := k) (a := 3) (by omega) (by omega))
  · rcases z with z | z
    · exact absurd z (nI_nlt (b := 1) (a := m) (by omega) (by omega))
    · exact absurd z (nI_nlt (b := m) (a := 200) (by omega) (by omega))
/-- what the class tried out is what the ticks make of it -/
theorem try_same {A : Mem} {n t j m : Nat} (hA : InvA A n t) (hj : j ≤ m) (hend : j = m ∨ ¬ wayN (tkA A n j) n = true) : ∀ a k, k < 9 → ¬ (a = 0 ∧ k = 3) → tkA A n m a k = tkA A n j a k := by
  intro a k hk h3
  rcases hend with e | e
  · rw [e]
  · have := tkA_idle hA e (m - j) a k hk h3
    rwa [show j + (m - j) = m by omega] at this
theorem op_ifPassed {μ : Mem} {x y : Int32} (hI : Inv μ) : wp_X4_ifPassed x y μ (fun r μ1 => wp_X5_ifPassed x y μ1 (Fin2 r)) := by
  obtain ⟨n, t, ht, hA, hR⟩ := now_abs hI.1
  have hn := hR.1
  have h4 := hA.2.1
  have bad : ((x < 1 ∨ 200 < x) ∨ (y < 0 ∨ 3 < y)) → wp_X5_ifPassed x y μ (Fin2 (-2)) := fun z => by
    unfold wp_X5_ifPassed
    refine m_in (lo := 1) (hi := 200) rfl rfl (fun h => br_f (by decide) ?_) (fun _ => br_t rfl ⟨rfl, hI⟩)
    refine m_in (lo := 0) (hi := 3) rfl rfl (fun h2 => ?_) (fun _ => br_nf rfl ⟨rfl, hI⟩)
    rcases z with (z | z) | (z | z)
    · exact absurd z h.1
    · exact absurd z h.2
    · exact absurd z h2.1
    · exact absurd z h2.2
  unfold wp_X4_ifPassed
  refine ⟨fun z => bad (Or.inl (Or.inl z)), fun z1 => ⟨fun z => bad (Or.inl (Or.inr z)), fun z2 => ⟨fun z => bad (Or.inr (Or.inl z)), fun z3 => ⟨fun z4 => ?_, fun z => bad (Or.inr (Or.inr (nle_lt z)))⟩⟩⟩⟩
  obtain ⟨m, hm1, hm, em⟩ := nI_rng (a := 1) (b := 200) (by omega) (by omega) z1 (by rw [fa_lt] at z2; rw [fa_le]; exact Int.not_lt.mp z2)
  obtain ⟨k, -, hk, ek⟩ := nI_rng (a := 0) (b := 3) (by omega) (by omega) z3 z4
  subst em ek
  refine c_copy (d := 29) (q := 1) (Or.inr (by omega)) hI.1 (fun S' _ hS' => ?_)
  refine c_tryOut (m := m) (by omega) hA (hS' _ _ hR) (fun j T hj hend _ hT => ?_)
  have hTr : Tr (putS 29 T μ) μ := tr_put
  have eA : absA (putS 29 T μ) = absA μ := abs_eq (hTr 288 (by omega)) (hTr 293 (by omega))
  have hR1 : RelC (getS 1 (putS 29 T μ)) (absA μ) n := relc_congr (getS_eq (fun a u v => hTr a (by omega))) hR
  have same := try_same hA hj hend
  have ref : wp_X5_ifPassed (nI m) (nI k) (putS 29 T μ) (Fin2 (mvA (absA μ) (tkA (absA μ) n m) n k)) := by
    refine m_ifPassed (n := n) (t := t) (by rw [eA]; exact hA) hm1 hm hk (fun ρ hρ => ?_)
    rw [eA]
    exact ⟨rfl, inv_sm hTr hρ hI⟩
  have hIk : (nI k).toInt = k := nI_toInt (by omega)
  have ew : ∀ w : Int32, whoA (tkA (absA μ) n m) w n = whoA (tkA (absA μ) n j) w n := fun w => who_congr (fun q _ => same (q + 1) 2 (by omega) (by omega))
  have hOj := (tk_inv hA j).2.2.2.2.1
  have hTj := (tk_inv hA j).2.2.2.2.2.2.1
  have hT0 := hA.2.2.2.2.2.2.1
  have e6 : sumA (tkA (absA μ) n j) 6 n = tkA (absA μ) n m 0 6 := by rw [← hTj.1, same 0 6 (by omega) (by omega)]
  have e8 : sumA (tkA (absA μ) n j) 4 n = tkA (absA μ) n m 0 8 := by rw [← hTj.2.2, same 0 8 (by omega) (by omega)]
  have hk4 : k = 0 ∨ k = 1 ∨ k = 2 ∨ k = 3 := by omega
  rcases hk4 with rfl | rfl | rfl | rfl
  · refine ⟨fun c => by omega, fun _ => ?_, fun c => by omega, fun c => by omega⟩
    refine c_peopleWho hT (c_who1 hR1 ?_)
    rw [← ew]
    exact ref
  · refine ⟨fun c => by omega, fun c => by omega, fun _ => ?_, fun c => by omega⟩
    refine c_peopleWho hT (c_who1 hR1 ?_)
    rw [← ew]
    exact ref
  · refine ⟨fun c => by omega, fun c => by omega, fun c => by omega, fun _ => ?_⟩
    refine c_sumOf (k := 6) (by omega) rfl hT hOj (c_sum1 (k := 6) (by omega) rfl hR1 hA.2.2.2.2.1 ?_)
    rw [e6, ← hT0.1]
    exact ref
  · refine ⟨fun _ => ?_, fun c => by omega, fun c => by omega, fun c => by omega⟩
    refine c_sumOf (k := 4) (by omega) rfl hT hOj (c_sum1 (k := 4) (by omega) rfl hR1 hA.2.2.2.2.1 ?_)
    rw [e8, ← hT0.2.2]
    exact ref
/-! ===== the best landing ===== -/
theorem tick_clear {A B : Mem} {n : Nat} (h : clearA A = clearA B) : tickA A n = tickA B n := by
  unfold tickA
  rw [h]
theorem tk_clear {A B : Mem} {n : Nat} (h : clearA A = clearA B) : ∀ j, tkA A n (j + 1) = tkA B n (j + 1)
  | 0 => tick_clear h
  | j + 1 => by
    rw [tkA, tk_clear h j]
    rfl
def ldA (A : Mem) (s : Nat) : Mem := up2 A 0 5 (A 0 5 ||| (1 <<< (nI s &&& 31)))
def bwS (A : Mem) (n s : Nat) : Int32 := tkA (ldA A s) n 50 0 6
def blN (A : Mem) (n s : Nat) (q : Int32 × Int32) : Int32 × Int32 := if lndA A (nI s) then q else if q.1 = -6 ∨ ¬ q.2 ≤ bwS A n s then (nI s, bwS A n s) else q
def blA (A : Mem) (n : Nat) : Nat → Int32 × Int32
  | 0 => (-6, 0)
  | s + 1 => blN A n s (blA A n s)
theorem ld_inv {A : Mem} {n t s : Nat} (hs : s < 12) (hA : InvA A n t) (hno : ¬ lndA A (nI s)) : InvA (ldA A s) n t := by
  have hC := hA.2.2.2.2.2.1
  obtain ⟨⟨hh, hh1, hh4, eh⟩, s1, s2, L, hL, eL⟩ := id hA.2.2.2.1
  have hL2 : L ||| 2 ^ s < 4096 := Nat.or_lt_two_pow (n := 12) hL (two12 hs)
  unfold ldA
  rw [eL, one_shl s hs, or_nI]
  refine inv_g (by omega) (by omega) (by omega) ?_ (fun j hj => ?_) hA
  · unfold SetA
    simp only [up2_app]
    simp only [show (0 : Nat) ≠ 5 by omega, show (1 : Nat) ≠ 5 by omega, show (2 : Nat) ≠ 5 by omega, and_false, if_false, and_self, if_true]
    exact ⟨⟨hh, hh1, hh4, eh⟩, s1, s2, _, hL2, rfl⟩
  · rw [cnt_g]
    have h2 := hC j hj
    unfold capN at h2 ⊢
    unfold lndA at h2 hno ⊢
    simp only [up2_app]
    simp only [show (0 : Nat) ≠ 5 by omega, and_false, if_false, and_self, if_true]
    rw [eh, nI_clamp (by omega)] at h2 ⊢
    by_cases ej : j = s
    · subst ej
      rw [if_neg hno] at h2
      split <;> omega
    · have hb1 := lnd_bit (L := L) (s := j) hL hj
      have hb2 := lnd_bit (L := L ||| 2 ^ s) (s := j) hL2 hj
      rw [Nat.testBit_or, Nat.testBit_two_pow_of_ne (Ne.symm ej), Bool.or_false] at hb2
      rw [eL] at h2
      by_cases hbj : L.testBit j = true
      · rw [if_pos (hb1.mpr hbj)] at h2
        rw [if_pos (hb2.mpr hbj)]
        exact h2
      · rw [if_neg (fun z => hbj (hb1.mp z))] at h2
        rw [if_neg (fun z => hbj (hb2.mp z))]
        exact h2
theorem bw_nat {A : Mem} {n t s : Nat} (ht : t ≤ 9999) (hs : s < 12) (hA : InvA A n t) (hno : ¬ lndA A (nI s)) : ∃ w, w < 2 ^ 30 ∧ bwS A n s = nI w := by
  obtain ⟨w, hw, e⟩ := (tk_inv (ld_inv hs hA hno) 50).2.2.2.2.2.2.2
  exact ⟨w, by omega, e⟩
theorem bl_nat {A : Mem} {n t : Nat} (ht : t ≤ 9999) (hA : InvA A n t) : ∀ s, s ≤ 12 → (blA A n s).1 = -6 ∨ ∃ w, w < 2 ^ 30 ∧ (blA A n s).2 = nI w
  | 0, _ => Or.inl rfl
  | s + 1, hs => by
    have ih := bl_nat ht hA s (by omega)
    unfold blA blN
    split
    · exact ih
    · rename_i hno
      split
      · exact Or.inr (bw_nat ht (by omega) hA hno)
      · exact ih
theorem le_off {a b c : Nat} (ha : a < 2 ^ 30) (hb : b < 2 ^ 30) (hc : c < 2 ^ 30) : nI a - nI c ≤ nI b - nI c ↔ nI a ≤ nI b := by
  rw [fa_le, fa_le, pk_sub_toInt ha hc, pk_sub_toInt hb hc, nI_toInt (by omega), nI_toInt (by omega)]
  omega
theorem sm_clear {ρ ν : Mem} (h : Sm ρ ν) : clearA (absA ρ) = clearA (absA ν) := by
  funext i k
  unfold clearA
  by_cases c : k = 9 ∧ 1 ≤ i ∧ i ≤ 24
  · rw [if_pos c, if_pos c]
  · rw [if_neg c, if_neg c]
    unfold absA
    by_cases h9 : k = 9
    · rw [if_pos h9, if_pos h9]
      by_cases h0 : i = 0
      · rw [if_pos h0, if_pos h0]
      · rw [if_neg h0, if_neg h0]
        exact h.2 _ (by omega)
    · rw [if_neg h9, if_neg h9, h.1 288 (by omega) (by omega)]
theorem abs_up5 (ρ : Mem) (v : Int32) : absA (up2 ρ 288 5 v) = up2 (absA ρ) 0 5 v := by
  funext i k
  rw [up2_app]
  unfold absA
  by_cases h9 : k = 9
  · rw [if_pos h9, if_pos h9, if_neg (c := i = 0 ∧ k = 5) (by omega), up2_ne _ _ _ _ (by decide)]
  · rw [if_neg h9, if_neg h9, up2_app]
    by_cases c : i = 0 ∧ k = 5
    · rw [if_pos c, if_pos ⟨rfl, by omega⟩]
    · rw [if_neg c, if_neg (by omega)]
theorem clear_up5 {A B : Mem} {v : Int32} (h : clearA A = clearA B) : clearA (up2 A 0 5 v) = clearA (up2 B 0 5 v) := by
  funext i k
  have hik := congrFun (congrFun h i) k
  unfold clearA at hik ⊢
  by_cases c : k = 9 ∧ 1 ≤ i ∧ i ≤ 24
  · rw [if_pos c, if_pos c]
  · rw [if_neg c, if_neg c] at hik ⊢
    rw [up2_app, up2_app, hik]
theorem m_best {ν : Mem} {n t : Nat} {K : Int32 → Mem → Prop} (ht : t ≤ 9999) (hA : InvA (absA ν) n t) (h : ∀ ρ, Sm ρ ν → K (blA (absA ν) n 12).1 ρ) : wp_X5_bestLanding ν K := by
  have hn := hA.1
  have e5 : ν 288 5 = absA ν 0 5 := (abs_0 ν (by decide)).symm
  obtain ⟨c0, hc0, ec0⟩ := hA.2.2.2.2.2.2.2
  have key : ∀ d s v2 ρ, s + d = 12 → Sm ρ ν → ((blA (absA ν) n s).1 = -6 ∨ v2 = (blA (absA ν) n s).2 - absA ν 0 6) → wp_X5_bestLanding_L15 (ν 288 5) K (d + 1) (blA (absA ν) n s).1 v2 (nI s) ρ := by
    intro d
    induction d with
    | zero =>
      intro s v2 ρ hs hρ hv
      have : s = 12 := by omega
      subst this
      rw [wp_X5_bestLanding_L15_s]
      simp only
      exact br_t (by decide) (h ρ hρ)
    | succ d ih =>
      intro s v2 ρ hs hρ hv
      rw [wp_X5_bestLanding_L15_s]
      simp only
      refine br_f (nI_ge (b := 12) (by omega) (by omega)) ?_
      have eρ5 : absA ρ 0 5 = absA ν 0 5 := by rw [abs_0 ρ (by decide), hρ.1 288 (by omega) (by omega), e5]
      have eb : blA (absA ν) n (s + 1) = blN (absA ν) n s (blA (absA ν) n s) := rfl
      refine at_A (P := fun ω => wp_X5_isLanding (nI s) ω _) ?_
      refine m_isLanding (fun hl => br_nt (by decide) ?_) (fun hl => br_nf rfl ?_)
      · rw [conA_abs, nI_1]
        unfold lndA at hl
        rw [eρ5] at hl
        unfold blN at eb
        rw [if_pos hl] at eb
        have := ih (s + 1) v2 ρ (by omega) hρ (by rw [eb]; exact hv)
        rw [eb] at this
        exact this
      · rw [conA_abs]
        unfold lndA at hl
        rw [eρ5] at hl
        refine nm_e ?_
        rw [e5]
        have eω : absA (up2 ρ 288 5 (absA ν 0 5 ||| 1 <<< (nI s &&& 31))) = up2 (absA ρ) 0 5 (absA ν 0 5 ||| 1 <<< (nI s &&& 31)) := abs_up5 _ _
        have hcl : clearA (absA (up2 ρ 288 5 (absA ν 0 5 ||| 1 <<< (nI s &&& 31)))) = clearA (ldA (absA ν) s) := by
          rw [eω]
          exact clear_up5 (sm_clear hρ)
        have hinv : InvA (absA (up2 ρ 288 5 (absA ν 0 5 ||| 1 <<< (nI s &&& 31)))) n t := by
          refine inv_cg (fun i k hi hk => ?_) (ld_inv (by omega) hA hl)
          have := congrFun (congrFun hcl i) k
          unfold clearA at this
          rwa [if_neg (by omega), if_neg (by omega)] at this
        have e06 : absA (up2 ρ 288 5 (absA ν 0 5 ||| 1 <<< (nI s &&& 31))) 0 6 = absA ν 0 6 := by
          rw [eω, up2_app, if_neg (by omega), abs_0 ρ (by decide), hρ.1 288 (by omega) (by omega), abs_0 ν (by decide)]
        refine m_ifPassed (m := 50) (k := 2) hinv (by omega) (by omega) (by omega) (fun ρ' hρ' => nm_e ?_)
        have er : mvA (absA (up2 ρ 288 5 (absA ν 0 5 ||| 1 <<< (nI s &&& 31)))) (tkA (absA (up2 ρ 288 5 (absA ν 0 5 ||| 1 <<< (nI s &&& 31)))) n 50) n 2 = bwS (absA ν) n s - absA ν 0 6 := by
          unfold mvA bwS
          rw [e06, tk_clear hcl 49]
        rw [er]
        have hsm : Sm (up2 ρ' 288 5 (absA ν 0 5)) ν := by
          refine ⟨fun a h1 h2 => ?_, fun p hp => ?_⟩
          · by_cases ea : a = 288
            · subst ea
              funext k
              rw [up2_app]
              by_cases ek : k = 5
              · rw [if_pos ⟨rfl, ek⟩, ek, e5]
              · rw [if_neg (fun z => ek z.2), hρ'.1 288 (by omega) (by omega), up2_app, if_neg (fun z => ek z.2), hρ.1 288 (by omega) (by omega)]
            · rw [up2_ne _ _ _ _ ea, hρ'.1 a h1 h2, up2_ne _ _ _ _ ea, hρ.1 a h1 h2]
          · rw [up2_ne _ _ _ _ (by omega), hρ'.2 p hp, up2_ne _ _ _ _ (by omega), hρ.2 p hp]
        have take : blA (absA ν) n (s + 1) = (nI s, bwS (absA ν) n s) → wp_X5_bestLanding_B76 (blA (absA ν) n s).1 v2 (absA ν 0 5) (nI s) (bwS (absA ν) n s - absA ν 0 6) 1 K (wp_X5_bestLanding_L15 (absA ν 0 5) K (d + 1)) (up2 ρ' 288 5 (absA ν 0 5)) := fun e => by
          unfold wp_X5_bestLanding_B76
          refine br_f (by decide) (br_f (by decide) ?_)
          have := ih (s + 1) (bwS (absA ν) n s - absA ν 0 6) _ (by omega) hsm (by rw [e]; exact Or.inr rfl)
          rw [e, e5] at this
          rw [nI_1]
          exact this
        have leave : blA (absA ν) n (s + 1) = blA (absA ν) n s → wp_X5_bestLanding_B76 (blA (absA ν) n s).1 v2 (absA ν 0 5) (nI s) (bwS (absA ν) n s - absA ν 0 6) 0 K (wp_X5_bestLanding_L15 (absA ν 0 5) K (d + 1)) (up2 ρ' 288 5 (absA ν 0 5)) := fun e => by
          unfold wp_X5_bestLanding_B76
          refine br_t rfl (br_t rfl ?_)
          have := ih (s + 1) v2 _ (by omega) hsm (by rw [e]; exact hv)
          rw [e, e5] at this
          rw [nI_1]
          exact this
        unfold blN at eb
        rw [if_neg hl] at eb
        refine ⟨fun z => take (by rw [eb, if_pos (Or.inl z)]), fun z => ?_⟩
        have hv2 := hv.resolve_left z
        obtain ⟨a, ha, ea⟩ := (bl_nat ht hA s (by omega)).resolve_left z
        obtain ⟨b, hb, eb2⟩ := bw_nat ht (by omega) hA hl
        have hle : v2 ≤ bwS (absA ν) n s - absA ν 0 6 ↔ (blA (absA ν) n s).2 ≤ bwS (absA ν) n s := by
          rw [hv2, ea, eb2, ec0]
          exact le_off ha hb (by omega)
        refine ⟨fun z2 => leave (by rw [eb, if_neg (fun u => u.elim z (fun v => v (hle.mp z2)))]), fun z2 => take (by rw [eb, if_pos (Or.inr (fun v => z2 (hle.mpr v)))])⟩
  exact ⟨13, key 12 0 0 ν (by omega) ⟨fun _ _ _ => rfl, fun _ _ => rfl⟩ (Or.inl rfl)⟩
theorem op_bestLanding {μ : Mem} (hI : Inv μ) : wp_X4_bestLanding μ (fun r μ1 => wp_X5_bestLanding μ1 (Fin2 r)) := by
  obtain ⟨n, t, ht, hA, hR⟩ := now_abs hI.1
  have hn := hR.1
  have key : ∀ d s ν, s + d = 12 → Tr ν μ → wp_X4_bestLanding_L7 (fun r μ1 => wp_X5_bestLanding μ1 (Fin2 r)) (d + 1) (blA (absA μ) n s).1 (blA (absA μ) n s).2 (nI s) ν := by
    intro d
    induction d with
    | zero =>
      intro s ν hs hT
      have : s = 12 := by omega
      subst this
      rw [wp_X4_bestLanding_L7_s]
      simp only
      refine br_t (by decide) ?_
      have eA : absA ν = absA μ := abs_eq (hT 288 (by omega)) (hT 293 (by omega))
      refine m_best (n := n) (t := t) ht (by rw [eA]; exact hA) (fun ρ hρ => ?_)
      rw [eA]
      exact ⟨rfl, inv_sm hT hρ hI⟩
    | succ d ih =>
      intro s ν hs hT
      rw [wp_X4_bestLanding_L7_s]
      simp only
      refine br_f (nI_ge (b := 12) (by omega) (by omega)) ?_
      have hR1 : RelC (getS 1 ν) (absA μ) n := relc_congr (getS_eq (fun a u v => hT a (by omega))) hR
      have hN1 : RelSt (getS 1 ν) (μ 288) := relst_S (getS_eq (fun a u v => hT a (by omega))) hI.1
      have eb : blA (absA μ) n (s + 1) = blN (absA μ) n s (blA (absA μ) n s) := rfl
      refine at_b (b := 1) (P := fun ω => wp_X3_isLanding 1 (nI s) ω _) ?_
      refine c_isLanding (A := absA μ) hR1.2.2.2.1 (fun hl => br_f (by decide) ?_) (fun hl => br_t rfl ?_)
      · rw [putS_get, nI_1]
        unfold blN at eb
        rw [if_pos hl] at eb
        have := ih (s + 1) ν (by omega) hT
        rw [eb] at this
        exact this
      · rw [putS_get]
        refine c_copy (d := 29) (q := 1) (Or.inr (by omega)) hN1 (fun S' _ hS' => nm_e ?_)
        have hS2 := hS' _ _ hR1
        rw [putS_up0, putS_b, hS2.2.2.2.1]
        refine c_tryOut (A := ldA (absA μ) s) (n := n) (m := 50) (by omega) (ld_inv (by omega) hA hl) (relc_land hS2) (fun j T hj hend _ hT2 => ?_)
        have hldI := ld_inv (s := s) (by omega) hA hl
        have same := try_same hldI hj hend
        have hTj := (tk_inv hldI j).2.2.2.2.2.2.1
        have e6 : sumA (tkA (ldA (absA μ) s) n j) 6 n = bwS (absA μ) n s := by
          unfold bwS
          rw [← hTj.1, same 0 6 (by omega) (by omega)]
        refine c_sumOf (k := 6) (by omega) rfl hT2 (tk_inv hldI j).2.2.2.2.1 ?_
        rw [e6, nI_1]
        have hT3 : Tr (putS 29 T ν) μ := fun a ha => by rw [putS_ne _ _ _ (by omega), hT a ha]
        have go := ih (s + 1) _ (by omega) hT3
        unfold blN at eb
        rw [if_neg hl] at eb
        have take : blA (absA μ) n (s + 1) = (nI s, bwS (absA μ) n s) → wp_X4_bestLanding_L7 (fun r μ1 => wp_X5_bestLanding μ1 (Fin2 r)) (d + 1) (nI s) (bwS (absA μ) n s) (nI (s + 1)) (putS 29 T ν) := fun e => by
          rw [e] at go
          exact go
        refine ⟨fun z => take (by rw [eb, if_pos (Or.inl z)]), fun z => ⟨fun z2 => ?_, fun z2 => take (by rw [eb, if_pos (Or.inr z2)])⟩⟩
        rw [eb, if_neg (fun u => u.elim z (fun v => v z2))] at go
        exact go
  exact ⟨13, key 12 0 μ (by omega) (fun _ _ => rfl)⟩

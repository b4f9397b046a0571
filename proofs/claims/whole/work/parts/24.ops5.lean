/-! WHAT IF: does, untilArrived, untilEmpty, ifPassed -/
theorem goesA_row {A : Mem} {p i : Nat} {s d : Int32} (h : i ≠ p + 1) : goesA A p s d i = A i := by
  unfold goesA
  rw [up2_ne _ _ _ _ h, up2_ne _ _ _ _ h, up2_ne _ _ _ _ h, up2_ne _ _ _ _ h]
theorem endsA_row {A : Mem} {p i : Nat} {w : Int32} (h : i ≠ p + 1) : endsA A p w i = A i := by
  unfold endsA
  rw [up2_ne _ _ _ _ h, up2_ne _ _ _ _ h, up2_ne _ _ _ _ h, up2_ne _ _ _ _ h, up2_ne _ _ _ _ h]
theorem bowA_row {A : Mem} {o p i : Nat} (h : i ≠ o + 1) (h0 : i ≠ 0) : bowA A o p i = A i := by
  unfold bowA
  rw [up2_ne _ _ _ _ h0, up2_ne _ _ _ _ h0, up2_ne _ _ _ _ h, up2_ne _ _ _ _ h]
theorem staysA_row {A : Mem} {p i : Nat} (h : i ≠ p + 1) (h0 : i ≠ 0) : staysA A p i = A i := by
  unfold staysA
  rw [up2_ne _ _ _ _ h, up2_ne _ _ _ _ h0, up2_ne _ _ _ _ h, up2_ne _ _ _ _ h]
theorem waysA_row {A B : Mem} {o p n i : Nat} (h : i ≠ o + 1) (h0 : i ≠ 0) (hw : waysA A o p n = some B) : B i = A i := by
  unfold waysA at hw
  split at hw
  · split at hw
    · cases hw; rw [goesA_row h, bowA_row h h0]
    · cases hw
  · cases hw; rw [endsA_row h, bowA_row h h0]
/-- a deed touches whoever acts, and one who stands on a step -/
theorem actsA_row {A : Mem} {p n i : Nat} (hi : i ≠ p + 1) (h0 : i ≠ 0) (ho : ∀ o, o < n → A (o + 1) 2 = 1 → i ≠ o + 1) : actsA A p n i = A i := by
  unfold actsA
  split
  · split
    · exact goesA_row hi
    · cases hy : yrA A (nextA A p) p n with
      | none => exact staysA_row hi h0
      | some o =>
        simp only [ylA]
        obtain ⟨h1, h2, -⟩ := yrA_lt hy
        cases hw : waysA A o p n with
        | none => exact staysA_row hi h0
        | some B =>
          simp only [wyA]
          rw [goesA_row hi, waysA_row (ho o h1 h2.1) h0 hw]
  · exact endsA_row hi
theorem stepA_far {A : Mem} {r : Int32} {p n i : Nat} (hp : p < n) (h : n < i) : stepA A r p n i = A i := by
  unfold stepA
  split
  · exact actsA_row (by omega) (by omega) (fun o ho _ => by omega)
  · rfl
theorem rowsA_far {A : Mem} {r : Int32} {n i : Nat} (h : n < i) : ∀ p, p ≤ n → rowsA A r n p i = A i
  | 0, _ => rfl
  | p + 1, hp => by rw [rowsA, stepA_far (by omega) h, rowsA_far h p (by omega)]
theorem ranksA_far {A : Mem} {n i : Nat} (h : n < i) : ∀ k, ranksA A n k i = A i
  | 0 => rfl
  | k + 1 => by rw [ranksA, rowsA_far h n (Nat.le_refl n), ranksA_far h k]
theorem tickA_far {A : Mem} {n i : Nat} (hn : n ≤ 24) (h : 24 < i) : tickA A n i = A i := by
  unfold tickA
  rw [up2_ne _ _ _ _ (by omega), ranksA_far (by omega)]
  funext k
  unfold clearA
  rw [if_neg (by omega)]
theorem tkA_far {A : Mem} {n i : Nat} (hn : n ≤ 24) (h : 24 < i) : ∀ j, tkA A n j i = A i
  | 0 => rfl
  | j + 1 => by rw [tkA, tickA_far hn h, tkA_far hn h j]
/-- who was sent off stays so -/
theorem stepA_off {A : Mem} {r : Int32} {p n q : Nat} (h : A (q + 1) 2 = 3) : stepA A r p n (q + 1) 2 = 3 := by
  unfold stepA
  split
  · rename_i hc
    by_cases e : q = p
    · subst e
      rw [h] at hc
      exact absurd hc.2.1 (by decide)
    · rw [actsA_row (by omega) (by omega) (fun o ho h1 e2 => ?_)]
      · exact h
      · have : o = q := by omega
        subst this
        rw [h] at h1
        exact absurd h1 (by decide)
  · exact h
theorem rowsA_off {A : Mem} {r : Int32} {n q : Nat} (h : A (q + 1) 2 = 3) : ∀ p, rowsA A r n p (q + 1) 2 = 3
  | 0 => h
  | p + 1 => by rw [rowsA]; exact stepA_off (rowsA_off h p)
theorem ranksA_off {A : Mem} {n q : Nat} (h : A (q + 1) 2 = 3) : ∀ k, ranksA A n k (q + 1) 2 = 3
  | 0 => h
  | k + 1 => by rw [ranksA]; exact rowsA_off (ranksA_off h k) n
theorem tickA_off {A : Mem} {n q : Nat} (h : A (q + 1) 2 = 3) : tickA A n (q + 1) 2 = 3 := by
  unfold tickA
  rw [up2_ne _ _ _ _ (by omega)]
  exact ranksA_off (by rw [clear_k (by omega)]; exact h) 9
theorem tkA_off {A : Mem} {n q i : Nat} (h : tkA A n i (q + 1) 2 = 3) : ∀ j, tkA A n (i + j) (q + 1) 2 = 3
  | 0 => h
  | j + 1 => tickA_off (tkA_off h j)
/-- nobody on the way: a tick is nothing but a tick -/
theorem rowsA_idle {A : Mem} {r : Int32} {n : Nat} (h : ∀ q, q < n → ¬ A (q + 1) 2 < 2) : ∀ p, p ≤ n → rowsA A r n p = A
  | 0, _ => rfl
  | p + 1, hp => by
    rw [rowsA, rowsA_idle h p (by omega)]
    unfold stepA
    rw [if_neg (fun z => h p (by omega) z.2.1)]
theorem ranksA_idle {A : Mem} {n : Nat} (h : ∀ q, q < n → ¬ A (q + 1) 2 < 2) : ∀ k, ranksA A n k = A
  | 0 => rfl
  | k + 1 => by rw [ranksA, ranksA_idle h k, rowsA_idle h n (Nat.le_refl n)]
theorem idle_of {A : Mem} {n : Nat} (hO : OkA A n) (h : ¬ wayN A n = true) : ∀ q, q < n → ¬ A (q + 1) 2 < 2 := by
  intro q hq hlt
  rcases (hO q hq).2.2.1 with e | e | e | e
  · exact h (wayN_ex.mpr ⟨q, hq, Or.inl e⟩)
  · exact h (wayN_ex.mpr ⟨q, hq, Or.inr e⟩)
  · rw [e] at hlt; exact absurd hlt (by decide)
  · rw [e] at hlt; exact absurd hlt (by decide)
theorem tickA_idle {A : Mem} {n : Nat} (hO : OkA A n) (h : ¬ wayN A n = true) {i k : Nat} (hk : k < 9) (h3 : ¬ (i = 0 ∧ k = 3)) : tickA A n i k = A i k := by
  unfold tickA
  rw [up2_app, if_neg h3, ranksA_idle (fun q hq => by rw [clear_k (by omega)]; exact idle_of hO h q hq), clear_k hk]
theorem way_congr {A B : Mem} {n : Nat} (h : ∀ q, q < n → B (q + 1) 2 = A (q + 1) 2) : wayN B n = true ↔ wayN A n = true := by
  rw [wayN_ex, wayN_ex]
  constructor
  · rintro ⟨p, hp, e⟩; exact ⟨p, hp, by rw [← h p hp]; exact e⟩
  · rintro ⟨p, hp, e⟩; exact ⟨p, hp, by rw [h p hp]; exact e⟩
theorem tkA_idle {A : Mem} {n t i : Nat} (hI : InvA A n t) (h : ¬ wayN (tkA A n i) n = true) : ∀ j, (∀ a k, k < 9 → ¬ (a = 0 ∧ k = 3) → tkA A n (i + j) a k = tkA A n i a k)
  | 0 => fun _ _ _ _ => rfl
  | j + 1 => fun a k hk h3 => by
    have ih := tkA_idle hI h j
    have hno : ¬ wayN (tkA A n (i + j)) n = true := fun z => h ((way_congr (fun q _ => ih (q + 1) 2 (by omega) (by omega))).mp z)
    rw [show i + (j + 1) = (i + j) + 1 by omega, tkA, tickA_idle (tk_inv hI (i + j)).2.2.2.2.1 hno hk h3]
    exact ih a k hk h3
theorem who_congr {A B : Mem} {w : Int32} : ∀ {n : Nat}, (∀ q, q < n → B (q + 1) 2 = A (q + 1) 2) → whoA B w n = whoA A w n
  | 0, _ => rfl
  | n + 1, h => by
    unfold whoA
    rw [who_congr (n := n) (fun q hq => h q (by omega)), h n (by omega)]
/-! the class tries out -/
theorem c_tryOut {m n t : Nat} {S A μ : Mem} {K : Int32 → Mem → Prop} (hm : m ≤ 200) (hI : InvA A n t) (hR : RelC S A n) (h : ∀ j S', j ≤ m → (j = m ∨ ¬ wayN (tkA A n j) n = true) → (∀ i, i < j → wayN (tkA A n i) n = true) → RelC S' (tkA A n j) n → K (nI j) (putS 29 S' μ)) : wp_X4_tryOut (nI m) (putS 29 S μ) K := by
  have key : ∀ d j S', j + d = m → (∀ i, i < j → wayN (tkA A n i) n = true) → RelC S' (tkA A n j) n → wp_X4_tryOut_L2 (nI m) K (d + 1) (nI j) (putS 29 S' μ) := by
    intro d
    induction d with
    | zero =>
      intro j S' hj hb hS'
      have : j = m := by omega
      subst this
      rw [wp_X4_tryOut_L2_s]
      simp only
      exact br_t (nI_le (Nat.le_refl _) (by omega)) (h j S' (Nat.le_refl _) (Or.inl rfl) hb hS')
    | succ d ih =>
      intro j S' hj hb hS'
      rw [wp_X4_tryOut_L2_s]
      simp only
      refine br_f (nI_ge (by omega) (by omega)) ?_
      refine c_anybody hS' (fun q => br_f (by decide) ?_) (fun q => br_t rfl (h j S' (by omega) (Or.inr q) hb hS'))
      refine c_tick hS' (tk_inv hI j).2.2.2.2.1 (fun T hT _ => ?_)
      rw [nI_1]
      refine ih (j + 1) T (by omega) (fun i hi => ?_) hT
      by_cases e : i = j
      · subst e; exact q
      · exact hb i (by omega)
  exact ⟨m + 1, key m 0 S (by omega) (fun i hi => by omega) hR⟩
/-- the memory is as it was, but for 'kept' and what people did -/
def Sm (ρ ω : Mem) : Prop := (∀ a, a ≠ 289 → a ≠ 293 → ρ a = ω a) ∧ ∀ p, 24 ≤ p → ρ 293 p = ω 293 p
/-- the class's trial alone was touched -/
def Tr (ω μ : Mem) : Prop := ∀ a, ¬ (29 ≤ a ∧ a < 57) → ω a = μ a
theorem tr_put {S μ : Mem} : Tr (putS 29 S μ) μ := fun a ha => putS_ne _ _ _ (by omega)
theorem inv_sm {μ ω ρ : Mem} (hT : Tr ω μ) (hS : Sm ρ ω) (hI : Inv μ) : Inv ρ :=
  inv_fr (fun a x y => by rw [hS.1 a (by omega) (by omega), hT a (by omega)]) (fun a x y => by rw [hS.1 a (by omega) (by omega), hT a (by omega)]) (fun j _ => by rw [hS.1 288 (by omega) (by omega), hT 288 (by omega)]) (by rw [hS.1 287 (by omega) (by omega), hT 287 (by omega)]) (fun a x y => by rw [hS.1 a (by omega) (by omega), hT a (by omega)]) hI
/-- what 'keeps' left -/
def Kp (ν ω : Mem) : Prop := (∀ a, a ≠ 289 → ν a = ω a) ∧ ∀ i, i < 225 → ν 289 i = ω 288 i
theorem kp_abs {ν ω : Mem} (h : Kp ν ω) : absA ν = absA ω := abs_eq (h.1 288 (by omega)) (h.1 293 (by omega))
theorem m_back2 {A ν ω : Mem} {K : Mem → Prop} (hK : Kp ν ω) (hfar : ∀ i, 24 < i → A i = absA ω i) (h : ∀ ρ, Sm ρ ω → K ρ) : wp_X5_comesBack (conA A ν) K := by
  refine m_backL (fun ρ r1 r2 r3 => h ρ ⟨fun a ha hb => ?_, fun p hp => ?_⟩)
  · by_cases e : a = 288
    · subst e
      funext i
      by_cases hi : i < 225
      · rw [r2 i hi, conA_ne _ _ (by decide) (by decide), hK.2 i hi]
      · rw [r3 i (by omega), conA_288]
        unfold rowA
        rw [hfar (i / 9) (by omega)]
        unfold absA
        rw [if_neg (by omega), show 9 * (i / 9) + i % 9 = i by omega]
    · rw [r1 a e, conA_ne _ _ e hb, hK.1 a ha]
  · rw [r1 293 (by decide), conA_293]
    unfold didA
    rw [hfar (p + 1) (by omega)]
    unfold absA
    rw [if_pos rfl, if_neg (by omega), show p + 1 - 1 = p by omega]
theorem m_keeps2 {ω : Mem} {K : Mem → Prop} (h : ∀ ν, Kp ν ω → K ν) : wp_X5_keeps ω K := m_keeps (fun ν h1 h2 => h ν ⟨h1, h2⟩)
theorem op_does {μ : Mem} {x : Int32} (hI : Inv μ) : wp_X4_does x μ (fun r μ1 => wp_X5_does x μ1 (Fin2 r)) := by
  obtain ⟨n, t, ht, hA, hR⟩ := now_abs hI.1
  have hn := hR.1
  have h4 := hA.2.1
  have h84 : μ 288 4 = nI n := by rw [← abs_0 μ (by decide), h4]
  have h14 : μ 1 4 = nI n := hR.2.2.1
  unfold wp_X4_does
  refine c_isPerson hn h14 (fun p hp e => br_nt (by decide) ?_) (fun z => br_nf rfl ?_)
  · subst e
    refine c_copy (d := 29) (q := 1) (Or.inr (by omega)) hI.1 (fun S' _ hS' => ?_)
    refine c_tick (hS' _ _ hR) hA.2.2.2.2.1 (fun T hT hD => ⟨vp_in_nI (by omega) (by omega), ?_⟩)
    rw [nI_clamp (by omega)]
    have e1 : putS 29 T μ (31 + 2 + p) 9 = tickA (absA μ) n (p + 1) 9 := by
      rw [← hD p hp, show 31 + 2 + p = 29 + 2 + 2 + p by omega, putS_P _ _ _ (by omega)]
    rw [e1]
    have hTr : Tr (putS 29 T μ) μ := tr_put
    unfold wp_X5_does
    refine m_isPerson hn (by rw [hTr 288 (by omega), h84]) (fun q hq e2 => br_nt (by decide) ?_) (fun z => ?_)
    · refine m_keeps2 (fun ν hν => ?_)
      have eA : absA ν = absA μ := by rw [kp_abs hν]; exact abs_eq (hTr 288 (by omega)) (hTr 293 (by omega))
      refine at_A (P := fun ρ => wp_X5_ticks ρ _) ?_
      rw [eA]
      refine m_ticks hn h4 ⟨vp_in_nI (by omega) (by omega), ?_⟩
      rw [nI_clamp (by omega), conA_293]
      refine m_back2 hν (fun i hi => ?_) (fun ρ hρ => ⟨rfl, inv_sm hTr hρ hI⟩)
      rw [tickA_far hn hi, ← kp_abs hν, eA]
    · rcases z with z | z
      · exact absurd z (nI_pos (by omega))
      · exact absurd z (nI_ge hp (by omega))
  · unfold wp_X5_does
    refine m_isPerson hn h84 (fun q hq e2 => ?_) (fun _ => br_nf rfl ⟨rfl, hI⟩)
    subst e2
    rcases z with z | z
    · exact absurd z (nI_pos (by omega))
    · exact absurd z (nI_ge hq (by omega))
/-- the reference's search for the tick at which something is so -/
theorem m_until {n t : Nat} {v : Int32} {P : Nat → Prop} {ω : Mem} {K : Int32 → Mem → Prop} (hn : n ≤ 24) (hA : InvA (absA ω) n t)
    (hv : ∀ (j : Nat) (ν : Mem) (Kt Kf : Mem → Prop), (P j → Kt (conA (tkA (absA ω) n j) ν)) → (¬ P j → Kf (conA (tkA (absA ω) n j) ν)) → ((¬ v = (-6) → (wp_X5_get v 2 (conA (tkA (absA ω) n j) ν) (fun r_7 m_6 => ((r_7 = 2 → Kt m_6) ∧ (¬ r_7 = 2 → Kf m_6))))) ∧ (v = (-6) → (wp_X5_isEmpty (conA (tkA (absA ω) n j) ν) (fun r_13 m_12 => ((r_13 = 0 → Kf m_12) ∧ (¬ r_13 = 0 → Kt m_12)))))))
    (h1 : ∀ j ρ, j ≤ 200 → P j → (∀ i, i < j → ¬ P i) → Sm ρ ω → K (nI j) ρ) (h0 : ∀ ρ, (∀ j, j ≤ 200 → ¬ P j) → Sm ρ ω → K (-6) ρ) : wp_X5_until v ω K := by
  unfold wp_X5_until
  refine m_keeps2 (fun ν hν => ?_)
  have eA := kp_abs hν
  have far : ∀ j i, 24 < i → tkA (absA ω) n j i = absA ω i := fun j i hi => tkA_far hn hi j
  have key : ∀ d j, j + d = 201 → (∀ i, i < j → ¬ P i) → wp_X5_until_L6 v K (d + 1) (nI j) (conA (tkA (absA ω) n j) ν) := by
    intro d
    induction d with
    | zero =>
      intro j hj hb
      have : j = 201 := by omega
      subst this
      rw [wp_X5_until_L6_s]
      simp only
      refine br_t (by decide) (m_back2 hν (far 201) (fun ρ hρ => br_f (by decide) (h0 ρ (fun j hj => hb j (by omega)) hρ)))
    | succ d ih =>
      intro j hj hb
      rw [wp_X5_until_L6_s]
      simp only
      refine br_f (nI_nlt (a := 200) (b := j) (by omega) (by omega)) ?_
      have go : ¬ P j → wp_X5_until_L6 v K (d + 1) (nI j + 1) (conA (tickA (tkA (absA ω) n j) n) ν) := fun hno => by
        rw [nI_1]
        refine ih (j + 1) (by omega) (fun i hi => ?_)
        by_cases e : i = j
        · subst e; exact hno
        · exact hb i (by omega)
      have := hv j ν (fun m => wp_X5_comesBack m (fun m_9 => ((nI j ≤ 200 → K (nI j) m_9) ∧ (¬ nI j ≤ 200 → K (-6) m_9)))) (fun m => wp_X5_ticks m (fun m_11 => wp_X5_until_L6 v K (d + 1) (nI j + 1) m_11))
        (fun hP => m_back2 hν (far j) (fun ρ hρ => br_t (nI_le (b := 200) (by omega) (by omega)) (h1 j ρ (by omega) hP hb hρ)))
        (fun hno => m_ticks hn (tk_inv hA j).2.1 (go hno))
      exact this
  refine ⟨202, ?_⟩
  have := key 201 0 (by omega) (fun i hi => by omega)
  rw [show conA (tkA (absA ω) n 0) ν = ν by rw [show tkA (absA ω) n 0 = absA ν from eA.symm, conA_abs]] at this
  exact this
theorem who_zero {A : Mem} {n : Nat} : whoA A 0 n + whoA A 1 n = 0 ↔ ¬ wayN A n = true := by
  induction n with
  | zero => simp [whoA, wayN]
  | succ n ih =>
    rw [wayN_ex] at ih ⊢
    unfold whoA
    constructor
    · intro h
      rintro ⟨p, hp, e⟩
      by_cases hpn : p = n
      · subst hpn
        rcases e with e | e
        · rw [if_pos e] at h; omega
        · rw [if_pos e] at h; omega
      · have h2 : whoA A 0 n + whoA A 1 n = 0 := by omega
        exact ih.mp h2 ⟨p, by omega, e⟩
    · intro h
      have h1 := ih.mpr (fun ⟨p, hp, e⟩ => h ⟨p, by omega, e⟩)
      have h0 : ¬ A (n + 1) 2 = 0 := fun e => h ⟨n, by omega, Or.inl e⟩
      have h2 : ¬ A (n + 1) 2 = 1 := fun e => h ⟨n, by omega, Or.inr e⟩
      rw [if_neg h0, if_neg h2]
      omega
theorem who_le {A : Mem} {w : Int32} : ∀ n, whoA A w n ≤ n
  | 0 => Nat.le_refl 0
  | n + 1 => by
    have := who_le (A := A) (w := w) n
    unfold whoA
    split <;> omega
theorem op_untilEmpty {μ : Mem} (hI : Inv μ) : wp_X4_untilEmpty μ (fun r μ1 => wp_X5_untilEmpty μ1 (Fin2 r)) := by
  obtain ⟨n, t, ht, hA, hR⟩ := now_abs hI.1
  have hn := hR.1
  unfold wp_X4_untilEmpty
  refine c_copy (d := 29) (q := 1) (Or.inr (by omega)) hI.1 (fun S' _ hS' => ?_)
  refine c_tryOut (m := 200) (by omega) hA (hS' _ _ hR) (fun j T hj hend hbef hT => ?_)
  have hTr : Tr (putS 29 T μ) μ := tr_put
  have eA : absA (putS 29 T μ) = absA μ := abs_eq (hTr 288 (by omega)) (hTr 293 (by omega))
  have ref : ∀ K : Int32 → Mem → Prop, (∀ j ρ, j ≤ 200 → ¬ wayN (tkA (absA μ) n j) n = true → (∀ i, i < j → ¬ ¬ wayN (tkA (absA μ) n i) n = true) → Sm ρ (putS 29 T μ) → K (nI j) ρ) → (∀ ρ, (∀ j, j ≤ 200 → ¬ ¬ wayN (tkA (absA μ) n j) n = true) → Sm ρ (putS 29 T μ) → K (-6) ρ) → wp_X5_untilEmpty (putS 29 T μ) K := by
    intro K k1 k0
    unfold wp_X5_untilEmpty
    refine m_until (n := n) (t := t) (P := fun j => ¬ wayN (tkA (absA μ) n j) n = true) hn (by rw [eA]; exact hA) (fun j ν Kt Kf a b => ?_) k1 k0
    rw [eA] at a b ⊢
    refine br_nf rfl ?_
    unfold wp_X5_isEmpty
    have h4 := (tk_inv hA j).2.1
    have w0 := who_le (A := tkA (absA μ) n j) (w := 0) n
    have w1 := who_le (A := tkA (absA μ) n j) (w := 1) n
    refine m_thatAre hn h4 (m_thatAre hn h4 ?_)
    rw [nI_add]
    by_cases hz : whoA (tkA (absA μ) n j) 0 n + whoA (tkA (absA μ) n j) 1 n = 0
    · rw [hz]
      exact br_nf rfl (br_f (by decide) (a (who_zero.mp hz)))
    · exact br_nt (nI_ne0 (by omega) (by omega)) (br_t rfl (b (fun z => hz (who_zero.mpr z))))
  refine c_anybody hT (fun q => br_f (by decide) ?_) (fun q => br_t rfl ?_)
  · have ej : j = 200 := hend.resolve_right (fun z => z q)
    subst ej
    refine ref _ (fun i ρ hi hno _ _ => ?_) (fun ρ _ hρ => ⟨rfl, inv_sm hTr hρ hI⟩)
    by_cases e : i = 200
    · subst e; exact absurd q hno
    · exact absurd (hbef i (by omega)) hno
  · refine ref _ (fun i ρ hi hno hb hρ => ?_) (fun ρ hall _ => absurd q (hall j hj))
    have : i = j := by
      rcases Nat.lt_trichotomy i j with w | w | w
      · exact absurd (hbef i w) hno
      · exact w
      · exact absurd q (hb j w)
    subst this
    exact ⟨rfl, inv_sm hTr hρ hI⟩
theorem op_untilArrived {μ : Mem} {x : Int32} (hI : Inv μ) : wp_X4_untilArrived x μ (fun r μ1 => wp_X5_untilArrived x μ1 (Fin2 r)) := by
  obtain ⟨n, t, ht, hA, hR⟩ := now_abs hI.1
  have hn := hR.1
  have h4 := hA.2.1
  have h84 : μ 288 4 = nI n := by rw [← abs_0 μ (by decide), h4]
  have h14 : μ 1 4 = nI n := hR.2.2.1
  unfold wp_X4_untilArrived
  refine c_isPerson hn h14 (fun p hp e => br_nt (by decide) ?_) (fun z => br_nf rfl ?_)
  · subst e
    refine c_copy (d := 29) (q := 1) (Or.inr (by omega)) hI.1 (fun S' _ hS' => ⟨vp_in_nI (by omega) (by omega), ?_⟩)
    rw [nI_clamp (by omega)]
    -- the reference
    have ref : ∀ T (K : Int32 → Mem → Prop), (∀ j ρ, j ≤ 200 → tkA (absA μ) n j (p + 1) 2 = 2 → (∀ i, i < j → ¬ tkA (absA μ) n i (p + 1) 2 = 2) → Sm ρ (putS 29 T μ) → K (nI j) ρ) → (∀ ρ, (∀ j, j ≤ 200 → ¬ tkA (absA μ) n j (p + 1) 2 = 2) → Sm ρ (putS 29 T μ) → K (-6) ρ) → wp_X5_untilArrived (nI p) (putS 29 T μ) K := by
      intro T K k1 k0
      have hTr : Tr (putS 29 T μ) μ := tr_put
      have eA : absA (putS 29 T μ) = absA μ := abs_eq (hTr 288 (by omega)) (hTr 293 (by omega))
      unfold wp_X5_untilArrived
      refine m_isPerson hn (by rw [hTr 288 (by omega), h84]) (fun q hq e2 => br_f (by decide) ?_) (fun z => ?_)
      · refine m_until (n := n) (t := t) (P := fun j => tkA (absA μ) n j (p + 1) 2 = 2) hn (by rw [eA]; exact hA) (fun j ν Kt Kf a b => ?_) k1 k0
        rw [eA] at a b ⊢
        refine br_nt (oI_ne (by omega)) ?_
        exact m_get (p := p) (k := 2) (by omega) (by omega) rfl rfl ⟨a, b⟩
      · rcases z with z | z
        · exact absurd z (nI_pos (by omega))
        · exact absurd z (nI_ge hp (by omega))
    -- the class stops at j
    have stop : ∀ j T, j ≤ 200 → (j = 200 ∨ ¬ (tkA (absA μ) n j (p + 1) 2 = 0 ∨ tkA (absA μ) n j (p + 1) 2 = 1)) → (∀ i, i < j → (tkA (absA μ) n i (p + 1) 2 = 0 ∨ tkA (absA μ) n i (p + 1) 2 = 1)) → RelC T (tkA (absA μ) n j) n → ((¬ putS 29 T μ (31 + 2 + p) 2 = 2 → wp_X5_untilArrived (nI p) (putS 29 T μ) (Fin2 (-6))) ∧ (putS 29 T μ (31 + 2 + p) 2 = 2 → wp_X5_untilArrived (nI p) (putS 29 T μ) (Fin2 (nI j)))) := by
      intro j T hj hend hbef hT
      have hTr : Tr (putS 29 T μ) μ := tr_put
      have e2 : putS 29 T μ (31 + 2 + p) 2 = tkA (absA μ) n j (p + 1) 2 := by
        rw [← (hT.2.2.2.2.2.2.2 p hp).1.2.2.1, show 31 + 2 + p = 29 + 2 + 2 + p by omega, putS_P _ _ _ (by omega)]
      have nb : ∀ i, i < j → ¬ tkA (absA μ) n i (p + 1) 2 = 2 := fun i hi z => by
        rcases hbef i hi with w | w <;> rw [w] at z <;> exact absurd z (by decide)
      rw [e2]
      refine ⟨fun hne => ?_, fun he => ?_⟩
      · have never : ∀ i, i ≤ 200 → ¬ tkA (absA μ) n i (p + 1) 2 = 2 := by
          intro i hi
          rcases Nat.lt_or_ge i j with w | w
          · exact nb i w
          · by_cases e : i = j
            · subst e; exact hne
            · rcases hend with hend | hend
              · omega
              · have h3 : tkA (absA μ) n j (p + 1) 2 = 3 := by
                  rcases ((tk_inv hA j).2.2.2.2.1 p hp).2.2.1 with w | w | w | w
                  · exact absurd (Or.inl w) hend
                  · exact absurd (Or.inr w) hend
                  · exact absurd w hne
                  · exact w
                have := tkA_off h3 (i - j)
                rw [show j + (i - j) = i by omega] at this
                rw [this]
                decide
        exact ref T _ (fun i ρ hi z _ _ => absurd z (never i hi)) (fun ρ _ hρ => ⟨rfl, inv_sm hTr hρ hI⟩)
      · refine ref T _ (fun i ρ hi z hb hρ => ?_) (fun ρ hall _ => absurd he (hall j hj))
        have : i = j := by
          rcases Nat.lt_trichotomy i j with w | w | w
          · exact absurd z (nb i w)
          · exact w
          · exact absurd he (hb j w)
        subst this
        exact ⟨rfl, inv_sm hTr hρ hI⟩
    have key : ∀ d j T, j + d = 200 → (∀ i, i < j → (tkA (absA μ) n i (p + 1) 2 = 0 ∨ tkA (absA μ) n i (p + 1) 2 = 1)) → RelC T (tkA (absA μ) n j) n → wp_X4_untilArrived_L33 (31 + 2 + p) (fun r μ1 => wp_X5_untilArrived (nI p) μ1 (Fin2 r)) (d + 1) (nI j) (putS 29 T μ) := by
      intro d
      induction d with
      | zero =>
        intro j T hj hb hT
        have : j = 200 := by omega
        subst this
        rw [wp_X4_untilArrived_L33_s]
        simp only
        exact br_t (by decide) (stop 200 T (Nat.le_refl _) (Or.inl rfl) hb hT)
      | succ d ih =>
        intro j T hj hb hT
        rw [wp_X4_untilArrived_L33_s]
        simp only
        refine br_f (nI_ge (b := 200) (by omega) (by omega)) ?_
        have e2 : putS 29 T μ (31 + 2 + p) 2 = tkA (absA μ) n j (p + 1) 2 := by
          rw [← (hT.2.2.2.2.2.2.2 p hp).1.2.2.1, show 31 + 2 + p = 29 + 2 + 2 + p by omega, putS_P _ _ _ (by omega)]
        refine c_isOnWay (fun q => br_f (by decide) ?_) (fun q => br_t rfl ?_)
        · rw [e2] at q
          refine c_tick hT (tk_inv hA j).2.2.2.2.1 (fun T' hT' _ => ?_)
          rw [nI_1]
          refine ih (j + 1) T' (by omega) (fun i hi => ?_) hT'
          by_cases e : i = j
          · subst e; exact q
          · exact hb i (by omega)
        · rw [e2] at q
          exact stop j T (by omega) (Or.inr q) hb hT
    exact ⟨201, key 200 0 S' (by omega) (fun i hi => by omega) (hS' _ _ hR)⟩
  · unfold wp_X5_untilArrived
    refine m_isPerson hn h84 (fun q hq e2 => ?_) (fun _ => br_t rfl ⟨rfl, hI⟩)
    subst e2
    rcases z with z | z
    · exact absurd z (nI_pos (by omega))
    · exact absurd z (nI_ge hq (by omega))

/-! THE LAW'S up, and areAlike, which answers 1 -/
theorem up_ok {v : Int32} {m : Nat} {μ : Mem} {K : Int32 → Mem → Prop} (hm : 0 < m) (hm2 : m < 2 ^ 31) (hK : ∀ r, r < m → K (nI r) μ) : wp_L_up v (nI m) μ K := by
  obtain ⟨j, hlt, e⟩ := pk_andE v (m := 2147483647) 31 (by decide)
  unfold wp_L_up
  rw [e]
  refine ⟨nI_ne0 (by omega) (by omega), ?_⟩
  rw [pk_rem (d := m) hlt (by omega) (by omega)]
  exact hK _ (Nat.mod_lt _ hm)
section AL
variable {A : Mem} {n t L L2 : Nat} {Z Z2 : Nat → Option (Mem × Nat × Nat)} {c c2 : Nat → Int32} {K : Int32 → Mem → Mem → Prop}
theorem al_316 (hK : ∀ ω ω2, K 1 ω ω2) {μ μ2 : Mem} (h : Ob μ A n t Z L c) (h2 : Ob μ2 (dbl A) n t Z2 L2 c2) : ∀ d k, k + d = 48 → wp_L_areAlike_L316 K (d + 1) 1 (nI k) μ μ2 := by
  intro d
  induction d with
  | zero =>
    intro k hk
    have : k = 48 := by omega
    subst this
    rw [wp_L_areAlike_L316_s]
    simp only
    exact br_t (by decide) ⟨Or.inr rfl, hK _ _⟩
  | succ d ih =>
    intro k hk
    rw [wp_L_areAlike_L316_s]
    simp only
    refine br_f (nI_ge (b := 48) (by omega) (by omega)) (br_f (by decide) ?_)
    rw [show nI k / 4 = nI (k / 4) from pk_div (d := 4) (by omega) (by omega) (by omega)]
    rw [show nI k - nI (k / 4) * 4 = nI (k % 4) by
      have := pk_rem (a := k) (d := 4) (by omega) (by omega) (by omega)
      rw [show nI k / nI 4 = nI (k / 4) from pk_div (d := 4) (by omega) (by omega) (by omega)] at this
      exact this]
    refine sp_step h (by omega) (by omega) (sp_step h2 (by omega) (by omega) ?_)
    rw [dbl_st, nI_1]
    exact br_nf rfl (ih (k + 1) (by omega))
theorem al_190 {p : Nat} {E : Int32 → Int32 → Mem → Mem → Prop} (h1 : A 0 1 = 1) (hp : p < n) (hE : ∀ ω ω2, Ob ω A n t Z L c → Ob ω2 (dbl A) n t Z2 L2 c2 → E 1 (nI p + 1) ω ω2) {μ μ2 : Mem} (h : Ob μ A n t Z L c) (h2 : Ob μ2 (dbl A) n t Z2 L2 c2) : ∀ d k, k + d = 9 → wp_L_areAlike_L190 (nI p) K E (d + 1) 1 (nI k) μ μ2 := by
  intro d
  induction d with
  | zero =>
    intro k hk
    have : k = 9 := by omega
    subst this
    rw [wp_L_areAlike_L190_s]
    simp only
    refine br_t (by decide) (br_f (by decide) ?_)
    refine sp_does h hp (fun ω h => sp_does h2 hp (fun ω2 h2 => ?_))
    rw [dbl_tick A n h1, dbl_p _ (by decide)]
    refine br_nf rfl ?_
    refine sp_untilArrived h hp (fun ω h => sp_untilArrived h2 hp (fun ω2 h2 => ?_))
    rw [dbl_ua A n p h1]
    exact br_nf rfl (hE _ _ h h2)
  | succ d ih =>
    intro k hk
    rw [wp_L_areAlike_L190_s]
    simp only
    refine br_f (nI_ge (b := 9) (by omega) (by omega)) (br_f (by decide) ⟨fun z => ?_, fun z => ?_⟩)
    · have hk6 : k ≠ 6 := fun e => z (by rw [e]; rfl)
      refine sp_person h hp (by omega) (sp_person h2 hp (by omega) ?_)
      rw [dbl_p _ hk6, nI_1]
      exact br_nf rfl (ih (k + 1) (by omega))
    · refine sp_person (k := 6) h hp (by omega) (sp_person (k := 6) h2 hp (by omega) ?_)
      rw [dbl_6, two_x, nI_1]
      exact br_nf rfl (ih (k + 1) (by omega))
theorem al_177 (h1 : A 0 1 = 1) (hK : ∀ ω ω2, K 1 ω ω2) : ∀ d p μ μ2, p + d = n → Ob μ A n t Z L c → Ob μ2 (dbl A) n t Z2 L2 c2 → wp_L_areAlike_L177 K (d + 1) 1 (nI p) μ μ2 := by
  intro d
  induction d with
  | zero =>
    intro p μ μ2 hp h h2
    have : p = n := by omega
    subst this
    have hn := ob_n h
    rw [wp_L_areAlike_L177_s]
    simp only
    refine sp_count (k := 4) h (by omega) (br_t (nI_le (Nat.le_refl _) (by omega)) ?_)
    exact ⟨49, al_316 hK h h2 48 0 (by omega)⟩
  | succ d ih =>
    intro p μ μ2 hp h h2
    have hn := ob_n h
    rw [wp_L_areAlike_L177_s]
    simp only
    refine sp_count (k := 4) h (by omega) (br_f (nI_ge (by omega) (by omega)) ?_)
    refine ⟨10, al_190 h1 (by omega) (fun ω ω2 a b => ?_) h h2 9 0 (by omega)⟩
    rw [nI_1]
    exact ih (p + 1) ω ω2 (by omega) a b
theorem al_121 (h1 : A 0 1 = 1) (hK : ∀ ω ω2, K 1 ω ω2) {μ μ2 : Mem} (h : Ob μ A n t Z L c) (h2 : Ob μ2 (dbl A) n t Z2 L2 c2) : ∀ d k, k + d = 13 → wp_L_areAlike_L121 K (d + 1) 1 (nI k) μ μ2 := by
  intro d
  induction d with
  | zero =>
    intro k hk
    have : k = 13 := by omega
    subst this
    rw [wp_L_areAlike_L121_s]
    simp only
    exact br_t (by decide) ⟨n + 1, al_177 h1 hK n 0 μ μ2 (by omega) h h2⟩
  | succ d ih =>
    intro k hk
    rw [wp_L_areAlike_L121_s]
    simp only
    rw [nI_1]
    have nx := ih (k + 1) (by omega)
    refine br_f (nI_ge (b := 13) (by omega) (by omega)) (br_f (by decide) ⟨fun _ => nx, fun z => ⟨fun _ => nx, fun z2 => ?_⟩⟩)
    have hk1 : k ≠ 1 := fun e => z (by rw [e]; rfl)
    have hk10 : k ≠ 10 := fun e => z2 (by rw [e]; rfl)
    refine sp_count h (by omega) (sp_count h2 (by omega) ?_)
    rw [dbl_cn A (by omega) hk1 hk10]
    exact br_nf rfl nx
theorem ok_alike {x : Int32} (h1 : A 0 1 = 1) (hK : ∀ ω ω2, K 1 ω ω2) {μ μ2 : Mem} (h : Ob μ A n t Z L c) (h2 : Ob μ2 (dbl A) n t Z2 L2 c2) : wp_L_areAlike x μ μ2 K := by
  unfold wp_L_areAlike
  refine up_ok (m := 200) (by omega) (by omega) (fun r hr => ?_)
  rw [show (1 : Int32) + nI r = nI (1 + r) from nI_add 1 r]
  refine sp_untilEmpty h (fun ω h => sp_untilEmpty h2 (fun ω2 h2 => ?_))
  rw [dbl_ue A n h1]
  refine br_nf rfl ?_
  refine sp_bestLanding h (fun ω h => sp_bestLanding h2 (fun ω2 h2 => ?_))
  rw [dbl_bl h.1 h.2.1 h1 12 (by omega)]
  refine br_nf rfl ?_
  refine sp_count (k := 10) h2 (by omega) (sp_count (k := 10) h (by omega) ?_)
  rw [dbl_cn10]
  refine br_nf rfl ?_
  refine sp_ifPassed (k := 0) h (by omega) (by omega) (by omega) (fun ω h => sp_ifPassed (k := 0) h2 (by omega) (by omega) (by omega) (fun ω2 h2 => ?_))
  rw [dbl_tk A n h1, dbl_mv _ _ (by omega), if_neg (by decide)]
  refine br_nf rfl ?_
  refine sp_ifPassed (k := 1) h (by omega) (by omega) (by omega) (fun ω h => sp_ifPassed (k := 1) h2 (by omega) (by omega) (by omega) (fun ω2 h2 => ?_))
  rw [dbl_tk A n h1, dbl_mv _ _ (by omega), if_neg (by decide)]
  refine br_nf rfl ?_
  refine sp_ifPassed (k := 2) h (by omega) (by omega) (by omega) (fun ω h => sp_ifPassed (k := 2) h2 (by omega) (by omega) (by omega) (fun ω2 h2 => ?_))
  rw [dbl_tk A n h1, dbl_mv _ _ (by omega), if_pos rfl]
  refine br_nf rfl ?_
  refine sp_ifPassed (k := 3) h (by omega) (by omega) (by omega) (fun ω h => sp_ifPassed (k := 3) h2 (by omega) (by omega) (by omega) (fun ω2 h2 => ?_))
  rw [dbl_tk A n h1, dbl_mv _ _ (by omega), if_neg (by decide)]
  refine br_nf rfl ?_
  exact ⟨14, al_121 h1 hK h h2 13 0 (by omega)⟩
end AL

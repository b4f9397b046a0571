/-! THE LAW'S isWell answers 1 -/
theorem ue_zero {A : Mem} {n : Nat} : ueA A n = 0 ↔ ¬ wayN A n = true := by
  have e : tnA A n 200 0 = if wayN A n = true then tnA A n 199 1 else 0 := rfl
  unfold ueA
  by_cases h : wayN A n = true
  · rw [if_pos h] at e
    have hb := tn_le (A := A) (n := n) 199 1
    refine ⟨fun z => ?_, fun z => absurd h z⟩
    split at z
    · exact absurd z (by decide)
    · rw [e] at z
      exact absurd z (nI_ne0 (by omega) (by omega))
  · rw [if_neg h] at e
    refine ⟨fun _ => h, fun _ => ?_⟩
    rw [e]
    rw [if_neg (show ¬ wayN (tkA A n 0) n = true from h)]
    rfl
theorem room_pos {A : Mem} {n s : Nat} (hn : n ≤ 24) (hS : SetA A) (hC : CapOk A n) (hs : s < 12) : ¬ roomA A n (nI s) < 0 := by
  have h1 := hC s hs
  obtain ⟨⟨c, c1, c4, e⟩, -⟩ := hS
  have hcn := cnt_le (A := A) (s := nI s) n
  unfold capN at h1
  unfold roomA
  split
  · rename_i hl
    rw [if_pos hl, e, nI_clamp (by omega)] at h1
    rw [e, pk_sub h1]
    exact nI_pos (by omega)
  · rename_i hl
    rw [if_neg hl] at h1
    rw [show (1 : Int32) = nI 1 from rfl, pk_sub h1]
    exact nI_pos (by omega)
theorem st_0 (A : Mem) (n s : Nat) : stA A n s 0 = lfI A s := rfl
section WE
variable {A : Mem} {n t L : Nat} {Z : Nat → Option (Mem × Nat × Nat)} {c : Nat → Int32} {K : Int32 → Mem → Prop}
theorem we_583 {ω : Mem} {f : Nat → Int32} {s0 : Int32} (hn : n ≤ 24) (hf : ∀ w, w < 4 → f w = nI (whoA A (nI w) n)) (hs : s0 = if ueA A n = 0 then 1 else 0) (hK : K 1 ω) : wp_L_isWell_B583 s0 K ω f := by
  have w0 := who_le (A := A) (w := 0) n
  have w1 := who_le (A := A) (w := 1) n
  have e0 : f (0 : Int32).toNatClampNeg = nI (whoA A 0 n) := hf 0 (by omega)
  have e1 : f (1 : Int32).toNatClampNeg = nI (whoA A 1 n) := hf 1 (by omega)
  unfold wp_L_isWell_B583
  rw [e0, e1, nI_add]
  by_cases hz : whoA A 0 n + whoA A 1 n = 0
  · rw [hz]
    refine br_nf rfl ?_
    rw [hs, if_pos (ue_zero.mpr (who_zero.mp hz))]
    exact br_nf rfl hK
  · refine br_nt (nI_ne0 (by omega) (by omega)) ?_
    rw [hs, if_neg (fun z => hz (who_zero.mpr (ue_zero.mp z)))]
    exact br_nf rfl hK
theorem we_481 {f : Nat → Int32} (hf : ∀ w, w < 4 → f w = nI (whoA A (nI w) n)) (hK : ∀ ω, Ob ω A n t Z L c → K 1 ω) : ∀ d w ω, w + d = 4 → Ob ω A n t Z L c → wp_L_isWell_L481 (sumA A 6 n) (sumA A 5 n) (sumA A 4 n) (mkA A 12) K (d + 1) 1 (nI w) ω f := by
  intro d
  induction d with
  | zero =>
    intro w ω hw hω
    have : w = 4 := by omega
    subst this
    have hn := ob_n hω
    obtain ⟨t6, t7, t8⟩ := hω.2.1.2.2.2.2.2.2.1
    rw [wp_L_isWell_L481_s]
    simp only
    refine br_t (by decide) ?_
    refine sp_untilEmpty hω (fun ω hω => br_f (by decide) ?_)
    refine sp_count (k := 10) hω (by omega) ?_
    rw [cn_10, ← t6]
    refine br_nf rfl ?_
    refine sp_count (k := 11) hω (by omega) ?_
    rw [cn_11, ← t7]
    refine br_nf rfl ?_
    refine sp_count (k := 12) hω (by omega) ?_
    rw [cn_12, ← t8]
    refine br_nf rfl ?_
    refine sp_count (k := 9) hω (by omega) ?_
    rw [show cnA A n 9 = A 0 5 from rfl, ← mkA_ok hω.2.1.2.2.2.1]
    refine br_nf rfl ?_
    refine ⟨fun z => we_583 hn hf (by rw [if_neg z]) (hK ω hω), fun z => we_583 hn hf (by rw [if_pos z]) (hK ω hω)⟩
  | succ d ih =>
    intro w ω hw hω
    rw [wp_L_isWell_L481_s]
    simp only
    refine br_f (nI_ge (b := 4) (by omega) (by omega)) (br_f (by decide) ⟨vp_in_nI (by omega) (by omega), ?_⟩)
    rw [show (5 : Int32) + nI w = nI (5 + w) from nI_add 5 w]
    refine sp_count hω (by omega) ?_
    have e : cnA A n (5 + w) = nI (whoA A (nI w) n) := by
      unfold cnA
      rw [if_neg (by omega), if_neg (by omega), if_neg (by omega), if_pos (by omega), show 5 + w - 5 = w by omega]
    rw [e, nI_clamp (by omega), hf w (by omega), nI_1]
    exact br_nf rfl (ih (w + 1) ω (by omega) hω)
theorem we_452 {ω : Mem} {f : Nat → Int32} {v1 v2 v3 v5 : Int32} {E : Int32 → Int32 → Int32 → Mem → (Nat → Int32) → Prop} {s : Nat} {s0 : Int32} (hn : n ≤ 24) (hs : s0 = if hiA A (nI s) n = none then 1 else 0) (hE : E v5 1 (nI s + 1) ω f) : wp_L_isWell_B452 v1 v2 v3 v5 (nI s) (nI (cntA A (nI s) n)) s0 K E ω f := by
  have hcn := cnt_le (A := A) (s := nI s) n
  unfold wp_L_isWell_B452
  by_cases hz : cntA A (nI s) n = 0
  · rw [hs, if_pos (hi_none.mpr hz), hz]
    exact br_nf rfl (br_nf rfl hE)
  · rw [hs, if_neg (fun z => hz (hi_none.mp z))]
    exact br_nt (nI_ne0 (by omega) (by omega)) (br_nf rfl hE)
theorem oI_none {o : Option Nat} (h : ∀ q, o = some q → q < 24) : oI o = -6 ↔ o = none := by
  cases o with
  | none => exact ⟨fun _ => rfl, fun _ => rfl⟩
  | some q =>
    refine ⟨fun z => absurd z ?_, fun z => by cases z⟩
    show ¬ nI q = -6
    exact oI_ne (h q rfl)
theorem we_277 {f : Nat → Int32} {v1 v2 v3 v5 : Int32} {E : Int32 → Int32 → Int32 → Mem → (Nat → Int32) → Prop} {s : Nat} (hs : s < 12) (hE : ∀ ω, Ob ω A n t Z L c → E v5 1 (nI s + 1) ω f) : ∀ d j ω, j + d = n → Ob ω A n t Z L c → wp_L_isWell_L277 v1 v2 v3 v5 (nI s) (oI (hiA A (nI s) n)) K E (d + 1) 1 (nI (cntA A (nI s) j)) (nI j) ω f := by
  intro d
  induction d with
  | zero =>
    intro j ω hj hω
    have : j = n := by omega
    subst this
    have hn := ob_n hω
    have hI := hω.2.1
    rw [wp_L_isWell_L277_s]
    simp only
    refine sp_count (k := 4) hω (by omega) (br_t (nI_le (Nat.le_refl _) (by omega)) (br_f (by decide) ?_))
    refine sp_step (k := 1) hω hs (by omega) ?_
    rw [show stA A j s 1 = nI (cntA A (nI s) j) from rfl]
    refine br_nf rfl ?_
    refine sp_step (k := 2) hω hs (by omega) ?_
    rw [show stA A j s 2 = roomA A j (nI s) from rfl]
    refine sp_step (k := 0) hω hs (by omega) ?_
    rw [st_0]
    have b424 : ∀ x : Int32, x = (if lndA A (nI s) then A 0 0 else 1) → wp_L_isWell_B424 v1 v2 v3 v5 (nI s) (oI (hiA A (nI s) j)) (nI (cntA A (nI s) j)) x (roomA A j (nI s)) K E ω f := by
      intro x hx
      subst hx
      unfold wp_L_isWell_B424
      refine br_nf rfl ?_
      refine sp_step (k := 2) hω hs (by omega) ?_
      rw [show stA A j s 2 = roomA A j (nI s) from rfl]
      refine br_f (room_pos hn hI.2.2.2.1 hI.2.2.2.2.2.1 hs) ?_
      have h24 : ∀ q, hiA A (nI s) j = some q → q < 24 := fun q hq => by have := hiA_lt hq; omega
      refine ⟨fun z => we_452 hn (by rw [if_neg (fun w => z ((oI_none h24).mpr w))]) (hE ω hω), fun z => we_452 hn (by rw [if_pos ((oI_none h24).mp z)]) (hE ω hω)⟩
    unfold lfI
    by_cases hl : lndA A (nI s)
    · rw [if_pos hl]
      refine br_nf rfl ?_
      refine sp_count (k := 0) hω (by omega) ?_
      exact b424 _ (by rw [if_pos hl]; rfl)
    · rw [if_neg hl]
      exact br_nt (by decide) (b424 _ (by rw [if_neg hl]))
  | succ d ih =>
    intro j ω hj hω
    have hn := ob_n hω
    have hI := hω.2.1
    have hrel := hω.2.2.1.2.2.2.2.2.2.2 j (by omega)
    rw [wp_L_isWell_L277_s]
    simp only
    refine sp_count (k := 4) hω (by omega) (br_f (nI_ge (by omega) (by omega)) ?_)
    refine sp_person (k := 3) hω (by omega) (by omega) ?_
    have go : ∀ x : Int32, nI (cntA A (nI s) j) + x = nI (cntA A (nI s) (j + 1)) → wp_L_isWell_B306 v1 v2 v3 v5 1 (nI s) (oI (hiA A (nI s) n)) (nI j) x (nI (cntA A (nI s) j)) K E (wp_L_isWell_L277 v1 v2 v3 v5 (nI s) (oI (hiA A (nI s) n)) K E (d + 1)) ω f := by
      intro x hx
      unfold wp_L_isWell_B306
      have nx : ∀ ω, Ob ω A n t Z L c → wp_L_isWell_L277 v1 v2 v3 v5 (nI s) (oI (hiA A (nI s) n)) K E (d + 1) 1 (nI (cntA A (nI s) j) + x) (nI j + 1) ω f := fun ω hω => by
        rw [hx, nI_1]
        exact ih (j + 1) ω (by omega) hω
      refine br_f (by decide) ?_
      refine sp_person (k := 3) hω (by omega) (by omega) ⟨fun z => nx ω hω, fun z => ?_⟩
      have h1 : A (j + 1) 2 = 1 := by
        refine Classical.byContradiction (fun w => ?_)
        have := hrel.2.2.1 w
        rw [this] at z
        exact oI_ne (q := s) (by omega) z.symm
      obtain ⟨q, hq, hqn, hbest⟩ := hi_best (A := A) (s := nI s) (n := n) (p := j) (by omega) ⟨h1, z⟩
      rw [hq] at nx ⊢
      show wp_X4_person (nI q) 0 ω _
      refine sp_person (k := 0) hω hqn (by omega) (sp_person (k := 0) hω (by omega) (by omega) ⟨fun _ => nx ω hω, fun z2 => ?_⟩)
      refine sp_person (k := 0) hω hqn (by omega) (sp_person (k := 0) hω (by omega) (by omega) ?_)
      obtain ⟨he, hle⟩ := hbest.resolve_left z2
      refine br_nf he (br_f ?_ (nx ω hω))
      exact nI_nlt (a := j) (b := q) hle (by omega)
    have e : cntA A (nI s) (j + 1) = cntA A (nI s) j + (if A (j + 1) 2 = 1 ∧ A (j + 1) 3 = nI s then 1 else 0) := rfl
    refine ⟨fun z => go 0 ?_, fun z => go 1 ?_⟩
    · rw [e, if_neg (fun w => z w.2), nI_addz, Nat.add_zero]
    · have h1 : A (j + 1) 2 = 1 := by
        refine Classical.byContradiction (fun w => ?_)
        have := hrel.2.2.1 w
        rw [this] at z
        exact oI_ne (q := s) (by omega) z.symm
      rw [e, if_pos ⟨h1, z⟩, nI_1]
theorem we_240 {f : Nat → Int32} (hf : ∀ w, w < 4 → f w = nI (whoA A (nI w) n)) (hK : ∀ ω, Ob ω A n t Z L c → K 1 ω) : ∀ d s ω, s + d = 12 → Ob ω A n t Z L c → wp_L_isWell_L240 (sumA A 6 n) (sumA A 5 n) (sumA A 4 n) K (d + 1) (mkA A s) 1 (nI s) ω f := by
  intro d
  induction d with
  | zero =>
    intro s ω hs hω
    have : s = 12 := by omega
    subst this
    rw [wp_L_isWell_L240_s]
    simp only
    exact br_t (by decide) ⟨5, we_481 hf hK 4 0 ω (by omega) hω⟩
  | succ d ih =>
    intro s ω hs hω
    rw [wp_L_isWell_L240_s]
    simp only
    refine br_f (nI_ge (b := 12) (by omega) (by omega)) ?_
    refine sp_step (k := 3) hω (by omega) (by omega) (sp_step (k := 0) hω (by omega) (by omega) ?_)
    rw [show stA A n s 3 = oI (hiA A (nI s) n) from rfl, st_0]
    refine ⟨n + 1, we_277 (s := s) (by omega) (fun ω hω => ?_) n 0 ω (by omega) hω⟩
    rw [nI_1]
    exact ih (s + 1) ω (by omega) hω
theorem we_20 (hw : Wel A n (9720 * t) t) (hK : ∀ ω, Ob ω A n t Z L c → K 1 ω) : ∀ d j ω f, j + d = n → Ob ω A n t Z L c → (∀ w, w < 4 → f w = nI (whoA A (nI w) j)) → wp_L_isWell_L20 0 K (d + 1) (sumA A 6 j) (sumA A 5 j) (sumA A 4 j) 1 (nI j) ω f := by
  intro d
  induction d with
  | zero =>
    intro j ω f hj hω hf
    have : j = n := by omega
    subst this
    have hn := ob_n hω
    rw [wp_L_isWell_L20_s]
    simp only
    refine sp_count (k := 4) hω (by omega) (br_t (nI_le (Nat.le_refl _) (by omega)) ?_)
    exact ⟨13, we_240 hf hK 12 0 ω (by omega) hω⟩
  | succ d ih =>
    intro j ω f hj hω hf
    have hn := ob_n hω
    have ht := hω.1
    have hI := hω.2.1
    have hjn : j < n := by omega
    have hrel := hω.2.2.1.2.2.2.2.2.2.2 j hjn
    obtain ⟨⟨y, b, w5, w6, wyb, wb⟩, ⟨s0, w0, w8, w4, wsw, ww⟩, wend⟩ := hw j hjn
    obtain ⟨x, hx4, ex⟩ : ∃ x : Nat, x < 4 ∧ A (j + 1) 2 = nI x := by
      rcases (hI.2.2.2.2.1 j hjn).2.2.1 with e | e | e | e
      · exact ⟨0, by omega, e⟩
      · exact ⟨1, by omega, e⟩
      · exact ⟨2, by omega, e⟩
      · exact ⟨3, by omega, e⟩
    rw [wp_L_isWell_L20_s]
    simp only
    refine sp_count (k := 4) hω (by omega) (br_f (nI_ge (by omega) (by omega)) ?_)
    refine sp_person (k := 2) hω hjn (by omega) (sp_person (k := 6) hω hjn (by omega) (sp_person (k := 5) hω hjn (by omega) (sp_person (k := 4) hω hjn (by omega) ?_)))
    have hv : vp_in (A (j + 1) 2) 4 := by rw [ex]; exact vp_in_nI hx4 (by omega)
    refine ⟨hv, hv, nm_e (br_f (by decide) ?_)⟩
    have hf2 : ∀ w, w < 4 → upd f (A (j + 1) 2).toNatClampNeg (f (A (j + 1) 2).toNatClampNeg + 1) w = nI (whoA A (nI w) (j + 1)) := by
      intro w hw4
      rw [ex, nI_clamp (by omega), hf x hx4, nI_1]
      show _ = nI (whoA A (nI w) j + (if A (j + 1) 2 = nI w then 1 else 0))
      unfold upd
      rw [ex]
      by_cases e : w = x
      · subst e
        rw [if_pos rfl, if_pos rfl]
      · rw [if_neg e, if_neg (fun z => e (nI_inj (by omega) (by omega) z).symm), Nat.add_zero]
        exact hf w hw4
    have nx := ih (j + 1)
    generalize upd f (A (j + 1) 2).toNatClampNeg (f (A (j + 1) 2).toNatClampNeg + 1) = f2 at hf2 ⊢
    have nxt : ∀ ω, Ob ω A n t Z L c → wp_L_isWell_L20 0 K (d + 1) (sumA A 6 j + A (j + 1) 6) (sumA A 5 j + A (j + 1) 5) (sumA A 4 j + A (j + 1) 4) 1 (nI j + 1) ω f2 := fun ω hω => by
      rw [nI_1]
      exact nx ω f2 (by omega) hω hf2
    -- what its place says
    have x1 : A (j + 1) 2 ≤ 1 ↔ x ≤ 1 := by rw [ex]; exact nI_leI (b := 1) (by omega) (by omega)
    have x2 : A (j + 1) 2 < 2 ↔ x < 2 := by rw [ex]; exact nI_ltI (b := 2) (by omega) (by omega)
    have wyx : wy (A (j + 1) 2) ↔ x ≤ 1 := by
      rw [ex]
      constructor
      · rintro (z | z)
        · have := (nI_eq (b := 0) (by omega) (by omega)).mp z; omega
        · have := (nI_eq (b := 1) (by omega) (by omega)).mp z; omega
      · intro z
        rcases (show x = 0 ∨ x = 1 by omega) with rfl | rfl
        · exact Or.inl rfl
        · exact Or.inr rfl
    have b210 : ∀ v : Int32, (v = if tickA A n (j + 1) 9 = 0 then 1 else 0) → ∀ ω, Ob ω A n t Z L c → wp_L_isWell_B210 (sumA A 6 j + A (j + 1) 6) (sumA A 5 j + A (j + 1) 5) (sumA A 4 j + A (j + 1) 4) 0 (nI j) (A (j + 1) 2) v K (wp_L_isWell_L20 0 K (d + 1)) ω f2 := by
      intro v hv ω hω
      have hd := deed_iff (A := A) hn hI.2.2.2.2.1 hjn
      unfold wp_L_isWell_B210
      by_cases hx1 : x ≤ 1
      · rw [hv, if_neg (fun z => hd.mp z (wyx.mpr hx1))]
        exact br_t (x1.mpr hx1) (br_nf rfl (nxt ω hω))
      · rw [hv, if_pos (hd.mpr (fun z => hx1 (wyx.mp z)))]
        exact br_f (fun z => hx1 (x1.mp z)) (br_nf rfl (nxt ω hω))
    have b178 : wp_L_isWell_B178 (sumA A 6 j + A (j + 1) 6) (sumA A 5 j + A (j + 1) 5) (sumA A 4 j + A (j + 1) 4) 0 (nI j) (A (j + 1) 2) K (wp_L_isWell_L20 0 K (d + 1)) ω f2 := by
      unfold wp_L_isWell_B178
      refine sp_person (k := 6) hω hjn (by omega) (sp_person (k := 5) hω hjn (by omega) (br_f ?_ ?_))
      · rw [w5, w6]
        exact nI_nlt (a := b) (b := y) wyb (by omega)
      · refine sp_does hω hjn (fun ω hω => ⟨fun z => b210 0 (by rw [if_neg z]) ω hω, fun z => b210 1 (by rw [if_pos z]) ω hω⟩)
    have b140 : ∀ v : Int32, wp_L_isWell_B140 (sumA A 6 j + A (j + 1) 6) (sumA A 5 j + A (j + 1) 5) (sumA A 4 j + A (j + 1) 4) 0 (nI j) (A (j + 1) 2) v v K (wp_L_isWell_L20 0 K (d + 1)) ω f2 := by
      intro v
      unfold wp_L_isWell_B140
      refine br_nf rfl ?_
      refine sp_person (k := 8) hω hjn (by omega) (sp_person (k := 4) hω hjn (by omega) (br_f ?_ ?_))
      · rw [w8, w4]
        exact nI_nlt (a := w0) (b := s0) wsw (by omega)
      · refine ⟨fun _ => b178, fun z => ?_⟩
        refine sp_person (k := 8) hω hjn (by omega) (br_nf ?_ b178)
        refine (wend ?_).1
        rw [ex] at z ⊢
        have hx2 : ¬ x < 2 := fun w => z (nI_lt (b := 2) w (by omega))
        rcases (show x = 2 ∨ x = 3 by omega) with rfl | rfl
        · exact Or.inl rfl
        · exact Or.inr rfl
    have b110 : ∀ v : Int32, wp_L_isWell_B110 (sumA A 6 j + A (j + 1) 6) (sumA A 5 j + A (j + 1) 5) (sumA A 4 j + A (j + 1) 4) 0 (nI j) (A (j + 1) 2) v v K (wp_L_isWell_L20 0 K (d + 1)) ω f2 := by
      intro v
      unfold wp_L_isWell_B110
      refine br_nf rfl ?_
      refine sp_person (k := 7) hω hjn (by omega) ?_
      by_cases hx1 : x ≤ 1
      · have e7 : A (j + 1) 7 = -6 := hrel.2.2.2.2.1 (wyx.mpr hx1)
        rw [e7]
        exact br_t (by decide) (br_t (x1.mpr hx1) (b140 0))
      · have h23 : A (j + 1) 2 = 2 ∨ A (j + 1) 2 = 3 := by
          rw [ex]
          rcases (show x = 2 ∨ x = 3 by omega) with rfl | rfl
          · exact Or.inl rfl
          · exact Or.inr rfl
        obtain ⟨-, j7, e7, hj7⟩ := wend h23
        rw [e7]
        exact br_f (nI_nle (by omega) (by omega)) (br_f (fun z => hx1 (x1.mp z)) (b140 1))
    refine sp_person (k := 3) hω hjn (by omega) ?_
    by_cases h1 : A (j + 1) 2 = 1
    · obtain ⟨s, hs, es⟩ := (hI.2.2.2.2.1 j hjn).2.2.2 h1
      rw [es]
      exact br_f (nI_pos (by omega)) (br_nf h1 (b110 1))
    · rw [hrel.2.2.1 h1]
      exact br_t (by decide) (br_nt h1 (b110 0))
theorem ok_isWell {μ : Mem} (h : Ob μ A n t Z L c) (hw : Wel A n (9720 * t) t) (hK : ∀ ω, Ob ω A n t Z L c → K 1 ω) : wp_L_isWell μ K := ⟨n + 1, we_20 hw hK n 0 μ (fun _ => 0) (by omega) h (fun w _ => rfl)⟩
end WE

/-! THE LAW'S isStep answers 1, and the two staircases stay alike -/
def dZ (Z : Nat → Option (Mem × Nat × Nat)) : Nat → Option (Mem × Nat × Nat) := fun k => (Z k).map (fun z => (dbl z.1, z.2))
def ZOk (Z : Nat → Option (Mem × Nat × Nat)) (T : Nat) : Prop := ∀ k, k < 2 → ∀ B m u, Z k = some (B, m, u) → B 0 1 = 1 ∧ Wel B m (9720 * u) u ∧ u ≤ T
def Tn (μ μ2 : Mem) (T : Nat) : Prop := ∃ A n t Z c c2, Ob μ A n t Z 0 c ∧ Ob μ2 (dbl A) n t (dZ Z) 0 c2 ∧ A 0 1 = 1 ∧ Wel A n (9720 * t) t ∧ t ≤ T ∧ ZOk Z T
theorem zok_mono {Z : Nat → Option (Mem × Nat × Nat)} {T T' : Nat} (hT : T ≤ T') (h : ZOk Z T) : ZOk Z T' := fun k hk B m u e => by
  obtain ⟨h1, h2, h3⟩ := h k hk B m u e
  exact ⟨h1, h2, by omega⟩
theorem tn_mono {μ μ2 : Mem} {T T' : Nat} (hT : T ≤ T') (h : Tn μ μ2 T) : Tn μ μ2 T' := by
  obtain ⟨A, n, t, Z, c, c2, h1, h2, h3, h4, h5, h6⟩ := h
  exact ⟨A, n, t, Z, c, c2, h1, h2, h3, h4, by omega, zok_mono hT h6⟩
def upF (v : Int32) (m : Nat) : Nat := (v &&& 2147483647).toNatClampNeg % m
theorem up_f {v : Int32} {m : Nat} {μ : Mem} {K : Int32 → Mem → Prop} (hm : 0 < m) (hm2 : m < 2 ^ 31) (hK : K (nI (upF v m)) μ) : wp_L_up v (nI m) μ K := by
  obtain ⟨j, hlt, e⟩ := pk_andE v (m := 2147483647) 31 (by decide)
  unfold upF at hK
  rw [e, nI_clamp (by omega)] at hK
  unfold wp_L_up
  rw [e]
  refine ⟨nI_ne0 (by omega) (by omega), ?_⟩
  rw [pk_rem (d := m) hlt (by omega) (by omega)]
  exact hK
theorem upF_lt {v : Int32} {m : Nat} (hm : 0 < m) : upF v m < m := Nat.mod_lt _ hm
theorem dbl_gc (A : Mem) (n : Nat) : ∀ s, gcA (dbl A) n s = gcA A n s
  | 0 => rfl
  | s + 1 => by unfold gcA; rw [dbl_gc A n s, dbl_cnt]
section ST
variable {A : Mem} {n t T : Nat} {Z : Nat → Option (Mem × Nat × Nat)} {c c2 : Nat → Int32} {K : Int32 → Mem → Mem → Prop} {μ μ2 : Mem}
/-! come -/
theorem st_788 {m r : Nat} {u : Int32} (hm : m = 117 ∧ u = 1 ∨ m = 100 ∧ u = 0) (hr1 : 1 ≤ r) (hr9 : r ≤ 9) (hn : n < 24) (h1 : A 0 1 = 1) (hw : Wel A n (9720 * t) t) (ht : t ≤ T) (hZ : ZOk Z T) (h : Ob μ (comesA A n (nI r) u) (n + 1) t Z 0 c) (h2 : Ob μ2 (dbl A) n t (dZ Z) 0 c2) (hK : ∀ ω ω2, Tn ω ω2 T → K 1 ω ω2) : wp_L_isStep_B788 (nI n) (nI r) (lN m) K μ μ2 := by
  unfold wp_L_isStep_B788
  have hm1 : 33 ≤ m ∧ m ≤ 126 := by omega
  refine sp_put1 h2 hm1.1 hm1.2 (by omega) (fun ω2 c' h2 _ e0 => br_nf rfl ?_)
  rw [show (48 : Int32) + nI r = nI (48 + r) from nI_add 48 r, nI_l (by omega)]
  refine sp_put1 h2 (by omega) (by omega) (by omega) (fun ω2 c'' h2 e1 e2 => br_nf rfl ?_)
  have e0' : c'' 0 = nI m := by rw [e1 0 (by omega)]; exact e0
  have e2' : c'' 1 = nI (48 + r) := e2
  have hu : (if c'' 0 = 117 then (1 : Int32) else 0) = u := by
    rw [e0']
    rcases hm with ⟨rfl, rfl⟩ | ⟨rfl, rfl⟩
    · rw [if_pos (show nI 117 = (117 : Int32) from rfl)]
    · rw [if_neg (by decide)]
  refine sp_read2 h2 (by rw [e0']; rcases hm with ⟨rfl, -⟩ | ⟨rfl, -⟩; exact Or.inl rfl; exact Or.inr rfl) hr1 hr9 e2' hn (fun ω2 h2 => br_nf (nI_1 n).symm ?_)
  rw [hu, dbl_comes] at h2
  refine sp_person (k := 2) h (by omega) (by omega) ?_
  rw [comes_p _ _ _ _ (by decide)]
  refine br_nf rfl ?_
  refine sp_person (k := 0) h (by omega) (by omega) ?_
  rw [comes_p _ _ _ _ (by decide)]
  refine br_nf rfl (hK _ _ ⟨_, n + 1, t, Z, c, c'', h, h2, ?_, wel_comes hw, ht, hZ⟩)
  rw [comes_0 _ _ _ _ (by decide)]
  exact h1
theorem st_714 {r : Nat} {u : Int32} (hu : bz u) (hr1 : 1 ≤ r) (hr9 : r ≤ 9) (h1 : A 0 1 = 1) (hw : Wel A n (9720 * t) t) (ht : t ≤ T) (hZ : ZOk Z T) (h : Ob μ A n t Z 0 c) (h2 : Ob μ2 (dbl A) n t (dZ Z) 0 c2) (hK : ∀ ω ω2, Tn ω ω2 T → K 1 ω ω2) : wp_L_isStep_B714 (nI n) (nI r) u K μ μ2 := by
  have hn := ob_n h
  unfold wp_L_isStep_B714
  refine sp_come h hr1 hr9 hu (fun hlt ω h' => ?_) (fun e => ?_)
  · refine br_nt (fun z => ?_) (br_nf rfl ?_)
    · have := nI_inj (b := 24 - 1) (a := 0) (by omega) (by omega)
      have e := (nI_eq (b := 24) (by omega) (by omega)).mp z
      omega
    · refine sp_wipe h2 (fun ω2 h2 => br_f (by decide) ⟨fun z => ?_, fun z => ?_⟩)
      · subst z
        exact st_788 (m := 100) (Or.inr ⟨rfl, rfl⟩) hr1 hr9 hlt h1 hw ht hZ h' h2 hK
      · have : u = 1 := hu.resolve_left z
        subst this
        exact st_788 (m := 117) (Or.inl ⟨rfl, rfl⟩) hr1 hr9 hlt h1 hw ht hZ h' h2 hK
  · subst e
    refine br_nf rfl (br_nf rfl ?_)
    exact sp_come h2 hr1 hr9 hu (fun hlt => absurd hlt (by omega)) (fun _ => br_nf rfl (hK _ _ ⟨A, 24, t, Z, c, c2, h, h2, h1, hw, ht, hZ⟩))
/-! set -/
theorem tf_s (A : Mem) (n s : Nat) (v : Int32) : tfA A n v (s + 1) = (tfA A n v s || decide (lndA A (nI s) ∧ ¬ nI (cntA A (nI s) n) ≤ v)) := rfl
theorem tf_gc {v : Nat} (hn : n ≤ 24) (hv1 : 1 ≤ v) (hv4 : v ≤ 4) (hC : CapOk A n) : tfA A n (nI v) 12 = true ↔ ¬ gcA A n 12 ≤ v := by
  rw [tfA_ex, gcA_iff]
  constructor
  · rintro ⟨j, hj, _, hc⟩ hall
    have hle := cnt_le (A := A) (s := nI j) n
    exact hc (nI_le (hall j hj) (by omega))
  · intro hno
    refine Classical.byContradiction (fun hne => hno (fun j hj => ?_))
    refine Classical.byContradiction (fun hgt => hne ⟨j, hj, ?_, ?_⟩)
    · refine Classical.byContradiction (fun hl => ?_)
      have := hC j hj
      unfold capN at this
      rw [if_neg hl] at this
      omega
    · have hle := cnt_le (A := A) (s := nI j) n
      exact nI_ge (by omega) (by omega)
theorem st_152 {v k : Nat} (hv : k = 0 ∧ 1 ≤ v ∧ v ≤ 4 ∨ k = 2 ∧ v ≤ 9) {hol : Int32} (hh : k = 0 ∧ hol = 1 ∨ k = 2 ∧ hol = 0) (h1 : A 0 1 = 1) (hw : Wel A n (9720 * t) t) (ht : t ≤ T) (hZ : ZOk Z T) (h : Ob μ A n t Z 0 c) (h2 : Ob μ2 (dbl A) n t (dZ Z) 0 c2) (hK : ∀ ω ω2, Tn ω ω2 T → K 1 ω ω2) : ∀ d s, s + d = 12 → wp_L_isStep_L152 hol (nI v) (nI k) (A 0 k) K (d + 1) (bI (tfA A n (nI v) s)) (nI s) μ μ2 := by
  have hn := ob_n h
  intro d
  induction d with
  | zero =>
    intro s hs
    have : s = 12 := by omega
    subst this
    rw [wp_L_isStep_L152_s]
    simp only
    refine br_t (by decide) ?_
    rcases hh with ⟨rfl, rfl⟩ | ⟨rfl, rfl⟩
    · obtain ⟨-, hv1, hv4⟩ := hv.resolve_right (fun z => by omega)
      have htf := tf_gc (A := A) hn hv1 hv4 h.2.1.2.2.2.2.2.1
      refine sp_setH h hv1 hv4 (fun hg ω h' => ?_) (fun hg => ?_)
      · refine sp_setH h2 hv1 hv4 (fun _ ω2 h2' => ?_) (fun hg2 => absurd (by rw [dbl_gc]; exact hg) hg2)
        rw [dbl_k A (i := 0) (k := 0) (by decide) (by decide)]
        refine br_nf rfl (br_f (by decide) (br_t ?_ (br_nf rfl ?_)))
        · have : tfA A n (nI v) 12 = false := by
            cases hx : tfA A n (nI v) 12 with
            | false => rfl
            | true => exact absurd hg (htf.mp hx)
          rw [this]; rfl
        · rw [dbl_upn _ _ (by decide) (by decide)] at h2'
          exact hK _ _ ⟨_, n, t, Z, c, c2, h', h2', by rw [up2_app, if_neg (by decide)]; exact h1, wel_up0 hw, ht, hZ⟩
      · refine sp_setH h2 hv1 hv4 (fun hg2 => absurd (by rw [dbl_gc] at hg2; exact hg2) hg) (fun _ => ?_)
        refine br_nf rfl (br_f (by decide) (br_f ?_ (br_nf rfl (hK _ _ ⟨A, n, t, Z, c, c2, h, h2, h1, hw, ht, hZ⟩))))
        rw [htf.mpr hg]
        decide
    · obtain ⟨-, hv9⟩ := hv.resolve_left (fun z => by omega)
      refine sp_set (k := 2) h (Or.inr ⟨rfl, hv9⟩) (fun ω h' => sp_set (k := 2) h2 (Or.inr ⟨rfl, hv9⟩) (fun ω2 h2' => ?_))
      rw [dbl_k A (i := 0) (k := 2) (by decide) (by decide)]
      refine br_nf rfl (br_t rfl (br_nf rfl ?_))
      rw [dbl_upn _ _ (by decide) (by decide)] at h2'
      exact hK _ _ ⟨_, n, t, Z, c, c2, h', h2', by rw [up2_app, if_neg (by decide)]; exact h1, wel_up0 hw, ht, hZ⟩
  | succ d ih =>
    intro s hs
    rw [wp_L_isStep_L152_s]
    simp only
    rw [nI_1]
    have nx := ih (s + 1) (by omega)
    rw [tf_s] at nx
    refine br_f (nI_ge (b := 12) (by omega) (by omega)) ?_
    cases hb : tfA A n (nI v) s with
    | true =>
      rw [hb, Bool.true_or] at nx
      exact br_nt (by decide) nx
    | false =>
      rw [hb, Bool.false_or] at nx
      refine br_nf rfl ?_
      refine sp_step (k := 0) h (by omega) (by omega) ?_
      rw [st_0]
      unfold lfI
      by_cases hl : lndA A (nI s)
      · rw [if_pos hl]
        refine br_nf rfl ?_
        refine sp_step (k := 1) h (by omega) (by omega) ?_
        rw [show stA A n s 1 = nI (cntA A (nI s) n) from rfl]
        refine ⟨fun z => ?_, fun z => ?_⟩
        · rw [decide_eq_false (fun w => w.2 z)] at nx
          exact nx
        · rw [decide_eq_true ⟨hl, z⟩] at nx
          exact nx
      · rw [if_neg hl]
        rw [decide_eq_false (fun w => hl w.1)] at nx
        exact br_nt (by decide) nx
theorem st_86 {y z hol : Int32} (hh : hol = 0 ∨ hol = 1) (h1 : A 0 1 = 1) (hw : Wel A n (9720 * t) t) (ht : t ≤ T) (hZ : ZOk Z T) (h : Ob μ A n t Z 0 c) (h2 : Ob μ2 (dbl A) n t (dZ Z) 0 c2) (hK : ∀ ω ω2, Tn ω ω2 T → K 1 ω ω2) : wp_L_isStep_B86 y z hol K μ μ2 := by
  unfold wp_L_isStep_B86
  have pat : ∀ v : Nat, v ≤ 9 → wp_L_isStep_B124 0 (nI v) K μ μ2 := fun v hv => by
    unfold wp_L_isStep_B124
    refine br_t rfl ?_
    refine sp_count (k := 2) h (by omega) ?_
    exact ⟨13, st_152 (k := 2) (Or.inr ⟨rfl, hv⟩) (Or.inr ⟨rfl, rfl⟩) h1 hw ht hZ h h2 hK 12 0 (by omega)⟩
  rcases hh with rfl | rfl
  · refine br_t rfl ?_
    refine up_ok (m := 2) (by omega) (by omega) (fun r _ => ⟨fun _ => ?_, fun _ => ?_⟩)
    · exact up_ok (m := 3) (by omega) (by omega) (fun r hr => pat r (by omega))
    · exact up_ok (m := 10) (by omega) (by omega) (fun r hr => pat r (by omega))
  · refine br_f (by decide) ?_
    refine up_ok (m := 4) (by omega) (by omega) (fun r hr => ?_)
    rw [show (1 : Int32) + nI r = nI (1 + r) from nI_add 1 r]
    unfold wp_L_isStep_B124
    refine br_f (by decide) ?_
    refine sp_count (k := 0) h (by omega) ?_
    exact ⟨13, st_152 (k := 0) (Or.inl ⟨rfl, by omega, by omega⟩) (Or.inl ⟨rfl, rfl⟩) h1 hw ht hZ h h2 hK 12 0 (by omega)⟩
/-! landing -/
theorem lbN_le (L : Nat) : ∀ s, lbN L s ≤ s
  | 0 => Nat.le_refl 0
  | s + 1 => by
    have := lbN_le L s
    unfold lbN
    split <;> omega
theorem lf_bz (A : Mem) (s : Nat) : bz (lfI A s) := by
  unfold lfI
  split
  · exact Or.inr rfl
  · exact Or.inl rfl
theorem lf_flip {s Lm : Nat} (hs : s < 12) (hL : Lm < 4096) (eL : A 0 5 = nI Lm) {y : Int32} (hy : bz y) (hne : ¬ lfI A s = y) : lfI (up2 A 0 5 (nI (Lm ^^^ 2 ^ s))) s = y := by
  have hL2 : Lm ^^^ 2 ^ s < 4096 := Nat.xor_lt_two_pow (n := 12) hL (two12 hs)
  have hb1 := lnd_bit (L := Lm) (s := s) hL hs
  have hb2 := lnd_bit (L := Lm ^^^ 2 ^ s) (s := s) hL2 hs
  rw [Nat.testBit_xor, Nat.testBit_two_pow_self, Bool.xor_true] at hb2
  have e1 : lndA A (nI s) ↔ Lm.testBit s = true := by
    unfold lndA
    rw [eL]
    exact hb1
  have e2 : lndA (up2 A 0 5 (nI (Lm ^^^ 2 ^ s))) (nI s) ↔ (!Lm.testBit s) = true := by
    unfold lndA
    rw [up2_app, if_pos ⟨rfl, rfl⟩]
    exact hb2
  unfold lfI at hne ⊢
  cases hb : Lm.testBit s with
  | true =>
    rw [if_pos (e1.mpr hb)] at hne
    rw [if_neg (fun z => by have := e2.mp z; rw [hb] at this; cases this)]
    rcases hy with rfl | rfl
    · rfl
    · exact absurd rfl hne
  | false =>
    rw [if_neg (fun z => by have := e1.mp z; rw [hb] at this; cases this)] at hne
    rw [if_pos (e2.mpr (by rw [hb]; rfl))]
    rcases hy with rfl | rfl
    · exact absurd rfl hne
    · rfl
theorem st_312 {s : Nat} {y can : Int32} (hs : s < 12) (hy : bz y) (hc : can = if ¬ lfI A s = y ∧ cntA A (nI s) n ≤ 1 then 1 else 0) (h1 : A 0 1 = 1) (hw : Wel A n (9720 * t) t) (ht : t ≤ T) (hZ : ZOk Z T) (h : Ob μ A n t Z 0 c) (h2 : Ob μ2 (dbl A) n t (dZ Z) 0 c2) (hK : ∀ ω ω2, Tn ω ω2 T → K 1 ω ω2) : wp_L_isStep_B312 (nI s) y can K μ μ2 := by
  obtain ⟨-, -, -, Lm, hL, eL⟩ := h.2.1.2.2.2.1
  have eL2 : dbl A 0 5 = nI Lm := by rw [dbl_k A (by decide) (by decide)]; exact eL
  have elf : lfI (dbl A) s = lfI A s := by unfold lfI; simp only [dbl_lnd]
  unfold wp_L_isStep_B312
  refine sp_landing h hs hL eL (fun hne hc1 ω h' => ?_) (fun hbad => ?_)
  · refine sp_landing h2 hs hL eL2 (fun _ _ ω2 h2' => ?_) (fun hb2 => absurd hb2 (fun z => by
      rw [elf, dbl_cnt] at z
      exact z.elim hne (fun w => w hc1)))
    have hlb := lbN_le (Lm ^^^ 2 ^ s) 12
    refine br_nf rfl (br_f (nI_pos (by omega)) ?_)
    rw [hc, if_pos ⟨hne, hc1⟩]
    unfold wp_L_isStep_B347
    refine br_nf rfl (br_f (by decide) ?_)
    refine sp_step (k := 0) h' hs (by omega) ?_
    rw [st_0, lf_flip hs hL eL hy hne]
    rw [dbl_upn _ _ (by decide) (by decide)] at h2'
    have fin := hK ω ω2 ⟨_, n, t, Z, c, c2, h', h2', by rw [up2_app, if_neg (by decide)]; exact h1, wel_up0 hw, ht, hZ⟩
    rcases hy with rfl | rfl
    · exact br_nt (by decide) (br_nf rfl fin)
    · exact br_nf rfl (br_nf rfl fin)
  · refine sp_landing h2 hs hL eL2 (fun hne2 hc2 => ?_) (fun _ => ?_)
    · rw [elf] at hne2
      rw [dbl_cnt] at hc2
      exact absurd hbad (fun z => z.elim hne2 (fun w => w hc2))
    · refine br_nf rfl (br_t (by decide) ?_)
      rw [hc, if_neg (fun z => hbad.elim z.1 (fun w => w z.2))]
      unfold wp_L_isStep_B347
      exact br_nf rfl (br_t rfl (hK _ _ ⟨A, n, t, Z, c, c2, h, h2, h1, hw, ht, hZ⟩))
theorem st_291 {s : Nat} {y : Int32} (hs : s < 12) (hy : bz y) (h1 : A 0 1 = 1) (hw : Wel A n (9720 * t) t) (ht : t ≤ T) (hZ : ZOk Z T) (h : Ob μ A n t Z 0 c) (h2 : Ob μ2 (dbl A) n t (dZ Z) 0 c2) (hK : ∀ ω ω2, Tn ω ω2 T → K 1 ω ω2) : wp_L_isStep_B291 (nI s) y (lfI A s) K μ μ2 := by
  have hn := ob_n h
  have hcn := cnt_le (A := A) (s := nI s) n
  unfold wp_L_isStep_B291
  refine ⟨fun z => st_312 hs hy (by rw [if_neg (fun w => w.1 z)]) h1 hw ht hZ h h2 hK, fun z => ?_⟩
  refine sp_step (k := 1) h hs (by omega) ?_
  rw [show stA A n s 1 = nI (cntA A (nI s) n) from rfl]
  refine ⟨fun w => ?_, fun w => ?_⟩
  · have : ¬ cntA A (nI s) n ≤ 1 := fun q => nI_ge (a := cntA A (nI s) n) (b := 2) (by omega) (by omega) w
    exact st_312 hs hy (by rw [if_neg (fun q => this q.2)]) h1 hw ht hZ h h2 hK
  · have : cntA A (nI s) n ≤ 1 := Nat.not_lt.mp (fun q => w (nI_le (a := 2) (by omega) (by omega)))
    exact st_312 hs hy (by rw [if_pos ⟨z, this⟩]) h1 hw ht hZ h h2 hK
theorem st_land {s : Nat} {y : Int32} (hs : s < 12) (hy : bz y) (h1 : A 0 1 = 1) (hw : Wel A n (9720 * t) t) (ht : t ≤ T) (hZ : ZOk Z T) (h : Ob μ A n t Z 0 c) (h2 : Ob μ2 (dbl A) n t (dZ Z) 0 c2) (hK : ∀ ω ω2, Tn ω ω2 T → K 1 ω ω2) : wp_X4_step (nI s) 0 μ (fun r m => ((¬ r = 1 → wp_L_isStep_B291 (nI s) y 0 K m μ2) ∧ (r = 1 → wp_L_isStep_B291 (nI s) y 1 K m μ2))) := by
  have go := st_291 hs hy h1 hw ht hZ h h2 hK
  refine sp_step (k := 0) h hs (by omega) ?_
  rw [st_0]
  rcases lf_bz A s with e | e
  · rw [e] at go ⊢
    exact br_nt (by decide) go
  · rw [e] at go ⊢
    exact br_nf rfl go
/-! ticks -/
theorem tele (x a y : Int32) : (x - a) + (y - x) = y - a := by
  rw [Int32.sub_eq_add_neg, Int32.sub_eq_add_neg, Int32.sub_eq_add_neg, show x + -a + (y + -x) = (y + -a) + (x + -x) by ac_rfl, ← Int32.sub_eq_add_neg x x, Int32.sub_self, Int32.add_zero]
theorem add_sub' (a y : Int32) : a + (y - a) = y := by
  rw [Int32.sub_eq_add_neg, show a + (y + -a) = y + (a + -a) by ac_rfl, ← Int32.sub_eq_add_neg a a, Int32.sub_self, Int32.add_zero]
theorem st_609 {m : Nat} (hm1 : 1 ≤ m) (hm : m ≤ 99) (hT : T + 99 ≤ 9999) (h1 : A 0 1 = 1) (hw : Wel A n (9720 * t) t) (ht : t ≤ T) (hZ : ZOk Z T) (h : Ob μ A n t Z 0 c) (hK : ∀ ω ω2, Tn ω ω2 (T + 99) → K 1 ω ω2) : ∀ d j μ2, j + d = m → Ob μ2 (dbl (tkA A n j)) n (t + j) (dZ Z) 0 c2 → wp_L_isStep_L609 (nI m) (nI t) (nI (whoA A 2 n)) K (d + 1) (nI (whoA (tkA A n j) 2 n) - nI (whoA A 2 n)) (nI j) μ μ2 := by
  have hn := ob_n h
  intro d
  induction d with
  | zero =>
    intro j μ2 hj h2
    have : j = m := by omega
    subst this
    rw [wp_L_isStep_L609_s]
    simp only
    refine br_t (nI_le (Nat.le_refl _) (by omega)) ?_
    refine sp_pass h hm1 hm (by omega) (fun ω h' => br_nf rfl ?_)
    refine sp_count (k := 3) h' (by omega) ?_
    rw [show cnA (tkA A n j) n 3 = nI (t + j) from h'.2.1.2.2.1, nI_add]
    refine br_nf rfl ?_
    refine sp_count (k := 7) h' (by omega) ?_
    rw [add_sub', show cnA (tkA A n j) n 7 = nI (whoA (tkA A n j) 2 n) from rfl]
    refine br_nf rfl (hK _ _ ⟨_, n, t + j, Z, c, c2, h', h2, by rw [tk_0 (by decide) (by decide)]; exact h1, ?_, by omega, zok_mono (by omega) hZ⟩)
    have := wel_tk h.2.1 hw j
    exact wel_mono (by omega) (Nat.le_refl _) this
  | succ d ih =>
    intro j μ2 hj h2
    rw [wp_L_isStep_L609_s]
    simp only
    refine br_f (nI_ge (by omega) (by omega)) ?_
    refine sp_pass (m := 1) h2 (by omega) (by omega) (by omega) (fun ω2 h2' => ?_)
    have e1 : tkA (dbl (tkA A n j)) n 1 = dbl (tkA A n (j + 1)) := by
      rw [dbl_tk _ n (by rw [tk_0 (by decide) (by decide)]; exact h1)]
      rfl
    rw [e1] at h2' ⊢
    rw [dbl_who, dbl_who, tele, nI_1]
    exact ih (j + 1) ω2 (by omega) h2'
theorem st_582 {y : Int32} {m : Nat} (hm1 : 1 ≤ m) (hm : m ≤ 99) (hT : T + 99 ≤ 9999) (h1 : A 0 1 = 1) (hw : Wel A n (9720 * t) t) (ht : t ≤ T) (hZ : ZOk Z T) (h : Ob μ A n t Z 0 c) (h2 : Ob μ2 (dbl A) n t (dZ Z) 0 c2) (hK : ∀ ω ω2, Tn ω ω2 (T + 99) → K 1 ω ω2) : wp_L_isStep_B582 (nI m) y 1 K μ μ2 := by
  unfold wp_L_isStep_B582
  refine up_ok (by omega) (by omega) (fun r hr => ?_)
  refine sp_count (k := 3) h (by omega) ?_
  rw [show cnA A n 3 = nI t from h.2.1.2.2.1]
  refine sp_count (k := 7) h (by omega) ?_
  rw [show cnA A n 7 = nI (whoA A 2 n) from rfl, show (1 : Int32) + nI r = nI (1 + r) from nI_add 1 r]
  refine ⟨1 + r + 1, ?_⟩
  have := st_609 (m := 1 + r) (by omega) (by omega) hT h1 hw ht hZ h hK (1 + r) 0 μ2 (by omega) h2
  rw [show nI (whoA (tkA A n 0) 2 n) - nI (whoA A 2 n) = 0 from Int32.sub_self _] at this
  exact this
/-! turn -/
theorem st_turn {p : Nat} (hp : p ≤ n) (h1 : A 0 1 = 1) (hw : Wel A n (9720 * t) t) (ht : t ≤ T) (hZ : ZOk Z T) (h : Ob μ A n t Z 0 c) (h2 : Ob μ2 (dbl A) n t (dZ Z) 0 c2) (hK : ∀ ω ω2, Tn ω ω2 T → K 1 ω ω2) : wp_X4_person (nI p) 1 μ (fun r_116 m_117 => (wp_X4_person (nI p) 2 m_117 (fun r_118 m_119 => (wp_X4_turn (nI p) m_119 (fun r_120 m_121 => (wp_X4_turn (nI p) μ2 (fun r_122 m_123 => ((¬ r_120 = r_122 → K 0 m_121 m_123) ∧ (r_120 = r_122 → ((¬ nI p = nI n → ((r_118 = 1 → ((¬ r_120 = (1 - r_116) → K 0 m_121 m_123) ∧ (r_120 = (1 - r_116) → K 1 m_121 m_123))) ∧ (¬ r_118 = 1 → ((¬ r_120 = (-5) → K 0 m_121 m_123) ∧ (r_120 = (-5) → K 1 m_121 m_123))))) ∧ (nI p = nI n → ((¬ r_120 = (-1) → K 0 m_121 m_123) ∧ (r_120 = (-1) → K 1 m_121 m_123))))))))))))) := by
  have hn := ob_n h
  by_cases e : p = n
  · subst e
    have hx : nI p < 0 ∨ nI p ≤ nI p := Or.inr (nI_le (Nat.le_refl _) (by omega))
    refine sp_personX h hx (sp_personX h hx (sp_turnX h hx (sp_turnX h2 hx ?_)))
    exact br_nf rfl (br_nf rfl (br_nf rfl (hK _ _ ⟨A, p, t, Z, c, c2, h, h2, h1, hw, ht, hZ⟩)))
  · have hpn : p < n := by omega
    have hne : ¬ nI p = nI n := fun z => e ((nI_eq (by omega) (by omega)).mp z)
    refine sp_person (k := 1) h hpn (by omega) (sp_person (k := 2) h hpn (by omega) ?_)
    refine sp_turn h hpn (fun ha ω h' => ?_) (fun ha => ?_)
    · refine sp_turn h2 hpn (fun _ ω2 h2' => ?_) (fun hb => absurd (by rw [dbl_p _ (by decide)]; exact ha) hb)
      rw [dbl_p _ (by decide)] at h2' ⊢
      rw [dbl_upn _ _ (by decide) (by omega)] at h2'
      refine br_nf rfl (br_nt hne (br_t ha (br_nf rfl (hK _ _ ⟨_, n, t, Z, c, c2, h', h2', by rw [up2_app, if_neg (by omega)]; exact h1, wel_up1 hw, ht, hZ⟩))))
    · refine sp_turn h2 hpn (fun hb => absurd (by rw [dbl_p _ (by decide)] at hb; exact hb) ha) (fun _ => ?_)
      exact br_nf rfl (br_nt hne (br_f ha (br_nf rfl (hK _ _ ⟨A, n, t, Z, c, c2, h, h2, h1, hw, ht, hZ⟩))))
/-! save, restore -/
theorem dz_up (Z : Nat → Option (Mem × Nat × Nat)) (k : Nat) (A : Mem) (n t : Nat) : dZ (zUp Z k (A, n, t)) = zUp (dZ Z) k (dbl A, n, t) := by
  funext j
  unfold dZ zUp
  by_cases e : j = k
  · rw [if_pos e, if_pos e]; rfl
  · rw [if_neg e, if_neg e]
theorem st_save {k : Nat} (hk : k < 2) (h1 : A 0 1 = 1) (hw : Wel A n (9720 * t) t) (ht : t ≤ T) (hZ : ZOk Z T) (h : Ob μ A n t Z 0 c) (h2 : Ob μ2 (dbl A) n t (dZ Z) 0 c2) (hK : ∀ ω ω2, Tn ω ω2 T → K 1 ω ω2) {x : Int32} (hx : upF x 2 = k) : wp_X4_save (nI k) μ (fun r_154 m_155 => (wp_L_up x 2 m_155 (fun r_156 m_157 => (wp_X4_save r_156 μ2 (fun r_158 m_159 => ((¬ r_154 = r_158 → K 0 m_157 m_159) ∧ (r_154 = r_158 → K 1 m_157 m_159))))))) := by
  refine sp_save h hk (fun ω h' => up_f (m := 2) (by omega) (by omega) ?_)
  rw [hx]
  refine sp_save h2 hk (fun ω2 h2' => ?_)
  rw [dbl_k A (i := 0) (k := 3) (by decide) (by decide)]
  rw [← dz_up] at h2'
  refine br_nf rfl (hK _ _ ⟨A, n, t, _, c, c2, h', h2', h1, hw, ht, fun j hj B m u e => ?_⟩)
  unfold zUp at e
  by_cases ej : j = k
  · rw [if_pos ej] at e
    cases e
    exact ⟨h1, hw, ht⟩
  · rw [if_neg ej] at e
    exact hZ j hj B m u e
theorem st_restore {k : Nat} (hk : k < 2) (h1 : A 0 1 = 1) (hw : Wel A n (9720 * t) t) (ht : t ≤ T) (hZ : ZOk Z T) (h : Ob μ A n t Z 0 c) (h2 : Ob μ2 (dbl A) n t (dZ Z) 0 c2) (hK : ∀ ω ω2, Tn ω ω2 T → K 1 ω ω2) {x : Int32} (hx : upF x 2 = k) : wp_X4_restore (nI k) μ (fun r_145 m_146 => (wp_L_up x 2 m_146 (fun r_147 m_148 => (wp_X4_restore r_147 μ2 (fun r_149 m_150 => ((¬ r_145 = r_149 → K 0 m_148 m_150) ∧ (r_145 = r_149 → K 1 m_148 m_150))))))) := by
  refine sp_restore h hk (fun hz => ?_) (fun B m u hz ω h' => ?_)
  · refine up_f (m := 2) (by omega) (by omega) ?_
    rw [hx]
    have hz2 : dZ Z k = none := by unfold dZ; rw [hz]; rfl
    refine sp_restore h2 hk (fun _ => br_nf rfl (hK _ _ ⟨A, n, t, Z, c, c2, h, h2, h1, hw, ht, hZ⟩)) (fun B m u e => ?_)
    rw [hz2] at e
    cases e
  · refine up_f (m := 2) (by omega) (by omega) ?_
    rw [hx]
    have hz2 : dZ Z k = some (dbl B, m, u) := by unfold dZ; rw [hz]; rfl
    obtain ⟨b1, b2, b3⟩ := hZ k hk B m u hz
    refine sp_restore h2 hk (fun e => by rw [hz2] at e; cases e) (fun B2 m2 u2 e ω2 h2' => ?_)
    rw [hz2] at e
    cases e
    rw [dbl_k B (i := 0) (k := 3) (by decide) (by decide)]
    exact br_nf rfl (hK _ _ ⟨B, m, u, Z, c, c2, h', h2', b1, b2, b3, hZ⟩)
theorem ok_isStep {x y : Int32} (hT : T + 99 ≤ 9999) (hTn : Tn μ μ2 T) (hK : ∀ ω ω2, Tn ω ω2 (T + 99) → K 1 ω ω2) : wp_L_isStep x y μ μ2 K := by
  obtain ⟨A, n, t, Z, c, c2, h, h2, h1, hw, ht, hZ⟩ := hTn
  have hn := ob_n h
  have hK0 : ∀ ω ω2, Tn ω ω2 T → K 1 ω ω2 := fun ω ω2 z => hK ω ω2 (tn_mono (by omega) z)
  unfold wp_L_isStep
  refine sp_count (k := 4) h (by omega) ?_
  rw [show cnA A n 4 = nI n from rfl]
  refine up_ok (m := 16) (by omega) (by omega) (fun r hr => ?_)
  rw [nI_toInt (by omega)]
  have come : ∀ q : Nat, q < 9 → ∀ v : Int32, bz v → wp_L_isStep_B714 (nI n) (1 + nI q) v K μ μ2 := fun q hq v hv => by
    rw [show (1 : Int32) + nI q = nI (1 + q) from nI_add 1 q]
    exact st_714 hv (by omega) (by omega) h1 hw ht hZ h h2 hK0
  have tick : wp_L_up (x >>> (4 &&& 31)) 8 μ (fun r_162 m_163 => ((¬ r_162 = 0 → wp_L_isStep_B582 6 y 1 K m_163 μ2) ∧ (r_162 = 0 → wp_L_isStep_B582 99 y 1 K m_163 μ2))) :=
    up_ok (m := 8) (by omega) (by omega) (fun _ _ => ⟨fun _ => st_582 (m := 6) (by omega) (by omega) hT h1 hw ht hZ h h2 hK, fun _ => st_582 (m := 99) (by omega) (by omega) hT h1 hw ht hZ h h2 hK⟩)
  refine ⟨fun _ => ?_, fun _ => ?_, fun _ => ?_, fun _ => ?_, fun _ => ?_, fun _ => ?_, fun _ => tick, fun _ => tick, fun _ => tick, fun _ => tick, fun _ => tick⟩
  · refine up_ok (m := 2) (by omega) (by omega) (fun _ _ => ⟨fun _ => ?_, fun _ => ?_⟩)
    · refine up_ok (m := 3) (by omega) (by omega) (fun q hq => up_ok (m := 2) (by omega) (by omega) (fun _ _ => ⟨fun _ => come q (by omega) 0 (Or.inl rfl), fun _ => come q (by omega) 1 (Or.inr rfl)⟩))
    · refine up_ok (m := 9) (by omega) (by omega) (fun q hq => up_ok (m := 2) (by omega) (by omega) (fun _ _ => ⟨fun _ => come q (by omega) 0 (Or.inl rfl), fun _ => come q (by omega) 1 (Or.inr rfl)⟩))
  · exact up_ok (m := 2) (by omega) (by omega) (fun _ _ => ⟨fun _ => st_86 (Or.inl rfl) h1 hw ht hZ h h2 hK0, fun _ => st_86 (Or.inr rfl) h1 hw ht hZ h h2 hK0⟩)
  · exact up_ok (m := 12) (by omega) (by omega) (fun s hs => up_ok (m := 2) (by omega) (by omega) (fun _ _ => ⟨fun _ => st_land hs (Or.inl rfl) h1 hw ht hZ h h2 hK0, fun _ => st_land hs (Or.inr rfl) h1 hw ht hZ h h2 hK0⟩))
  · rw [nI_1]
    exact up_ok (m := n + 1) (by omega) (by omega) (fun p hp => st_turn (by omega) h1 hw ht hZ h h2 hK0)
  · refine sp_count14 (fun q => ⟨fun _ => hK0 _ _ ⟨A, n, t, Z, c, c2, h, h2, h1, hw, ht, hZ⟩, fun _ => ?_⟩)
    refine sp_untilEmpty h (fun ω h => sp_untilEmpty h2 (fun ω2 h2 => ?_))
    rw [dbl_ue A n h1]
    exact br_nf rfl (hK0 _ _ ⟨A, n, t, Z, c, c2, h, h2, h1, hw, ht, hZ⟩)
  · refine up_ok (m := 2) (by omega) (by omega) (fun _ _ => ⟨fun _ => ?_, fun _ => ?_⟩)
    · exact up_f (m := 2) (by omega) (by omega) (st_restore (upF_lt (by omega)) h1 hw ht hZ h h2 hK0 rfl)
    · exact up_f (m := 2) (by omega) (by omega) (st_save (upF_lt (by omega)) h1 hw ht hZ h h2 hK0 rfl)
end ST

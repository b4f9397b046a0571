/-! WHAT HOLDS BETWEEN CALLS, and the calls that change little -/
def SlotI (μ : Mem) : Prop := ∀ k, k < 2 → (μ 228 k = 0 ∨ μ 228 k = 1) ∧ μ 292 k = μ 228 k ∧ (μ 228 k = 1 → RelSt (getS (231 + 28 * k) μ) (fun j => μ 291 (225 * k + j)))
def PadI (μ : Mem) : Prop := ∃ L, L ≤ 60 ∧ μ 229 1 = nI L ∧ μ 287 8 = nI L ∧ ∀ i, i < L → μ 294 i = μ 230 i
def HistI (μ : Mem) : Prop := ∃ g, g ≤ 6 ∧ μ 287 3 = nI g ∧ HistC μ g (hisR μ)
def Inv (μ : Mem) : Prop := RelSt (getS 1 μ) (μ 288) ∧ HistI μ ∧ SlotI μ ∧ PadI μ
abbrev Fin2 (r : Int32) : Int32 → Mem → Prop := fun r2 μ2 => r = r2 ∧ Inv μ2
/-- the reference's part is as it was -/
def HI (ν μ : Mem) : Prop := ∀ a, 287 ≤ a → ν a = μ a
/-- the class's part is as it was -/
def LO (ν μ : Mem) : Prop := ∀ a, a < 287 → ν a = μ a
theorem now_fr {μ ν : Mem} (h : ∀ a, 1 ≤ a → a < 29 → ν a = μ a) (h2 : ∀ j, j < 225 → ν 288 j = μ 288 j) (hN : RelSt (getS 1 μ) (μ 288)) : RelSt (getS 1 ν) (ν 288) := relst_cg h2 (relst_S (getS_eq (fun a h1 h3 => h a h1 (by omega))) hN)
theorem histI_fr {μ ν : Mem} (h : ∀ a, 57 ≤ a → a < 227 → ν a = μ a) (h3 : ν 287 3 = μ 287 3) (h0 : ν 290 = μ 290) (hH : HistI μ) : HistI ν := by
  obtain ⟨g, hg, e, hC⟩ := hH
  refine ⟨g, hg, by rw [h3, e], hist_fr h ?_⟩
  unfold hisR
  rw [h0]
  exact hC
theorem slot_fr {μ ν : Mem} (h : ∀ a, 231 ≤ a → a < 287 → ν a = μ a) (h8 : ν 228 = μ 228) (h2 : ν 292 = μ 292) (h1 : ν 291 = μ 291) (hS : SlotI μ) : SlotI ν := by
  intro k hk
  obtain ⟨a, b, c⟩ := hS k hk
  rw [h8, h2]
  refine ⟨a, b, fun z => ?_⟩
  rw [h1]
  exact relst_S (getS_eq (fun q q1 q2 => h q (by omega) (by omega))) (c z)
theorem pad_fr {μ ν : Mem} (h9 : ν 229 1 = μ 229 1) (h0 : ν 230 = μ 230) (h8 : ν 287 8 = μ 287 8) (h4 : ν 294 = μ 294) (hP : PadI μ) : PadI ν := by
  obtain ⟨L, a, b, c, d⟩ := hP
  exact ⟨L, a, by rw [h9, b], by rw [h8, c], fun i hi => by rw [h4, h0]; exact d i hi⟩
theorem inv_fr {μ ν : Mem} (h1 : ∀ a, 1 ≤ a → a < 29 → ν a = μ a) (h2 : ∀ a, 57 ≤ a → a < 287 → ν a = μ a) (h3 : ∀ j, j < 225 → ν 288 j = μ 288 j) (h4 : ν 287 = μ 287) (h5 : ∀ a, 290 ≤ a → a ≠ 293 → ν a = μ a) (hI : Inv μ) : Inv ν :=
  ⟨now_fr h1 h3 hI.1, histI_fr (fun a x y => h2 a (by omega) (by omega)) (by rw [h4]) (h5 290 (by omega) (by omega)) hI.2.1, slot_fr (fun a x y => h2 a (by omega) (by omega)) (h2 228 (by omega) (by omega)) (h5 292 (by omega) (by omega)) (h5 291 (by omega) (by omega)) hI.2.2.1, pad_fr (by rw [h2 229 (by omega) (by omega)]) (h2 230 (by omega) (by omega)) (by rw [h4]) (h5 294 (by omega) (by omega)) hI.2.2.2⟩
theorem at_b {b : Nat} {μ : Mem} {P : Mem → Prop} (h : P (putS b (getS b μ) μ)) : P μ := by rwa [putS_get] at h
theorem at_A {μ : Mem} {P : Mem → Prop} (h : P (conA (absA μ) μ)) : P μ := by rwa [conA_abs] at h
theorem abs_aR (μ : Mem) {i k : Nat} (hk : k < 9) : absA μ i k = aR (μ 288) i k := by
  unfold absA
  rw [if_neg (by omega), aR_k _ hk]
theorem now_abs {μ : Mem} (h : RelSt (getS 1 μ) (μ 288)) : ∃ n t, t ≤ 9999 ∧ InvA (absA μ) n t ∧ RelC (getS 1 μ) (absA μ) n := by
  obtain ⟨n, t, ht, hI, hR⟩ := h
  exact ⟨n, t, ht, inv_cg (fun i k _ hk => abs_aR μ hk) hI, relA_cg (fun i k _ hk => abs_aR μ hk) hR⟩
theorem of_abs {S A : Mem} {n t : Nat} (ht : t ≤ 9999) (hI : InvA A n t) (hR : RelC S A n) : RelSt S (rowA A) := by
  have hk : ∀ i k, i ≤ 24 → k < 9 → aR (rowA A) i k = A i k := fun i k _ hk => by rw [aR_k _ hk, rowA_at _ _ _ hk]
  exact ⟨n, t, ht, inv_cg hk hI, relA_cg hk hR⟩
theorem row_abs (μ : Mem) : rowA (absA μ) = μ 288 := by
  have := congrFun (conA_abs μ) 288
  rwa [conA_288] at this
theorem lo_inv (μ : Mem) : LO μ μ := fun _ _ => rfl
theorem hi_inv (μ : Mem) : HI μ μ := fun _ _ => rfl
/-! wipe, fault, put -/
theorem op_wipe {μ : Mem} (hI : Inv μ) : wp_X4_wipe μ (fun r μ1 => wp_X5_wipe μ1 (Fin2 r)) := by
  obtain ⟨L, hL, h9, h8, hc⟩ := hI.2.2.2
  unfold wp_X4_wipe wp_X5_wipe
  refine nm_e (nm_e ⟨?_, ?_⟩)
  · rw [up2_ne _ _ _ _ (by decide), h9, h8]
  · refine ⟨now_fr (fun a x y => ?_) (fun j _ => ?_) hI.1, histI_fr (fun a x y => ?_) ?_ ?_ hI.2.1, slot_fr (fun a x y => ?_) ?_ ?_ ?_ hI.2.2.1, ⟨0, by omega, ?_, ?_, fun i hi => by omega⟩⟩
    · rw [up2_ne _ _ _ _ (by omega), up2_ne _ _ _ _ (by omega)]
    · rw [up2_ne _ _ _ _ (by omega), up2_ne _ _ _ _ (by omega)]
    · rw [up2_ne _ _ _ _ (by omega), up2_ne _ _ _ _ (by omega)]
    · rw [up2_app, if_neg (by omega), up2_ne _ _ _ _ (by omega)]
    · rw [up2_ne _ _ _ _ (by omega), up2_ne _ _ _ _ (by omega)]
    · rw [up2_ne _ _ _ _ (by omega), up2_ne _ _ _ _ (by omega)]
    · rw [up2_ne _ _ _ _ (by omega), up2_ne _ _ _ _ (by omega)]
    · rw [up2_ne _ _ _ _ (by omega), up2_ne _ _ _ _ (by omega)]
    · rw [up2_ne _ _ _ _ (by omega), up2_ne _ _ _ _ (by omega)]
    · rw [up2_ne _ _ _ _ (by omega), up2_app, if_pos ⟨rfl, rfl⟩]; rfl
    · rw [up2_app, if_pos ⟨rfl, rfl⟩]; rfl
theorem ok_same {μ : Mem} {L : Nat} (hc : ∀ i, i < L → μ 294 i = μ 230 i) {k : Nat} (hk : k < L) : okC (μ 294) k ↔ okC (μ 230) k := by
  unfold okC
  rw [hc k hk]
/-- both find the same fault -/
theorem fault_both {L : Nat} {μ ν : Mem} {K1 : Int32 → Mem → Prop} (hL : L ≤ 60) (h9 : μ 229 1 = nI L) (h8 : μ 287 8 = nI L) (hc : ∀ i, i < L → μ 294 i = μ 230 i) (h : ∀ r, (∀ K : Int32 → Mem → Prop, K r μ → wp_X5_fault μ K) → (r = -6 → (∀ k, k < L → okC (μ 230) k) ∧ L % 2 = 0 ∧ 0 < L) → K1 r μ) : wp_X1_firstFault μ K1 := by
  refine c_fault hL h9 (fun i hi hno hbef => ?_) (fun hall => ?_)
  · refine h _ (fun K hK => ?_) (fun z => absurd z ?_)
    · refine m_fault hL h8 (fun j hj hno2 hbef2 => ?_) (fun hall => absurd ((ok_same hc hi).mp (hall i hi)) hno)
      have : j = i := by
        rcases Nat.lt_trichotomy i j with q | q | q
        · exact absurd ((ok_same hc hi).mp (hbef2 i q)) hno
        · exact q.symm
        · exact absurd ((ok_same hc hj).mpr (hbef j q)) hno2
      rw [this]
      exact hK
    · intro e
      have h1 : (nI i).toInt = (-6 : Int32).toInt := by rw [e]
      rw [nI_toInt (by omega)] at h1
      have h2 : (-6 : Int32).toInt = -6 := by decide
      omega
  · refine h _ (fun K hK => ?_) (fun z => ⟨hall, ?_⟩)
    · exact m_fault hL h8 (fun j hj hno2 hbef2 => absurd ((ok_same hc hj).mpr (hall j hj)) hno2) (fun _ => hK)
    · unfold ffE at z
      by_cases e : L % 2 = 0 ∧ 0 < L
      · exact e
      · rw [if_neg e] at z
        have h1 : (nI L).toInt = (-6 : Int32).toInt := by rw [z]
        rw [nI_toInt (by omega)] at h1
        have h2 : (-6 : Int32).toInt = -6 := by decide
        omega
theorem op_fault {μ : Mem} (hI : Inv μ) : wp_X4_fault μ (fun r μ1 => wp_X5_fault μ1 (Fin2 r)) := by
  obtain ⟨L, hL, h9, h8, hc⟩ := hI.2.2.2
  unfold wp_X4_fault
  exact fault_both (ν := μ) hL h9 h8 hc (fun r hr _ => hr _ ⟨rfl, hI⟩)
theorem op_put {μ : Mem} {x : Int64} (hI : Inv μ) : wp_X4_put x μ (fun r μ1 => wp_X5_put x μ1 (Fin2 r)) := by
  obtain ⟨L, hL, h9, h8, hc⟩ := hI.2.2.2
  obtain ⟨N, hN, c1, c2⟩ := chars_both x
  unfold wp_X4_put
  refine c_append hN c1 hL h9 (fun e => ?_) (fun e1 e2 => ?_) (fun e1 e2 ν a1 a0 a2 a3 a4 => ?_)
  · exact m_put hN c2 hL h8 (fun _ => ⟨rfl, hI⟩) (fun z => by omega) (fun z => by omega)
  · exact m_put hN c2 hL h8 (fun z => by omega) (fun _ _ => ⟨rfl, hI⟩) (fun _ z => by omega)
  · refine m_put (L := L) hN c2 hL (by rw [a1 287 (by decide) (by decide), h8]) (fun z => by omega) (fun _ z => by omega) (fun _ _ ρ b1 b2 b3 b4 b5 => ⟨rfl, ?_⟩)
    refine ⟨now_fr (fun a x y => ?_) (fun j _ => ?_) hI.1, histI_fr (fun a x y => ?_) ?_ ?_ hI.2.1, slot_fr (fun a x y => ?_) ?_ ?_ ?_ hI.2.2.1, ⟨L + N, e2, ?_, b3, fun i hi => ?_⟩⟩
    · rw [b1 a (by omega) (by omega), a1 a (by omega) (by omega)]
    · rw [b1 288 (by omega) (by omega), a1 288 (by omega) (by omega)]
    · rw [b1 a (by omega) (by omega), a1 a (by omega) (by omega)]
    · rw [b2 3 (by omega), a1 287 (by omega) (by omega)]
    · rw [b1 290 (by omega) (by omega), a1 290 (by omega) (by omega)]
    · rw [b1 a (by omega) (by omega), a1 a (by omega) (by omega)]
    · rw [b1 228 (by omega) (by omega), a1 228 (by omega) (by omega)]
    · rw [b1 292 (by omega) (by omega), a1 292 (by omega) (by omega)]
    · rw [b1 291 (by omega) (by omega), a1 291 (by omega) (by omega)]
    · rw [b1 229 (by omega) (by omega), a2]
    · rw [b1 230 (by omega) (by omega)]
      by_cases e : i < L
      · rw [b4 i e, a3 i e, a1 294 (by omega) (by omega)]
        exact hc i e
      · have := b5 (i - L) (by omega)
        have h2 := a4 (i - L) (by omega)
        rw [show L + (i - L) = i by omega] at this h2
        rw [this, h2]
/-! person, step, count: nothing changes -/
theorem op_person {μ : Mem} {x y : Int32} (hI : Inv μ) : wp_X4_person x y μ (fun r μ1 => wp_X5_person x y μ1 (Fin2 r)) := by
  obtain ⟨n, t, ht, hA, hR⟩ := now_abs hI.1
  have hn := hR.1
  have h4 : μ 288 4 = nI n := by
    have := hA.2.1
    rw [abs_aR μ (by decide), aR_k _ (by decide)] at this
    exact this
  have h14 : μ 1 4 = nI n := hR.2.2.1
  unfold wp_X4_person
  refine c_isPerson hn h14 (fun p hp e => br_nt (by decide) ⟨?_, ?_⟩) (fun z => br_nf rfl ?_)
  · subst e; exact vp_in_nI (by omega) (by omega)
  · subst e
    rw [nI_clamp (by omega)]
    have hrel : RelP (μ (3 + 2 + p)) (absA μ (p + 1)) := by
      have := hR.2.2.2.2.2.2.2 p hp
      unfold getS at this
      rw [show 3 + 2 + p = 1 + (4 + p) by omega]
      exact this
    refine c_tell hrel (hA.2.2.2.2.1 p hp) (fun k hk e => ?_) (fun z => ?_)
    · unfold wp_X5_person
      refine m_isPerson hn h4 (fun q hq e2 => br_nt (by decide) ?_) (fun z => ?_)
      · refine m_in (lo := 0) (hi := 8) rfl rfl (fun _ => br_f (by decide) ?_) (fun z => ?_)
        · refine at_A (P := fun ν => wp_X5_get (nI p) y ν _) ?_
          refine m_get (p := p) (k := k) (by omega) hk rfl e ?_
          rw [conA_abs]
          exact ⟨rfl, hI⟩
        · subst e
          rcases z with z | z
          · exact absurd z (nI_pos (by omega))
          · exact absurd z (nI_nlt (a := 8) (by omega) (by omega))
      · rcases z with z | z
        · exact absurd z (nI_pos (by omega))
        · exact absurd z (nI_ge hp (by omega))
    · unfold wp_X5_person
      refine m_isPerson hn h4 (fun q hq e2 => br_nt (by decide) ?_) (fun z2 => ?_)
      · exact m_in (lo := 0) (hi := 8) rfl rfl (fun q => absurd z (fun w => w.elim q.1 q.2)) (fun _ => br_t rfl ⟨rfl, hI⟩)
      · rcases z2 with z2 | z2
        · exact absurd z2 (nI_pos (by omega))
        · exact absurd z2 (nI_ge hp (by omega))
  · unfold wp_X5_person
    refine m_isPerson hn h4 (fun q hq e2 => ?_) (fun _ => br_nf rfl ⟨rfl, hI⟩)
    subst e2
    rcases z with z | z
    · exact absurd z (nI_pos (by omega))
    · exact absurd z (nI_ge hq (by omega))
theorem op_step {μ : Mem} {x y : Int32} (hI : Inv μ) : wp_X4_step x y μ (fun r μ1 => wp_X5_step x y μ1 (Fin2 r)) := by
  obtain ⟨n, t, ht, hA, hR⟩ := now_abs hI.1
  have hn := hR.1
  have h4 := hA.2.1
  unfold wp_X4_step
  refine c_isStep (fun q => br_nt (by decide) ?_) (fun q => br_nf rfl ?_)
  · refine ⟨fun z => ?_, fun z => ?_, fun z => ?_, fun z => ?_, fun z => ?_⟩
    · unfold wp_X5_step
      exact m_isStep (fun _ => br_nt (by decide) ⟨fun _ => ⟨rfl, hI⟩, fun z2 => by omega, fun z2 => by omega, fun z2 => by omega, fun z2 => by omega⟩) (fun z2 => absurd q z2)
    · refine at_b (b := 1) (P := fun ν => wp_X3_isLanding 1 x ν _) ?_
      refine c_isLanding (A := absA μ) hR.2.2.2.1 (fun hl => br_f (by decide) ?_) (fun hl => br_t rfl ?_)
      · rw [putS_get]
        unfold wp_X5_step
        refine m_isStep (fun _ => br_nt (by decide) ⟨fun z2 => by omega, fun _ => ?_, fun z2 => by omega, fun z2 => by omega, fun z2 => by omega⟩) (fun z2 => absurd q z2)
        refine at_A (P := fun ν => wp_X5_isLanding x ν _) ?_
        exact m_isLanding (fun _ => br_f (by decide) (by rw [conA_abs]; exact ⟨rfl, hI⟩)) (fun z2 => absurd hl z2)
      · rw [putS_get]
        unfold wp_X5_step
        refine m_isStep (fun _ => br_nt (by decide) ⟨fun z2 => by omega, fun _ => ?_, fun z2 => by omega, fun z2 => by omega, fun z2 => by omega⟩) (fun z2 => absurd q z2)
        refine at_A (P := fun ν => wp_X5_isLanding x ν _) ?_
        exact m_isLanding (fun z2 => absurd z2 hl) (fun _ => br_t rfl (by rw [conA_abs]; exact ⟨rfl, hI⟩))
    · refine at_b (b := 1) (P := fun ν => wp_X3_crowdOn 1 x ν _) ?_
      refine c_crowdOn hR q ?_
      rw [putS_get]
      unfold wp_X5_step
      refine m_isStep (fun _ => br_nt (by decide) ⟨fun z2 => by omega, fun z2 => by omega, fun _ => ?_, fun z2 => by omega, fun z2 => by omega⟩) (fun z2 => absurd q z2)
      refine at_A (P := fun ν => wp_X5_peopleAt x ν _) ?_
      exact m_peopleAt hn h4 (by rw [conA_abs]; exact ⟨rfl, hI⟩)
    · refine at_b (b := 1) (P := fun ν => wp_X3_roomOn 1 x ν _) ?_
      refine c_roomOn hR q ?_
      rw [putS_get]
      unfold wp_X5_step
      refine m_isStep (fun _ => br_nt (by decide) ⟨fun z2 => by omega, fun z2 => by omega, fun z2 => by omega, fun _ => ?_, fun z2 => by omega⟩) (fun z2 => absurd q z2)
      refine at_A (P := fun ν => wp_X5_roomAt x ν _) ?_
      exact m_roomAt hn h4 (by rw [conA_abs]; exact ⟨rfl, hI⟩)
    · refine at_b (b := 1) (P := fun ν => wp_X3_highestOn 1 x ν _) ?_
      refine c_highestOn hR hA.2.2.2.2.1 ?_
      rw [putS_get]
      unfold wp_X5_step
      refine m_isStep (fun _ => br_nt (by decide) ⟨fun z2 => by omega, fun z2 => by omega, fun z2 => by omega, fun z2 => by omega, fun _ => ?_⟩) (fun z2 => absurd q z2)
      refine at_A (P := fun ν => wp_X5_highestAt x ν _) ?_
      exact m_highestAt hn h4 (by rw [conA_abs]; exact ⟨rfl, hI⟩)
  · unfold wp_X5_step
    exact m_isStep (fun z => absurd z q) (fun _ => br_nf rfl ⟨rfl, hI⟩)
theorem c_who1 {n : Nat} {w : Int32} {μ A : Mem} {K : Int32 → Mem → Prop} (hR : RelC (getS 1 μ) A n) (h : K (nI (whoA A w n)) μ) : wp_X3_peopleWho 1 w μ K := by
  refine at_b (b := 1) (P := fun ν => wp_X3_peopleWho 1 w ν K) (c_peopleWho hR ?_)
  rw [putS_get]
  exact h
theorem c_sum1 {n k : Nat} {w : Int32} {μ A : Mem} {K : Int32 → Mem → Prop} (hk : k < 9) (hw : w = nI k) (hR : RelC (getS 1 μ) A n) (hO : OkA A n) (h : K (sumA A k n) μ) : wp_X3_sumOf 1 w μ K := by
  refine at_b (b := 1) (P := fun ν => wp_X3_sumOf 1 w ν K) (c_sumOf hk hw hR hO ?_)
  rw [putS_get]
  exact h
theorem m_who1 {n : Nat} {w : Int32} {μ : Mem} {K : Int32 → Mem → Prop} (hn : n ≤ 24) (h4 : absA μ 0 4 = nI n) (h : K (nI (whoA (absA μ) w n)) μ) : wp_X5_thatAre w μ K := by
  refine at_A (P := fun ν => wp_X5_thatAre w ν K) (m_thatAre hn h4 ?_)
  rw [conA_abs]
  exact h
theorem abs_0 (μ : Mem) {k : Nat} (hk : k < 9) : absA μ 0 k = μ 288 k := by
  unfold absA
  rw [if_neg (by omega), Nat.mul_zero, Nat.zero_add]
theorem m_cnt {μ : Mem} {x : Int32} {k : Nat} {K : Int32 → Mem → Prop} (hk : k < 225) (e : x = nI k) (h : K (μ 288 k) μ) : vp_in x 225 ∧ K (μ 288 x.toNatClampNeg) μ := by
  subst e
  rw [nI_clamp (by omega)]
  exact ⟨vp_in_nI hk (by omega), h⟩
theorem op_count {μ : Mem} {x : Int32} (hI : Inv μ) : wp_X4_count x μ (fun r μ1 => wp_X5_count x μ1 (Fin2 r)) := by
  obtain ⟨n, t, ht, hA, hR⟩ := now_abs hI.1
  obtain ⟨L, hL, h9, h8, hc⟩ := hI.2.2.2
  obtain ⟨g, hg, h73, hH⟩ := hI.2.1
  have h57 : μ 57 1 = nI g := by obtain ⟨π, -, h57, -⟩ := hH; exact h57
  have hn := hR.1
  have h4 := hA.2.1
  have hO := hA.2.2.2.2.1
  obtain ⟨t6, t7, t8⟩ := hA.2.2.2.2.2.2.1
  obtain ⟨-, -, s4, s3, s5, rs, -, -⟩ := id hR
  have xk : ∀ k : Nat, k < 20 → x.toInt = k → x = nI k := fun k hk e => Int32.toInt_inj.mp (by rw [e, nI_toInt (by omega)])
  unfold wp_X4_count wp_X4_isSetting
  have neg : (x < 0 ∨ 2 < x) → wp_X5_in x.toInt64 0 2 μ (fun r_3 m_2 => ((r_3 = 0 → Fin2 (-2) (-2) m_2) ∧ (¬ r_3 = 0 → (vp_in x 225 ∧ Fin2 (-2) (m_2 288 x.toNatClampNeg) m_2)))) := fun z => m_in (lo := 0) (hi := 2) rfl rfl (fun q => absurd z (fun w => w.elim q.1 q.2)) (fun _ => br_t rfl ⟨rfl, hI⟩)
  have big : (x < 0 ∨ 2 < x) → ((x.toInt < 3 ∨ 14 < x.toInt) → (wp_X5_count x μ (Fin2 (-2)))) := fun z zz => by
    unfold wp_X5_count
    exact ⟨fun _ => neg z, fun z2 => by omega, fun z2 => by omega, fun z2 => by omega, fun z2 => by omega, fun z2 => by omega, fun z2 => by omega, fun z2 => by omega, fun z2 => by omega, fun z2 => by omega, fun z2 => by omega, fun z2 => by omega, fun z2 => by omega⟩
  have rest : (x < 0 ∨ 2 < x) → (((x.toInt < 3 ∨ 14 < x.toInt) → wp_X5_count x μ (Fin2 (-2))) ∧ (x.toInt = 3 → wp_X5_count x μ (Fin2 (μ 1 5))) ∧ (x.toInt = 4 → wp_X5_count x μ (Fin2 (μ 1 4))) ∧ (x.toInt = 5 → (wp_X3_peopleWho 1 0 μ (fun r m => wp_X5_count x m (Fin2 r)))) ∧ (x.toInt = 6 → (wp_X3_peopleWho 1 1 μ (fun r m => wp_X5_count x m (Fin2 r)))) ∧ (x.toInt = 7 → (wp_X3_peopleWho 1 2 μ (fun r m => wp_X5_count x m (Fin2 r)))) ∧ (x.toInt = 8 → (wp_X3_peopleWho 1 3 μ (fun r m => wp_X5_count x m (Fin2 r)))) ∧ (x.toInt = 9 → wp_X5_count x μ (Fin2 (μ 1 3))) ∧ (x.toInt = 10 → (wp_X3_sumOf 1 6 μ (fun r m => wp_X5_count x m (Fin2 r)))) ∧ (x.toInt = 11 → (wp_X3_sumOf 1 5 μ (fun r m => wp_X5_count x m (Fin2 r)))) ∧ (x.toInt = 12 → (wp_X3_sumOf 1 4 μ (fun r m => wp_X5_count x m (Fin2 r)))) ∧ (x.toInt = 13 → wp_X5_count x μ (Fin2 (μ 229 1))) ∧ (x.toInt = 14 → wp_X5_count x μ (Fin2 (μ 57 1)))) := by
    intro z
    refine ⟨big z, fun c => ?_, fun c => ?_, fun c => ?_, fun c => ?_, fun c => ?_, fun c => ?_, fun c => ?_, fun c => ?_, fun c => ?_, fun c => ?_, fun c => ?_, fun c => ?_⟩
    · unfold wp_X5_count
      refine ⟨fun z2 => by omega, fun _ => m_cnt (k := 3) (by omega) (xk 3 (by omega) c) ⟨?_, hI⟩, fun z2 => by omega, fun z2 => by omega, fun z2 => by omega, fun z2 => by omega, fun z2 => by omega, fun z2 => by omega, fun z2 => by omega, fun z2 => by omega, fun z2 => by omega, fun z2 => by omega, fun z2 => by omega⟩
      rw [← abs_0 μ (by omega)]
      exact s5
    · unfold wp_X5_count
      refine ⟨fun z2 => by omega, fun z2 => by omega, fun _ => m_cnt (k := 4) (by omega) (xk 4 (by omega) c) ⟨?_, hI⟩, fun z2 => by omega, fun z2 => by omega, fun z2 => by omega, fun z2 => by omega, fun z2 => by omega, fun z2 => by omega, fun z2 => by omega, fun z2 => by omega, fun z2 => by omega, fun z2 => by omega⟩
      rw [← abs_0 μ (by omega), h4]
      exact s4
    · refine c_who1 hR ?_
      unfold wp_X5_count
      refine ⟨fun z2 => by omega, fun z2 => by omega, fun z2 => by omega, fun _ => ?_, fun z2 => by omega, fun z2 => by omega, fun z2 => by omega, fun z2 => by omega, fun z2 => by omega, fun z2 => by omega, fun z2 => by omega, fun z2 => by omega, fun z2 => by omega⟩
      rw [xk 5 (by omega) c]
      exact m_who1 hn h4 ⟨rfl, hI⟩
    · refine c_who1 hR ?_
      unfold wp_X5_count
      refine ⟨fun z2 => by omega, fun z2 => by omega, fun z2 => by omega, fun z2 => by omega, fun _ => ?_, fun z2 => by omega, fun z2 => by omega, fun z2 => by omega, fun z2 => by omega, fun z2 => by omega, fun z2 => by omega, fun z2 => by omega, fun z2 => by omega⟩
      rw [xk 6 (by omega) c]
      exact m_who1 hn h4 ⟨rfl, hI⟩
    · refine c_who1 hR ?_
      unfold wp_X5_count
      refine ⟨fun z2 => by omega, fun z2 => by omega, fun z2 => by omega, fun z2 => by omega, fun z2 => by omega, fun _ => ?_, fun z2 => by omega, fun z2 => by omega, fun z2 => by omega, fun z2 => by omega, fun z2 => by omega, fun z2 => by omega, fun z2 => by omega⟩
      rw [xk 7 (by omega) c]
      exact m_who1 hn h4 ⟨rfl, hI⟩
    · refine c_who1 hR ?_
      unfold wp_X5_count
      refine ⟨fun z2 => by omega, fun z2 => by omega, fun z2 => by omega, fun z2 => by omega, fun z2 => by omega, fun z2 => by omega, fun _ => ?_, fun z2 => by omega, fun z2 => by omega, fun z2 => by omega, fun z2 => by omega, fun z2 => by omega, fun z2 => by omega⟩
      rw [xk 8 (by omega) c]
      exact m_who1 hn h4 ⟨rfl, hI⟩
    · unfold wp_X5_count
      refine ⟨fun z2 => by omega, fun z2 => by omega, fun z2 => by omega, fun z2 => by omega, fun z2 => by omega, fun z2 => by omega, fun z2 => by omega, fun _ => m_cnt (k := 5) (by omega) (by rw [xk 9 (by omega) c]; rfl) ⟨?_, hI⟩, fun z2 => by omega, fun z2 => by omega, fun z2 => by omega, fun z2 => by omega, fun z2 => by omega⟩
      rw [← abs_0 μ (by omega)]
      exact s3
    · refine c_sum1 (k := 6) (by omega) rfl hR hO ?_
      unfold wp_X5_count
      refine ⟨fun z2 => by omega, fun z2 => by omega, fun z2 => by omega, fun z2 => by omega, fun z2 => by omega, fun z2 => by omega, fun z2 => by omega, fun z2 => by omega, fun _ => m_cnt (k := 6) (by omega) (by rw [xk 10 (by omega) c]; rfl) ⟨?_, hI⟩, fun z2 => by omega, fun z2 => by omega, fun z2 => by omega, fun z2 => by omega⟩
      rw [← abs_0 μ (by omega), t6]
    · refine c_sum1 (k := 5) (by omega) rfl hR hO ?_
      unfold wp_X5_count
      refine ⟨fun z2 => by omega, fun z2 => by omega, fun z2 => by omega, fun z2 => by omega, fun z2 => by omega, fun z2 => by omega, fun z2 => by omega, fun z2 => by omega, fun z2 => by omega, fun _ => m_cnt (k := 7) (by omega) (by rw [xk 11 (by omega) c]; rfl) ⟨?_, hI⟩, fun z2 => by omega, fun z2 => by omega, fun z2 => by omega⟩
      rw [← abs_0 μ (by omega), t7]
    · refine c_sum1 (k := 4) (by omega) rfl hR hO ?_
      unfold wp_X5_count
      refine ⟨fun z2 => by omega, fun z2 => by omega, fun z2 => by omega, fun z2 => by omega, fun z2 => by omega, fun z2 => by omega, fun z2 => by omega, fun z2 => by omega, fun z2 => by omega, fun z2 => by omega, fun _ => m_cnt (k := 8) (by omega) (by rw [xk 12 (by omega) c]; rfl) ⟨?_, hI⟩, fun z2 => by omega, fun z2 => by omega⟩
      rw [← abs_0 μ (by omega), t8]
    · unfold wp_X5_count
      exact ⟨fun z2 => by omega, fun z2 => by omega, fun z2 => by omega, fun z2 => by omega, fun z2 => by omega, fun z2 => by omega, fun z2 => by omega, fun z2 => by omega, fun z2 => by omega, fun z2 => by omega, fun z2 => by omega, fun _ => ⟨by rw [h9, h8], hI⟩, fun z2 => by omega⟩
    · unfold wp_X5_count
      exact ⟨fun z2 => by omega, fun z2 => by omega, fun z2 => by omega, fun z2 => by omega, fun z2 => by omega, fun z2 => by omega, fun z2 => by omega, fun z2 => by omega, fun z2 => by omega, fun z2 => by omega, fun z2 => by omega, fun z2 => by omega, fun _ => ⟨by rw [h57, h73], hI⟩⟩
  refine ⟨fun z => br_t rfl (rest (Or.inl z)), fun z => ⟨fun z2 => br_t rfl (rest (Or.inr z2)), fun z2 => br_f (by decide) ?_⟩⟩
  obtain ⟨k, hk, e⟩ := nI_of2 (n := 2) (M := 2) rfl z (by rw [fa_lt] at z2; rw [fa_le]; omega)
  subst e
  refine ⟨vp_in_nI (by omega) (by omega), ?_⟩
  rw [nI_clamp (by omega)]
  unfold wp_X5_count
  have hi : (nI k).toInt = k := nI_toInt (by omega)
  refine ⟨fun _ => ?_, fun z2 => by omega, fun z2 => by omega, fun z2 => by omega, fun z2 => by omega, fun z2 => by omega, fun z2 => by omega, fun z2 => by omega, fun z2 => by omega, fun z2 => by omega, fun z2 => by omega, fun z2 => by omega, fun z2 => by omega⟩
  refine m_in (lo := 0) (hi := 2) rfl rfl (fun _ => br_f (by decide) (m_cnt (k := k) (by omega) rfl ⟨?_, hI⟩)) (fun q => absurd q (fun w => w.elim z z2))
  rw [← abs_0 μ (by omega)]
  exact rs k (by omega)

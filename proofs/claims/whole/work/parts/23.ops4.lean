/-! undo, save, restore, read -/
theorem op_undo {μ : Mem} (hI : Inv μ) : wp_X4_undo μ (fun r μ1 => wp_X5_undo μ1 (Fin2 r)) := by
  obtain ⟨g, hg, h73, hH⟩ := hI.2.1
  have h57 : μ 57 1 = nI g := by obtain ⟨π, -, h57, -⟩ := hH; exact h57
  unfold wp_X4_undo
  rw [h57]
  by_cases h0 : g = 0
  · subst h0
    refine br_nf rfl ?_
    unfold wp_X5_undo
    dsimp only
    rw [h73]
    exact br_nf rfl ⟨rfl, hI⟩
  · refine br_nt (nI_ne0 (by omega) (by omega)) ?_
    obtain ⟨q, rfl⟩ : ∃ q, g = q + 1 := ⟨g - 1, by omega⟩
    refine c_bringBack (by omega) hH (fun ν n1 n0 n2 n3 n4 => ?_)
    rw [n2]
    unfold wp_X5_undo
    dsimp only
    rw [n1 287 (by omega) (by omega), h73]
    refine br_nt (nI_ne0 (by omega) (by omega)) (nm_e ?_)
    rw [nI_pred]
    refine m_undoL (g := q) (by omega) (by rw [up2_app, if_pos ⟨rfl, rfl⟩]) (fun ρ r1 r2 _ => ⟨rfl, ?_⟩)
    have e0 : ∀ a, a ≠ 287 → a ≠ 288 → ρ a = ν a := fun a ha hb => by rw [r1 a hb, up2_ne _ _ _ _ ha]
    refine ⟨?_, ⟨q, by omega, ?_, ?_⟩, slot_fr (μ := μ) (fun a x y => ?_) ?_ ?_ ?_ hI.2.2.1, pad_fr (μ := μ) ?_ ?_ ?_ ?_ hI.2.2.2⟩
    · refine relst_cg (r := hisR μ q) (fun j hj => ?_) (relst_S (getS_eq (fun a x y => e0 a (by omega) (by omega))) n4)
      have := r2 j hj
      rw [up2_ne _ _ _ _ (by decide), n1 290 (by omega) (by omega)] at this
      exact this
    · rw [r1 287 (by decide), up2_app, if_pos ⟨rfl, rfl⟩]
    · refine hist_cg (fun k j hk hj => ?_) (hist_fr (fun a x y => e0 a (by omega) (by omega)) n3)
      unfold hisR
      rw [e0 290 (by omega) (by omega), n1 290 (by omega) (by omega)]
    · rw [e0 a (by omega) (by omega), n1 a (by omega) (by omega)]
    · rw [e0 228 (by omega) (by omega), n1 228 (by omega) (by omega)]
    · rw [e0 292 (by omega) (by omega), n1 292 (by omega) (by omega)]
    · rw [e0 291 (by omega) (by omega), n1 291 (by omega) (by omega)]
    · rw [e0 229 (by omega) (by omega), n1 229 (by omega) (by omega)]
    · rw [e0 230 (by omega) (by omega), n1 230 (by omega) (by omega)]
    · rw [r1 287 (by decide), up2_app, if_neg (by omega), n1 287 (by omega) (by omega)]
    · rw [e0 294 (by omega) (by omega), n1 294 (by omega) (by omega)]
theorem m_slot {x : Int32} {μ : Mem} {K : Int32 → Mem → Prop} (h1 : ∀ k : Nat, k < 2 → x = nI k → K 1 μ) (h0 : (¬ ∃ k : Nat, k < 2 ∧ x = nI k) → K 0 μ) : wp_X5_isSlot x μ K := by
  unfold wp_X5_isSlot
  refine ⟨fun z => h1 0 (by omega) z, fun z => ⟨fun z2 => h0 ?_, fun z2 => h1 1 (by omega) z2⟩⟩
  rintro ⟨k, hk, e⟩
  have : k = 0 ∨ k = 1 := by omega
  rcases this with rfl | rfl
  · exact z e
  · exact z2 e
theorem c_slot {x : Int32} {μ : Mem} {K : Int32 → Mem → Prop} (h1 : ∀ k : Nat, k < 2 → x = nI k → K 1 μ) (h0 : (¬ ∃ k : Nat, k < 2 ∧ x = nI k) → K 0 μ) : wp_X4_isSlot x μ K := by
  unfold wp_X4_isSlot
  refine ⟨fun z => h0 ?_, fun z => ⟨fun z2 => h0 ?_, fun z2 => ?_⟩⟩
  · rintro ⟨k, hk, rfl⟩; exact nI_pos (by omega) z
  · rintro ⟨k, hk, rfl⟩; exact nI_ge (b := 2) hk (by omega) z2
  · obtain ⟨k, hk, e⟩ := per_ex (n := 2) (by omega) z z2
    exact h1 k hk e
theorem op_save {μ : Mem} {x : Int32} (hI : Inv μ) : wp_X4_save x μ (fun r μ1 => wp_X5_save x μ1 (Fin2 r)) := by
  unfold wp_X4_save
  refine c_slot (fun k hk e => br_nt (by decide) ?_) (fun hno => br_nf rfl ?_)
  · subst e
    have hv := vp_in_nI (n := k) (N := 2) hk (by omega)
    refine ⟨hv, ?_⟩
    rw [nI_clamp (by omega)]
    refine c_copy (Or.inr (by omega)) hI.1 (fun S' hS' _ => ⟨hv, nm_e ?_⟩)
    obtain ⟨n, t, ht, hA, hR⟩ := now_abs hI.1
    have e1 : ∀ a, ¬ (231 + 28 * k ≤ a ∧ a < 231 + 28 * k + 28) → a ≠ 228 → up2 (putS (231 + 28 * k) S' μ) 228 k 1 a = μ a := fun a ha hb => by rw [up2_ne _ _ _ _ hb, putS_ne _ _ _ ha]
    unfold wp_X5_save
    refine m_slot (fun j hj e => br_nt (by decide) ?_) (fun hno => absurd ⟨k, hk, rfl⟩ hno)
    refine m_saveL (g := k) hk (fun ρ r1 r2 r3 => ⟨?_, ?_⟩)
    · rw [r1 288 (by decide), e1 1 (by omega) (by omega), e1 288 (by omega) (by omega)]
      have h1 := hR.2.2.2.2.1
      rw [abs_0 μ (by omega)] at h1
      exact h1
    · have e2 : ∀ a, ¬ (231 + 28 * k ≤ a ∧ a < 231 + 28 * k + 28) → a ≠ 228 → a ≠ 291 → a ≠ 292 → up2 ρ 292 k 1 a = μ a := fun a ha hb hc hd => by rw [up2_ne _ _ _ _ hd, r1 a hc, e1 a ha hb]
      refine ⟨now_fr (fun a x y => e2 a (by omega) (by omega) (by omega) (by omega)) (fun j _ => by rw [e2 288 (by omega) (by omega) (by omega) (by omega)]) hI.1, histI_fr (fun a x y => e2 a (by omega) (by omega) (by omega) (by omega)) (by rw [e2 287 (by omega) (by omega) (by omega) (by omega)]) (e2 290 (by omega) (by omega) (by omega) (by omega)) hI.2.1, fun j hj => ?_, pad_fr (by rw [e2 229 (by omega) (by omega) (by omega) (by omega)]) (e2 230 (by omega) (by omega) (by omega) (by omega)) (by rw [e2 287 (by omega) (by omega) (by omega) (by omega)]) (e2 294 (by omega) (by omega) (by omega) (by omega)) hI.2.2.2⟩
      obtain ⟨s1, s2, s3⟩ := hI.2.2.1 j hj
      have e8 : up2 ρ 292 k 1 228 j = if j = k then 1 else μ 228 j := by
        rw [up2_ne _ _ _ _ (by decide), r1 228 (by decide), up2_app, putS_ne _ _ _ (by omega)]
        simp
      have e9 : up2 ρ 292 k 1 292 j = if j = k then 1 else μ 292 j := by
        rw [up2_app, r1 292 (by decide), e1 292 (by omega) (by omega)]
        simp
      rw [e8, e9]
      by_cases hjk : j = k
      · subst hjk
        rw [if_pos rfl, if_pos rfl]
        refine ⟨Or.inr rfl, rfl, fun _ => ?_⟩
        refine relst_cg (r := μ 288) (fun i hi => ?_) (relst_S (fun o ho => ?_) hS')
        · show up2 ρ 292 j 1 291 (225 * j + i) = _
          rw [up2_ne _ _ _ _ (by decide), r2 i hi, e1 288 (by omega) (by omega)]
        · unfold getS
          rw [up2_ne _ _ _ _ (by omega), r1 _ (by omega), up2_ne _ _ _ _ (by omega)]
          exact putS_at _ _ _ ho
      · rw [if_neg hjk, if_neg hjk]
        refine ⟨s1, s2, fun z => ?_⟩
        refine relst_cg (fun i hi => ?_) (relst_S (getS_eq (fun a x y => e2 a (by omega) (by omega) (by omega) (by omega))) (s3 z))
        show up2 ρ 292 k 1 291 (225 * j + i) = _
        rw [up2_ne _ _ _ _ (by decide), r3 _ (by omega), e1 291 (by omega) (by omega)]
  · unfold wp_X5_save
    exact m_slot (fun j hj e => absurd ⟨j, hj, e⟩ hno) (fun _ => br_nf rfl ⟨rfl, hI⟩)
theorem op_restore {μ : Mem} {x : Int32} (hI : Inv μ) : wp_X4_restore x μ (fun r μ1 => wp_X5_restore x μ1 (Fin2 r)) := by
  obtain ⟨g, hg, h73, hH⟩ := hI.2.1
  unfold wp_X4_restore
  refine c_slot (fun k hk e => br_nt (by decide) ?_) (fun hno => br_nf rfl ?_)
  · subst e
    have hv := vp_in_nI (n := k) (N := 2) hk (by omega)
    obtain ⟨s1, s2, s3⟩ := hI.2.2.1 k hk
    refine ⟨hv, ?_⟩
    rw [nI_clamp (by omega)]
    refine ⟨fun hne => ?_, fun h0 => ?_⟩
    · have h1 := s1.resolve_left hne
      have hRs := s3 h1
      refine c_keep hH hI.1 (fun ν n1 n2 => ⟨hv, ?_⟩)
      refine c_copy (Or.inl (by omega)) (relst_S (getS_eq (fun a x y => n1 a (by omega))) hRs) (fun S' hS' _ => ?_)
      have eω : ∀ a, ¬ (1 ≤ a ∧ a < 29) → putS 1 S' ν a = ν a := fun a ha => putS_ne _ _ _ (by omega)
      have eμ : ∀ a, 227 ≤ a → putS 1 S' ν a = μ a := fun a ha => by rw [eω a (by omega), n1 a (by omega)]
      unfold wp_X5_restore
      refine m_slot (fun j hj e => br_nt (by decide) ⟨hv, ?_⟩) (fun hno => absurd ⟨k, hk, rfl⟩ hno)
      rw [nI_clamp (by omega), eμ 292 (by omega), s2]
      refine br_nt hne ?_
      refine m_changes hg (by rw [eμ 287 (by omega), h73]) (fun ρ r1 r2 r3 r4 => ?_)
      refine m_restL (g := k) hk (fun φ p1 p2 p3 => ⟨?_, ?_⟩)
      · obtain ⟨n, t, ht, hA, hR⟩ := hS'
        have e15 : putS 1 S' ν 1 5 = S' 0 5 := by rw [putS_b]
        rw [e15, hR.2.2.2.2.1]
        have := p2 3 (by omega)
        rw [r1 291 (by omega) (by omega), eμ 291 (by omega)] at this
        rw [this, aR_k _ (by omega)]
      · refine inv_chg2 hg hI n1 n2 eω r1 r2 r3 r4 (fun a h1 h2 => p1 a h1) ?_
        refine relst_cg (fun j hj => ?_) (relst_S (fun o ho => ?_) hS')
        · have := p2 j hj
          rw [r1 291 (by omega) (by omega), eμ 291 (by omega)] at this
          exact this
        · unfold getS
          rw [p1 _ (by omega), r1 _ (by omega) (by omega)]
          exact putS_at _ _ _ ho
    · unfold wp_X5_restore
      refine m_slot (fun j hj e => br_nt (by decide) ⟨hv, ?_⟩) (fun hno => absurd ⟨k, hk, rfl⟩ hno)
      rw [nI_clamp (by omega), s2]
      exact br_nf h0 ⟨rfl, hI⟩
  · unfold wp_X5_restore
    exact m_slot (fun j hj e => absurd ⟨j, hj, e⟩ hno) (fun _ => br_nf rfl ⟨rfl, hI⟩)
/-! ===== read ===== -/
def rdA (A : Mem) (n : Nat) (c : Nat → Int32) : Nat → Mem
  | 0 => A
  | i + 1 => comesA (rdA A n c i) (n + i) (c (2 * i + 1) - 48) (if c (2 * i) = 117 then 1 else 0)
theorem bz_ite (p : Prop) [Decidable p] : bz (if p then 1 else 0) := by
  split
  · exact Or.inr rfl
  · exact Or.inl rfl
theorem rd_inv {A : Mem} {n t L : Nat} {c : Nat → Int32} (hall : ∀ k, k < L → okC c k) (h : InvA A n t) : ∀ i, 2 * i ≤ L → n + i ≤ 24 → InvA (rdA A n c i) (n + i) t
  | 0, _, _ => h
  | i + 1, h1, h2 => by
    refine inv_comes (by omega) ?_ (bz_ite _) (rd_inv hall h i (by omega) (by omega))
    have := (hall (2 * i + 1) (by omega)).2 (by omega)
    obtain ⟨m, m1, m2, e⟩ := nI_rng (a := 49) (b := 57) (by omega) (by omega) this.1 (by
      have := this.2
      rw [fa_lt] at this
      rw [fa_le]
      have h57 : (nI 57).toInt = 57 := rfl
      have h58 : (57 : Int32).toInt = 57 := rfl
      omega)
    refine ⟨m - 48, by omega, by omega, ?_⟩
    rw [e, show (48 : Int32) = nI 48 from rfl, pk_sub (by omega)]
theorem half {L : Nat} (h : L ≤ 60) : nI L / 2 = nI (L / 2) := pk_div (d := 2) (by omega) (by omega) (by omega)
theorem op_read {μ : Mem} (hI : Inv μ) : wp_X4_read μ (fun r μ1 => wp_X5_read μ1 (Fin2 r)) := by
  obtain ⟨n, t, ht, hA, hR⟩ := now_abs hI.1
  obtain ⟨g, hg, h73, hH⟩ := hI.2.1
  obtain ⟨L, hL, h9, h8, hc⟩ := hI.2.2.2
  have hn := hR.1
  have h4 := hA.2.1
  have h84 : μ 288 4 = nI n := by rw [← abs_0 μ (by decide), h4]
  have h14 : μ 1 4 = nI n := hR.2.2.1
  unfold wp_X4_read
  refine fault_both (ν := μ) hL h9 h8 hc (fun r hr hok => ?_)
  rw [h9, h14, half hL, nI_add]
  refine ⟨fun hr6 => ?_, fun hr6 => ?_⟩
  · obtain ⟨hall, hev, hpos⟩ := hok hr6
    subst hr6
    by_cases hroom : n + L / 2 ≤ 24
    · refine br_t (nI_le (b := 24) hroom (by omega)) ?_
      refine c_keep hH hI.1 (fun ν n1 n2 => ?_)
      have hRν : RelC (getS 1 ν) (absA μ) n := relc_congr (getS_eq (fun a u v => n1 a (by omega))) hR
      have eν9 : ν 229 = μ 229 := n1 229 (by omega)
      have eν0 : ν 230 = μ 230 := n1 230 (by omega)
      have fin : ∀ S', RelC S' (rdA (absA μ) n (μ 230) (L / 2)) (n + L / 2) → wp_X5_read (up2 (putS 1 S' ν) 229 1 0) (Fin2 (nI (n + L / 2))) := by
        intro S' hS'
        have eω : ∀ a, ¬ (1 ≤ a ∧ a < 29) → a ≠ 229 → up2 (putS 1 S' ν) 229 1 0 a = ν a := fun a ha hb => by rw [up2_ne _ _ _ _ hb, putS_ne _ _ _ (by omega)]
        have eμ : ∀ a, 227 ≤ a → a ≠ 229 → up2 (putS 1 S' ν) 229 1 0 a = μ a := fun a ha hb => by rw [eω a (by omega) hb, n1 a (by omega)]
        unfold wp_X5_read
        have e7 := eμ 287 (by omega) (by omega)
        have e94 := eμ 294 (by omega) (by omega)
        refine m_fault (L := L) hL (by rw [e7, h8]) (fun i hi hno _ => absurd (by rw [e94]; exact (ok_same hc hi).mpr (hall i hi)) hno) (fun _ => ?_)
        unfold ffE
        rw [if_pos ⟨hev, hpos⟩]
        refine br_t rfl ?_
        rw [eμ 288 (by omega) (by omega), e7, h84, h8, half hL, nI_add]
        refine br_t (nI_le (b := 24) hroom (by omega)) ?_
        refine m_changes hg (by rw [e7, h73]) (fun ρ r1 r2 r3 r4 => ?_)
        have eA : absA ρ = absA μ := abs_eq (by rw [r1 288 (by omega) (by omega), eμ 288 (by omega) (by omega)]) (by rw [r1 293 (by omega) (by omega), eμ 293 (by omega) (by omega)])
        have e94r : ρ 294 = μ 294 := by rw [r1 294 (by omega) (by omega), e94]
        have e87r : ρ 287 8 = nI L := by rw [r2 8 (by omega), e7, h8]
        have key : ∀ d j, j + d = L / 2 → wp_X5_read_L39 (Fin2 (nI (n + L / 2))) (d + 1) (nI (2 * j)) (conA (rdA (absA μ) n (μ 230) j) ρ) := by
          intro d
          induction d with
          | zero =>
            intro j hj
            have : j = L / 2 := by omega
            subst this
            have hinv := rd_inv hall hA (L / 2) (by omega) hroom
            rw [wp_X5_read_L39_s]
            simp only
            rw [conA_ne _ _ (by decide) (by decide), e87r]
            refine br_t (nI_le (by omega) (by omega)) (nm_e ⟨?_, ?_⟩)
            · rw [up2_ne _ _ _ _ (by decide), conA_0 _ _ _ (by decide), hinv.2.1]
            · have eh : hisR (up2 (putS 1 S' ν) 229 1 0) = hisR μ := by unfold hisR; rw [eμ 290 (by omega) (by omega)]
              have eφ : ∀ a, a ≠ 287 → a ≠ 288 → a ≠ 293 → up2 (conA (rdA (absA μ) n (μ 230) (L / 2)) ρ) 287 8 0 a = ρ a := fun a h1 h2 h3 => by rw [up2_ne _ _ _ _ h1, conA_ne _ _ h2 h3]
              refine inv_chg hg hI n2 (fun a x y => ?_) ?_ (fun a x y => ?_) ?_ ?_ ?_ (fun k j hk hj => ?_) ⟨0, by omega, ?_, ?_, fun i hi => by omega⟩ ?_
              · rw [eφ a (by omega) (by omega) (by omega), r1 a (by omega) (by omega), eω a (by omega) (by omega)]
              · rw [eφ 228 (by omega) (by omega) (by omega), r1 228 (by omega) (by omega), eμ 228 (by omega) (by omega)]
              · rw [eφ a (by omega) (by omega) (by omega), r1 a (by omega) (by omega), eμ a (by omega) (by omega)]
              · rw [eφ 291 (by omega) (by omega) (by omega), r1 291 (by omega) (by omega), eμ 291 (by omega) (by omega)]
              · rw [eφ 292 (by omega) (by omega) (by omega), r1 292 (by omega) (by omega), eμ 292 (by omega) (by omega)]
              · rw [up2_app, if_neg (by omega), conA_ne _ _ (by decide) (by decide), r3]
              · have := r4 k j hk hj
                rw [eh, eμ 288 (by omega) (by omega)] at this
                unfold hisR at this ⊢
                rw [eφ 290 (by omega) (by omega) (by omega)]
                exact this
              · rw [eφ 229 (by omega) (by omega) (by omega), r1 229 (by omega) (by omega), up2_app, if_pos ⟨rfl, rfl⟩]; rfl
              · rw [up2_app, if_pos ⟨rfl, rfl⟩]; rfl
              · refine rel_fin (ω := up2 (putS 1 S' ν) 229 1 0) (ρ := ρ) ht hinv ?_ (fun a h1 h2 => ?_) ?_
                · refine relc_congr (fun o ho => ?_) hS'
                  unfold getS
                  rw [up2_ne _ _ _ _ (by omega)]
                  exact putS_at _ _ _ ho
                · rw [eφ a (by omega) (by omega) (by omega), r1 a (by omega) (by omega)]
                · rw [up2_ne _ _ _ _ (by decide), conA_288]
          | succ d ih =>
            intro j hj
            have hinv := rd_inv hall hA j (by omega) (by omega)
            rw [wp_X5_read_L39_s]
            simp only
            rw [conA_ne _ _ (by decide) (by decide), e87r, conA_ne _ _ (by decide) (by decide), e94r]
            refine br_f (nI_ge (by omega) (by omega)) ?_
            rw [nI_1 (2 * j), nI_clamp (by omega), nI_clamp (by omega), hc _ (by omega), hc _ (by omega)]
            refine ⟨vp_in_nI (by omega) (by omega), vp_in_nI (by omega) (by omega), ?_⟩
            have e2 : nI (2 * j) + 2 = nI (2 * (j + 1)) := by rw [show (2 : Int32) = nI 2 from rfl, nI_add]; congr 1
            have h1 := ih (j + 1) (by omega)
            rw [rdA] at h1
            refine ⟨fun q => ?_, fun q => ?_⟩
            · rw [if_neg q] at h1
              refine m_comes (by omega) hinv.2.1 ?_
              rw [e2]
              exact h1
            · rw [if_pos q] at h1
              refine m_comes (by omega) hinv.2.1 ?_
              rw [e2]
              exact h1
        refine ⟨L / 2 + 1, ?_⟩
        have := key (L / 2) 0 (by omega)
        rw [show conA (rdA (absA μ) n (μ 230) 0) ρ = ρ by rw [show rdA (absA μ) n (μ 230) 0 = absA ρ from eA.symm, conA_abs]] at this
        exact this
      have key : ∀ d j S', j + d = L / 2 → RelC S' (rdA (absA μ) n (μ 230) j) (n + j) → wp_X4_read_L55 (nI (L / 2)) (fun r μ1 => wp_X5_read μ1 (Fin2 r)) (d + 1) (nI j) (putS 1 S' ν) := by
        intro d
        induction d with
        | zero =>
          intro j S' hj hS'
          have : j = L / 2 := by omega
          subst this
          rw [wp_X4_read_L55_s]
          simp only
          refine br_t (nI_le (Nat.le_refl _) (by omega)) (nm_e ?_)
          rw [up2_ne _ _ _ _ (by decide), putS_b, hS'.2.2.1]
          exact fin S' hS'
        | succ d ih =>
          intro j S' hj hS'
          rw [wp_X4_read_L55_s]
          simp only
          refine br_f (nI_ge (by omega) (by omega)) ?_
          have e9 : putS 1 S' ν 229 1 = nI L := by rw [putS_ne _ _ _ (by omega), eν9, h9]
          have e0 : putS 1 S' ν 230 = μ 230 := by rw [putS_ne _ _ _ (by omega), eν0]
          unfold wp_X1_rankOf
          rw [e9, e0, show (2 : Int32) * nI j = nI (2 * j) from pk_mul 2 j, nI_1 (2 * j), nI_clamp (by omega)]
          refine br_f (nI_nlt (b := 1) (by omega) (by omega)) (br_f (nI_ge (by omega) (by omega)) ⟨vp_in_nI (by omega) (by omega), ?_⟩)
          have up : ∀ (K : Int32 → Mem → Prop), K (if μ 230 (2 * j) = 117 then 1 else 0) (putS 1 S' ν) → wp_X1_isUp (nI j) (putS 1 S' ν) K := by
            intro K hK
            unfold wp_X1_isUp
            rw [e9, e0, show (2 : Int32) * nI j = nI (2 * j) from pk_mul 2 j, nI_clamp (by omega)]
            refine br_f (nI_pos (by omega)) (br_f (nI_ge (by omega) (by omega)) ⟨vp_in_nI (by omega) (by omega), fun q => ?_, fun q => ?_⟩)
            · rw [if_neg q] at hK; exact hK
            · rw [if_pos q] at hK; exact hK
          refine up _ ?_
          refine c_admit (by omega) hS' (bz_ite _) (fun T hT => ?_)
          rw [nI_1]
          exact ih (j + 1) T (by omega) hT
      refine ⟨L / 2 + 1, ?_⟩
      have := key (L / 2) 0 (getS 1 ν) (by omega) hRν
      rw [putS_get] at this
      exact this
    · refine br_f (nI_ge (a := 24) (by omega) (by omega)) ?_
      unfold wp_X5_read
      refine hr _ (br_t rfl ?_)
      rw [h84, h8, half hL, nI_add]
      exact br_f (nI_ge (a := 24) (by omega) (by omega)) ⟨rfl, hI⟩
  · unfold wp_X5_read
    exact hr _ (br_f hr6 ⟨rfl, hI⟩)

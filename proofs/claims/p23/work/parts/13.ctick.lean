/-! THE CLASS'S TICK does to its staircase what tickA does to A -/
theorem decS_ne {S : Mem} {p i : Nat} (h : i ≠ 3) : decS S p i = S i := by
  unfold decS
  split
  · exact up2_ne _ _ _ _ h
  · rfl
theorem nI_inj {a b : Nat} (ha : a < 24) (hb : b < 24) (h : nI a = nI b) : a = b := (nI_eq (by omega) (by omega)).mp h
theorem rel_dec {S A : Mem} {n p : Nat} (hR : RelC S A n) (hO : OkA A n) (hp : p < n) (hw : A (p + 1) 2 = 0 ∨ A (p + 1) 2 = 1) : ∀ s, s < 12 → decS S p 3 s = nI (cntA A (nI s) n - a1A A p (nI s)) := by
  intro s hs
  have hn := hR.1
  obtain ⟨-, g1, -, g3, -⟩ := hR.2.2.2.2.2.2.2 p hp
  have hc := hR.2.2.2.2.2.2.1
  unfold decS
  rcases hw with hw | hw
  · have hns : ¬ stp (S (4 + p) 3) := by
      rw [g3 hw]
      split
      · exact nstp_1
      · exact nstp_12
    rw [if_neg hns, hc s hs]
    unfold a1A
    rw [if_neg (by rw [hw]; exact fun z => absurd z.1 (by decide)), Nat.sub_zero]
  · obtain ⟨t, ht, e⟩ := (hO p hp).2.2.2 hw
    rw [g1 hw, e, if_pos (stp_of ht), nI_clamp (by omega), up2_app, hc t ht]
    have hpos := cnt_pos (A := A) (s := nI s) hp
    unfold a1A at hpos ⊢
    by_cases hst : s = t
    · subst hst
      rw [if_pos ⟨rfl, rfl⟩]
      rw [if_pos ⟨hw, e⟩] at hpos ⊢
      rw [show (1 : Int32) = nI 1 from rfl, pk_sub hpos]
    · rw [if_neg (fun z => hst z.2), hc s hs, if_neg (fun z => hst (nI_inj (by omega) (by omega) (z.2.symm.trans e))), Nat.sub_zero]
theorem bring_row {S : Mem} {p i : Nat} {to pl d : Int32} (h3 : i ≠ 3) (hi : i ≠ 4 + p) : bringS S p to pl d i = S i := by
  unfold bringS setS incS
  rw [up2_ne _ _ _ _ hi, up2_ne _ _ _ _ hi, up2_ne _ _ _ _ hi, up2_ne _ _ _ _ hi]
  split
  · rw [up2_ne _ _ _ _ h3, decS_ne h3]
  · rw [up2_ne _ _ _ _ hi, decS_ne h3]
theorem bring_p {S : Mem} {p : Nat} {to pl d : Int32} (k : Nat) : bringS S p to pl d (4 + p) k = if k = 8 then 0 else if k = 9 then d else if k = 2 then pl else if k = 3 then to else if k = 7 then (if stp to then S (4 + p) 7 else S 0 5 + 1) else S (4 + p) k := by
  unfold bringS setS incS
  simp only [up2_app, true_and]
  by_cases h8 : k = 8
  · rw [if_pos h8, if_pos h8]
  · rw [if_neg h8, if_neg h8]
    by_cases h9 : k = 9
    · rw [if_pos h9, if_pos h9]
    · rw [if_neg h9, if_neg h9]
      by_cases h2 : k = 2
      · rw [if_pos h2, if_pos h2]
      · rw [if_neg h2, if_neg h2]
        by_cases h3 : k = 3
        · rw [if_pos h3, if_pos h3]
        · rw [if_neg h3, if_neg h3]
          by_cases hs : stp to
          · rw [if_pos hs, if_pos hs, up2_app, if_neg (by omega), decS_ne (by omega)]
            by_cases h7 : k = 7
            · rw [if_pos h7, h7]
            · rw [if_neg h7]
          · rw [if_neg hs, if_neg hs, up2_app, decS_ne (by omega), decS_ne (by omega)]
            by_cases h7 : k = 7
            · rw [if_pos ⟨rfl, h7⟩, if_pos h7]
            · rw [if_neg (fun z => h7 z.2), if_neg h7]
theorem bring_3 {S : Mem} {p s : Nat} {to pl d : Int32} (hs : s < 12) : bringS S p to pl d 3 s = if to = nI s then decS S p 3 s + 1 else decS S p 3 s := by
  unfold bringS setS incS
  rw [up2_ne _ _ _ _ (by omega), up2_ne _ _ _ _ (by omega), up2_ne _ _ _ _ (by omega), up2_ne _ _ _ _ (by omega)]
  by_cases ht : stp to
  · obtain ⟨t, h12, rfl⟩ := stp_ex ht
    rw [if_pos ht, nI_clamp (by omega), up2_app]
    by_cases h : s = t
    · subst h
      rw [if_pos ⟨rfl, rfl⟩, if_pos rfl]
    · rw [if_neg (fun z => h z.2), if_neg (fun z => h (nI_inj (by omega) (by omega) z).symm)]
  · rw [if_neg ht, up2_ne _ _ _ _ (by omega), if_neg (fun z : to = nI s => ht (by rw [z]; exact stp_of hs))]
/-- a person brought to another place: in the class, and in A -/
theorem rel_bring {S A B : Mem} {n p : Nat} {to pl d : Int32} (hR : RelC S A n) (hO : OkA A n) (hp : p < n) (hw : A (p + 1) 2 = 0 ∨ A (p + 1) 2 = 1) (h0 : ∀ k, k < 6 → B 0 k = A 0 k) (hq : ∀ q, q ≠ p → B (q + 1) = A (q + 1))
    (h2 : B (p + 1) 2 = pl) (h3 : B (p + 1) 3 = if pl = 1 then to else -6) (hpl : pl = 1 ∧ stp to ∨ (pl = 2 ∨ pl = 3) ∧ ¬ stp to) (h7 : B (p + 1) 7 = if pl = 1 then A (p + 1) 7 else A 0 3 + 1) (h8 : B (p + 1) 8 = 0) (hk : ∀ k, k < 7 → k ≠ 2 → k ≠ 3 → B (p + 1) k = A (p + 1) k) : RelC (bringS S p to pl d) B n := by
  obtain ⟨hn, r4, s4, s3, s5, rs, rc, rp⟩ := id hR
  refine ⟨hn, by rw [h0 4 (by omega), r4], by rw [bring_row (by omega) (by omega), s4], by rw [bring_row (by omega) (by omega), s3, h0 5 (by omega)], by rw [bring_row (by omega) (by omega), s5, h0 3 (by omega)], fun k hk3 => by rw [bring_row (by omega) (by omega), rs k hk3, h0 k (by omega)], fun s hs => ?_, fun q hqn => ?_⟩
  · rw [bring_3 hs, rel_dec hR hO hp hw s hs]
    have hm := cnt_mod (A := A) (B := B) (s := nI s) (p := p) hp (fun q _ hne => by rw [hq q hne]; exact ⟨rfl, rfl⟩)
    have hpos := cnt_pos (A := A) (s := nI s) hp
    have hb : a1A B p (nI s) = if to = nI s then 1 else 0 := by
      unfold a1A
      rw [h2, h3]
      rcases hpl with ⟨rfl, _⟩ | ⟨e, hns⟩
      · simp
      · rw [if_neg (fun z : to = nI s => hns (by rw [z]; exact stp_of hs)), if_neg]
        rcases e with rfl | rfl <;> exact fun z => absurd z.1 (by decide)
    rw [hb] at hm
    by_cases ht : to = nI s
    · rw [if_pos ht] at hm ⊢
      rw [nI_1]
      congr 1
      omega
    · rw [if_neg ht] at hm ⊢
      congr 1
      omega
  · by_cases e : q = p
    · subst e
      obtain ⟨⟨f0, f1, f2, f4, f5, f6, f8⟩, g1, g2, g3, g4, g5⟩ := rp q hqn
      refine ⟨⟨?_, ?_, ?_, ?_, ?_, ?_, ?_⟩, ?_, ?_, ?_, ?_, ?_⟩
      · rw [bring_p, hk 0 (by omega) (by omega) (by omega), ← f0]; simp
      · rw [bring_p, hk 1 (by omega) (by omega) (by omega), ← f1]; simp
      · rw [bring_p, h2]; simp
      · rw [bring_p, hk 4 (by omega) (by omega) (by omega), ← f4]; simp
      · rw [bring_p, hk 5 (by omega) (by omega) (by omega), ← f5]; simp
      · rw [bring_p, hk 6 (by omega) (by omega) (by omega), ← f6]; simp
      · rw [bring_p, h8]; simp
      · intro z
        rw [h2] at z
        rw [bring_p, h3, if_pos z]; simp
      · intro z
        rw [h2] at z
        rw [h3, if_neg z]
      · intro z
        rw [h2] at z
        rcases hpl with ⟨e, _⟩ | ⟨e | e, _⟩ <;> rw [e] at z <;> exact absurd z (by decide)
      · intro z
        rw [h2] at z
        rcases hpl with ⟨e, _⟩ | ⟨e | e, _⟩
        · rw [h7, if_pos e, g4 hw]
        · rw [e] at z; exact absurd z (by decide)
        · rw [e] at z; exact absurd z (by decide)
      · intro z
        rw [h2] at z
        rcases hpl with ⟨e, _⟩ | ⟨e, hns⟩
        · exact absurd (Or.inr e) z
        · rw [bring_p, h7, if_neg (fun y => z (Or.inr y)), if_neg hns, ← s5]; simp
    · rw [bring_row (by omega) (by omega), hq q e]
      exact rp q hqn
theorem reld_bring {S A B : Mem} {n p : Nat} {to pl d : Int32} (hD : RelD S A n) (hd : B (p + 1) 9 = d) (hq : ∀ q, q ≠ p → B (q + 1) = A (q + 1)) : RelD (bringS S p to pl d) B n := by
  intro q hqn
  by_cases e : q = p
  · subst e
    rw [bring_p, hd]; simp
  · rw [bring_row (by omega) (by omega), hq q e]
    exact hD q hqn
theorem goesA_ne {A : Mem} {p q : Nat} {s d : Int32} (h : q ≠ p) : goesA A p s d (q + 1) = A (q + 1) := by
  unfold goesA
  rw [up2_ne _ _ _ _ (by omega), up2_ne _ _ _ _ (by omega), up2_ne _ _ _ _ (by omega), up2_ne _ _ _ _ (by omega)]
theorem goesA_0 {A : Mem} {p : Nat} {s d : Int32} : goesA A p s d 0 = A 0 := by
  unfold goesA
  rw [up2_ne _ _ _ _ (by omega), up2_ne _ _ _ _ (by omega), up2_ne _ _ _ _ (by omega), up2_ne _ _ _ _ (by omega)]
theorem endsA_ne {A : Mem} {p q : Nat} {w : Int32} (h : q ≠ p) : endsA A p w (q + 1) = A (q + 1) := by
  unfold endsA
  rw [up2_ne _ _ _ _ (by omega), up2_ne _ _ _ _ (by omega), up2_ne _ _ _ _ (by omega), up2_ne _ _ _ _ (by omega), up2_ne _ _ _ _ (by omega)]
theorem endsA_0 {A : Mem} {p : Nat} {w : Int32} : endsA A p w 0 = A 0 := by
  unfold endsA
  rw [up2_ne _ _ _ _ (by omega), up2_ne _ _ _ _ (by omega), up2_ne _ _ _ _ (by omega), up2_ne _ _ _ _ (by omega), up2_ne _ _ _ _ (by omega)]
theorem rel_goes {S A : Mem} {n p : Nat} {to d : Int32} (hR : RelC S A n) (hO : OkA A n) (hp : p < n) (hw : A (p + 1) 2 = 0 ∨ A (p + 1) 2 = 1) (ht : stp to) : RelC (bringS S p to 1 d) (goesA A p to d) n :=
  rel_bring hR hO hp hw (fun k _ => by rw [goesA_0]) (fun q hq => goesA_ne hq) (by simp [goesA, up2_app]) (by simp [goesA, up2_app]) (Or.inl ⟨rfl, ht⟩) (by simp [goesA, up2_app]) (by simp [goesA, up2_app]) (fun k hk h2 h3 => by simp [goesA, up2_app, h2, h3, show k ≠ 8 by omega, show k ≠ 9 by omega])
theorem rel_ends {S A : Mem} {n p : Nat} {to d w : Int32} (hR : RelC S A n) (hO : OkA A n) (hp : p < n) (hw : A (p + 1) 2 = 0 ∨ A (p + 1) 2 = 1) (ht : ¬ stp to) (h23 : w = 2 ∨ w = 3) : RelC (bringS S p to w d) (endsA A p w) n := by
  have h1 : ¬ w = 1 := by rcases h23 with rfl | rfl <;> decide
  exact rel_bring hR hO hp hw (fun k _ => by rw [endsA_0]) (fun q hq => endsA_ne hq) (by simp [endsA, up2_app]) (by simp [endsA, up2_app, h1]) (Or.inr ⟨h23, ht⟩) (by simp [endsA, up2_app, h1]) (by simp [endsA, up2_app]) (fun k hk h2 h3 => by simp [endsA, up2_app, h2, h3, show k ≠ 7 by omega, show k ≠ 8 by omega, show k ≠ 9 by omega])
theorem reld_goes {S A : Mem} {n p : Nat} {to d : Int32} (hD : RelD S A n) : RelD (bringS S p to 1 d) (goesA A p to d) n := reld_bring hD (by simp [goesA, up2_app]) (fun q hq => goesA_ne hq)
theorem reld_ends {S A : Mem} {n p : Nat} {to w : Int32} (hD : RelD S A n) : RelD (bringS S p to w (if w = 2 then 2 else 5)) (endsA A p w) n := reld_bring hD (by simp [endsA, up2_app]) (fun q hq => endsA_ne hq)
/-! bows and stays -/
def bowS (S : Mem) (o : Nat) (v : Int32) : Mem := up2 (up2 S (4 + o) 5 (S (4 + o) 5 + 1)) (4 + o) 6 (S (4 + o) 6 + v)
theorem c_bow {b o : Nat} {v : Int32} {S μ : Mem} {K : Mem → Prop} (ho : o < 24) (h : K (putS b (bowS S o v) μ)) : wp_X2_bow (b + 2 + 2 + o) v (putS b S μ) K := by
  unfold wp_X2_bow
  refine nm_e ?_
  rw [putS_P b S μ ho, putS_upP b S μ ho]
  refine nm_e ?_
  rw [putS_P b _ μ ho, putS_upP b _ μ ho, up2_app, if_neg (by omega)]
  exact h
theorem rel_bow {S B B' : Mem} {n o : Nat} {v : Int32} (hR : RelC S B n) (ho : o < n) (h1 : ∀ k, k ≠ 5 → k ≠ 6 → B' (o + 1) k = B (o + 1) k) (h5 : B' (o + 1) 5 = B (o + 1) 5 + 1) (h6 : B' (o + 1) 6 = B (o + 1) 6 + v) (hq : ∀ q, q ≠ o → B' (q + 1) = B (q + 1)) (h0 : ∀ k, k < 6 → B' 0 k = B 0 k) : RelC (bowS S o v) B' n := by
  obtain ⟨hn, r4, s4, s3, s5, rs, rc, rp⟩ := id hR
  have hrow : ∀ i, i ≠ 4 + o → bowS S o v i = S i := fun i hi => by unfold bowS; rw [up2_ne _ _ _ _ hi, up2_ne _ _ _ _ hi]
  refine ⟨hn, by rw [h0 4 (by omega), r4], by rw [hrow 0 (by omega), s4], by rw [hrow 0 (by omega), s3, h0 5 (by omega)], by rw [hrow 0 (by omega), s5, h0 3 (by omega)], fun k hk => by rw [hrow 1 (by omega), rs k hk, h0 k (by omega)], fun s hs => ?_, fun q hqn => ?_⟩
  · rw [hrow 3 (by omega), rc s hs, cnt_congr (A := B) (B := B')]
    intro q _
    by_cases e : q = o
    · subst e
      exact ⟨h1 2 (by omega) (by omega), h1 3 (by omega) (by omega)⟩
    · rw [hq q e]
      exact ⟨rfl, rfl⟩
  · by_cases e : q = o
    · subst e
      obtain ⟨⟨f0, f1, f2, f4, f5, f6, f8⟩, g1, g2, g3, g4, g5⟩ := rp q hqn
      have hk : ∀ k, k ≠ 5 → k ≠ 6 → bowS S q v (4 + q) k = S (4 + q) k := fun k a b => by simp [bowS, up2_app, a, b]
      have e2 := h1 2 (by omega) (by omega)
      refine ⟨⟨?_, ?_, ?_, ?_, ?_, ?_, ?_⟩, ?_, ?_, ?_, ?_, ?_⟩
      · rw [hk 0 (by omega) (by omega), h1 0 (by omega) (by omega), f0]
      · rw [hk 1 (by omega) (by omega), h1 1 (by omega) (by omega), f1]
      · rw [hk 2 (by omega) (by omega), h1 2 (by omega) (by omega), f2]
      · rw [hk 4 (by omega) (by omega), h1 4 (by omega) (by omega), f4]
      · rw [h5, ← f5]; simp [bowS, up2_app]
      · rw [h6, ← f6]; simp [bowS, up2_app]
      · rw [hk 8 (by omega) (by omega), h1 8 (by omega) (by omega), f8]
      · intro z
        rw [e2] at z
        rw [hk 3 (by omega) (by omega), h1 3 (by omega) (by omega), g1 z]
      · intro z
        rw [e2] at z
        rw [h1 3 (by omega) (by omega), g2 z]
      · intro z
        rw [e2] at z
        rw [hk 3 (by omega) (by omega), g3 z, h1 1 (by omega) (by omega)]
      · intro z
        rw [e2] at z
        rw [h1 7 (by omega) (by omega), g4 z]
      · intro z
        rw [e2] at z
        rw [hk 7 (by omega) (by omega), h1 7 (by omega) (by omega), g5 z]
    · rw [hrow _ (by omega), hq q e]
      exact rp q hqn
theorem reld_bow {S B B' : Mem} {n o : Nat} {v : Int32} (hD : RelD S B n) (h1 : B' (o + 1) 9 = B (o + 1) 9) (hq : ∀ q, q ≠ o → B' (q + 1) = B (q + 1)) : RelD (bowS S o v) B' n := by
  intro q hqn
  by_cases e : q = o
  · subst e
    rw [h1, ← hD q hqn]; simp [bowS, up2_app]
  · rw [hq q e, ← hD q hqn]
    unfold bowS
    rw [up2_ne _ _ _ _ (by omega), up2_ne _ _ _ _ (by omega)]
theorem bowA_ne {A : Mem} {o p q : Nat} (h : q ≠ o) : bowA A o p (q + 1) = A (q + 1) := by
  unfold bowA
  rw [up2_ne _ _ _ _ (by omega), up2_ne _ _ _ _ (by omega), up2_ne _ _ _ _ (by omega), up2_ne _ _ _ _ (by omega)]
def stayS (S : Mem) (p : Nat) : Mem := up2 (up2 (up2 S (4 + p) 9 3) (4 + p) 4 (S (4 + p) 4 + 1)) (4 + p) 8 (S (4 + p) 8 + 1)
theorem c_stay {b p : Nat} {S μ : Mem} {K : Mem → Prop} (hp : p < 24) (h : K (putS b (stayS S p) μ)) : wp_X2_stay (b + 2 + 2 + p) (putS b S μ) K := by
  unfold wp_X2_stay
  refine nm_e ?_
  rw [putS_upP b S μ hp]
  refine nm_e ?_
  rw [putS_P b _ μ hp, putS_upP b _ μ hp, up2_app, if_neg (by omega)]
  refine nm_e ?_
  rw [putS_P b _ μ hp, putS_upP b _ μ hp, up2_app, if_neg (by omega), up2_app, if_neg (by omega)]
  exact h
theorem staysA_ne {A : Mem} {p q : Nat} (h : q ≠ p) : staysA A p (q + 1) = A (q + 1) := by
  unfold staysA
  rw [up2_ne _ _ _ _ (by omega), up2_ne _ _ _ _ (by omega), up2_ne _ _ _ _ (by omega), up2_ne _ _ _ _ (by omega)]
theorem rel_stay {S A : Mem} {n p : Nat} (hR : RelC S A n) (hp : p < n) : RelC (stayS S p) (staysA A p) n := by
  obtain ⟨hn, r4, s4, s3, s5, rs, rc, rp⟩ := id hR
  have hrow : ∀ i, i ≠ 4 + p → stayS S p i = S i := fun i hi => by unfold stayS; rw [up2_ne _ _ _ _ hi, up2_ne _ _ _ _ hi, up2_ne _ _ _ _ hi]
  have h0 : ∀ k, k < 6 → staysA A p 0 k = A 0 k := fun k hk => by simp [staysA, up2_app, show k ≠ 8 by omega]
  have h1 : ∀ k, k ≠ 4 → k ≠ 8 → k ≠ 9 → staysA A p (p + 1) k = A (p + 1) k := fun k a b c => by simp [staysA, up2_app, a, b, c]
  have hk : ∀ k, k ≠ 4 → k ≠ 8 → k ≠ 9 → stayS S p (4 + p) k = S (4 + p) k := fun k a b c => by simp [stayS, up2_app, a, b, c]
  refine ⟨hn, by rw [h0 4 (by omega), r4], by rw [hrow 0 (by omega), s4], by rw [hrow 0 (by omega), s3, h0 5 (by omega)], by rw [hrow 0 (by omega), s5, h0 3 (by omega)], fun k hk => by rw [hrow 1 (by omega), rs k hk, h0 k (by omega)], fun s hs => ?_, fun q hqn => ?_⟩
  · rw [hrow 3 (by omega), rc s hs, cnt_congr (A := A) (B := staysA A p)]
    intro q _
    by_cases e : q = p
    · subst e
      exact ⟨h1 2 (by omega) (by omega) (by omega), h1 3 (by omega) (by omega) (by omega)⟩
    · rw [staysA_ne e]
      exact ⟨rfl, rfl⟩
  · by_cases e : q = p
    · subst e
      obtain ⟨⟨f0, f1, f2, f4, f5, f6, f8⟩, g1, g2, g3, g4, g5⟩ := rp q hqn
      have e2 := h1 2 (by omega) (by omega) (by omega)
      refine ⟨⟨?_, ?_, ?_, ?_, ?_, ?_, ?_⟩, ?_, ?_, ?_, ?_, ?_⟩
      · rw [hk 0 (by omega) (by omega) (by omega), h1 0 (by omega) (by omega) (by omega), f0]
      · rw [hk 1 (by omega) (by omega) (by omega), h1 1 (by omega) (by omega) (by omega), f1]
      · rw [hk 2 (by omega) (by omega) (by omega), h1 2 (by omega) (by omega) (by omega), f2]
      · simp [stayS, staysA, up2_app, f4]
      · rw [hk 5 (by omega) (by omega) (by omega), h1 5 (by omega) (by omega) (by omega), f5]
      · rw [hk 6 (by omega) (by omega) (by omega), h1 6 (by omega) (by omega) (by omega), f6]
      · simp [stayS, staysA, up2_app, f8]
      · intro z
        rw [e2] at z
        rw [hk 3 (by omega) (by omega) (by omega), h1 3 (by omega) (by omega) (by omega), g1 z]
      · intro z
        rw [e2] at z
        rw [h1 3 (by omega) (by omega) (by omega), g2 z]
      · intro z
        rw [e2] at z
        rw [hk 3 (by omega) (by omega) (by omega), g3 z, h1 1 (by omega) (by omega) (by omega)]
      · intro z
        rw [e2] at z
        rw [h1 7 (by omega) (by omega) (by omega), g4 z]
      · intro z
        rw [e2] at z
        rw [hk 7 (by omega) (by omega) (by omega), h1 7 (by omega) (by omega) (by omega), g5 z]
    · rw [hrow _ (by omega), staysA_ne e]
      exact rp q hqn
theorem reld_stay {S A : Mem} {n p : Nat} (hD : RelD S A n) : RelD (stayS S p) (staysA A p) n := by
  intro q hqn
  by_cases e : q = p
  · subst e
    simp [stayS, staysA, up2_app]
  · rw [staysA_ne e, ← hD q hqn]
    unfold stayS
    rw [up2_ne _ _ _ _ (by omega), up2_ne _ _ _ _ (by omega), up2_ne _ _ _ _ (by omega)]
/-! who is all right -/
theorem okp_congr {a c : Nat → Int32} (h : OkP a) (h0 : c 0 = a 0) (h1 : c 1 = a 1) (h2 : c 2 = a 2) (h3 : c 3 = a 3) : OkP c := by
  unfold OkP
  rw [h0, h1, h2, h3]
  exact h
theorem ok_goes {A : Mem} {n p : Nat} {s d : Int32} (h : OkA A n) (hs : stp s) : OkA (goesA A p s d) n := by
  intro q hq
  by_cases e : q = p
  · subst e
    obtain ⟨h1, h2, -, -⟩ := h q hq
    obtain ⟨t, ht, rfl⟩ := stp_ex hs
    refine ⟨?_, ?_, Or.inr (Or.inl (by simp [goesA, up2_app])), fun _ => ⟨t, ht, by simp [goesA, up2_app]⟩⟩
    · simpa [goesA, up2_app] using h1
    · simpa [goesA, up2_app] using h2
  · rw [goesA_ne e]
    exact h q hq
theorem ok_ends {A : Mem} {n p : Nat} {w : Int32} (h : OkA A n) (hw : w = 2 ∨ w = 3) : OkA (endsA A p w) n := by
  intro q hq
  by_cases e : q = p
  · subst e
    obtain ⟨h1, h2, -, -⟩ := h q hq
    have e2 : endsA A q w (q + 1) 2 = w := by simp [endsA, up2_app]
    refine ⟨?_, ?_, ?_, fun z => ?_⟩
    · simpa [endsA, up2_app] using h1
    · simpa [endsA, up2_app] using h2
    · rw [e2]
      rcases hw with rfl | rfl
      · exact Or.inr (Or.inr (Or.inl rfl))
      · exact Or.inr (Or.inr (Or.inr rfl))
    · rw [e2] at z
      rcases hw with rfl | rfl <;> exact absurd z (by decide)
  · rw [endsA_ne e]
    exact h q hq
theorem ok_bow {A : Mem} {n o p : Nat} (h : OkA A n) : OkA (bowA A o p) n := by
  intro q hq
  by_cases e : q = o
  · subst e
    exact okp_congr (h q hq) (by simp [bowA, up2_app]) (by simp [bowA, up2_app]) (by simp [bowA, up2_app]) (by simp [bowA, up2_app])
  · rw [bowA_ne e]
    exact h q hq
theorem ok_stays {A : Mem} {n p : Nat} (h : OkA A n) : OkA (staysA A p) n := by
  intro q hq
  by_cases e : q = p
  · subst e
    exact okp_congr (h q hq) (by simp [staysA, up2_app]) (by simp [staysA, up2_app]) (by simp [staysA, up2_app]) (by simp [staysA, up2_app])
  · rw [staysA_ne e]
    exact h q hq
theorem ok_ways {A B : Mem} {n o p : Nat} (h : OkA A n) (hB : waysA A o p n = some B) : OkA B n := by
  unfold waysA at hB
  split at hB
  · rename_i hs
    split at hB
    · cases hB
      exact ok_goes (ok_bow h) hs
    · cases hB
  · cases hB
    exact ok_ends (ok_bow h) (Or.inr rfl)
theorem ok_acts {A : Mem} {n p : Nat} (h : OkA A n) : OkA (actsA A p n) n := by
  unfold actsA
  split
  · rename_i hs
    split
    · exact ok_goes h hs
    · cases yrA A (nextA A p) p n with
      | none => exact ok_stays h
      | some o =>
        simp only [ylA]
        cases hw : waysA A o p n with
        | none => exact ok_stays h
        | some B => exact ok_goes (ok_ways h hw) hs
  · exact ok_ends h (Or.inl rfl)


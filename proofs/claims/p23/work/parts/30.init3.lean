/-! Staircase() -/
abbrev B3 : List Value := [.null, .null, .null, .int 0, .int 0, .int 0]
abbrev rm_X3_init : Room := { frames := 2, cells := 27, slots := 279, locals := 32 }
set_option maxHeartbeats 4000000 in
set_option maxRecDepth 100000 in
/-- the first loop: the settings' first values -/
theorem t_X3_L40 {g : Gv} {ad : Nat → Nat} {E : Nat → va_E} {b M : Nat} {A : Nat → Prop} {l : Launch} {p : Program} {e : Env} {s : State} {m : MethodId} {args : Array Value} {below : List Frame} {meth : Method} {c : Code} {cells slots : Nat} {Q : State → Prop} (C : CxN g p s m args c "StairBows$Staircase" cX3_init 2) {h0 q1 : Nat} {fs : List Value} (hM : b + 2 ≤ M) (a0 : ad b = h0) (a1 : ad (b + 1) = q1) (e0 : E b = .inr (3, fs)) (f0 : fs[0]? = some (.ref q1))
    (kk : ∀ (f : Nat → Int32) (H : Heap) (locs : List Loc) (ls : Array Slot), (∀ k, k < 3 → f k = firstV k) → Gw g ad (upE E (b + 1) (.inl (g.2 0, 3, .inl f))) b M A s H locs → lv_has ls 2 [(0, .ref h0)] → W p l e rm_X3_init s m args below meth c H locs cells slots Q (F0 m 66 ls [])) :
    ∀ (d j : Nat) (f : Nat → Int32) (H : Heap) (locs : List Loc) (ls : Array Slot), j + d = 3 → (∀ k, k < j → f k = firstV k) → Gw g ad (upE E (b + 1) (.inl (g.2 0, 3, .inl f))) b M A s H locs → lv_has ls 2 [(0, .ref h0), (1, .int (nI j))] → W p l e rm_X3_init s m args below meth c H locs cells slots Q (F0 m 40 ls []) := by
  obtain ⟨hx, hb, hml, hts, hown, hKK, hN⟩ := id C
  intro d
  induction d with
  | zero =>
    intro j f H locs ls hj hf w hl
    have : j = 3 := by omega
    subst this
    refine lv_iload_n hx hb dX3_init_40 rfl (lv_at hl 1 rfl) ?_
    refine lv_aload_n hx hb dX3_init_41 rfl (lv_at hl 0 rfl) ?_
    refine n_get C w (i := b) (ci := 3) (k := 0) (N := 6) (fs := fs) (v := .ref q1) (C := RX3) (T := TX3) (by omega) (by omega) a0 (by rw [upE_ne _ _ (by omega)]; exact e0) iX3 rfl (by decide) fl_Staircase_13 f0 dX3_init_42 ?_
    refine n_alen C w (i := b + 1) (t := 0) (ty := .int) (v := 3) (by omega) (by omega) a1 (upE_at _ _ _) rfl rfl dX3_init_45 ?_
    refine lv_icmp_ge (tgt := 66) hx hb dX3_init_46 (by decide) (fun _ => ?_) (fun c1 => absurd (by decide) c1)
    exact kk f H locs ls (fun k hk => hf k hk) w (lv_sub hl [0] rfl)
  | succ d ih =>
    intro j f H locs ls hj hf w hl
    obtain ⟨tF, tL, tG, ⟨hZ, hT⟩, -, -⟩ := w.2.2.2.2
    refine lv_iload_n hx hb dX3_init_40 rfl (lv_at hl 1 rfl) ?_
    refine lv_aload_n hx hb dX3_init_41 rfl (lv_at hl 0 rfl) ?_
    refine n_get C w (i := b) (ci := 3) (k := 0) (N := 6) (fs := fs) (v := .ref q1) (C := RX3) (T := TX3) (by omega) (by omega) a0 (by rw [upE_ne _ _ (by omega)]; exact e0) iX3 rfl (by decide) fl_Staircase_13 f0 dX3_init_42 ?_
    refine n_alen C w (i := b + 1) (t := 0) (ty := .int) (v := 3) (by omega) (by omega) a1 (upE_at _ _ _) rfl rfl dX3_init_45 ?_
    refine lv_icmp_ge (tgt := 66) hx hb dX3_init_46 (by decide) (fun c1 => absurd c1 (nI_ge (b := 3) (by omega) (by omega))) (fun _ => ?_)
    refine lv_aload_n hx hb dX3_init_49 rfl (lv_at hl 0 rfl) ?_
    refine n_get C w (i := b) (ci := 3) (k := 0) (N := 6) (fs := fs) (v := .ref q1) (C := RX3) (T := TX3) (by omega) (by omega) a0 (by rw [upE_ne _ _ (by omega)]; exact e0) iX3 rfl (by decide) fl_Staircase_13 f0 dX3_init_50 ?_
    refine lv_iload_n hx hb dX3_init_53 rfl (lv_at hl 1 rfl) ?_
    refine va_getsN hx hb hZ w.2.2.1 hown (va_Nw.use rfl hN.2.2.1) (fun _ h => h) dX3_init_54 ?_
    refine lv_iload_n hx hb dX3_init_57 rfl (lv_at hl 1 rfl) ?_
    refine va_ti (v := .int (firstV j)) hx hb hT w.2.2.1 (vp_in_nI (by omega) (by omega)) (by rw [nI_clamp (by omega)]) dX3_init_58 ?_
    refine n_iast C w (i := b + 1) (n := 3) (jn' := j) (f := f) (by omega) (by omega) a1 (upE_at _ _ _) (nI_clamp (by omega)) (vp_in_nI (by omega) (by omega)) dX3_init_59 (fun H1 locs1 w => ?_)
    rw [upE_upE] at w
    refine lv_iinc (v := nI (j + 1)) (lv' := [(1, .int (nI (j + 1))), (0, .ref h0)]) hx hb dX3_init_60 hl (k := 1) rfl (nI_1 j) (by decide) rfl (fun ls hl => ?_)
    refine lv_goto (tgt := 40) hx hb dX3_init_63 (by decide) ?_
    refine ih (j + 1) _ _ _ _ (by omega) (fun k hk => ?_) w (lv_sub hl [1, 0] rfl)
    unfold upd
    by_cases hkj : k = j
    · subst hkj; simp
    · simp only [hkj, if_false]
      exact hf k (by omega)
def SI (g : Gv) (ad : Nat → Nat) (E : Nat → va_E) (b h0 j : Nat) : Prop :=
  ad b = h0 ∧ E b = .inr (3, [.ref (ad (b + 1)), .ref (ad (b + 2)), .ref (ad (b + 3)), .int 272, .int 0, .int 0]) ∧ (∃ f, E (b + 1) = .inl (g.2 0, 3, .inl f) ∧ ∀ k, k < 3 → f k = firstV k) ∧ (∃ f, E (b + 2) = .inl (g.2 3, 24, .inr (.inr (.inr (.inr f)))) ∧ ∀ k, k < j → f k = some (ad (b + 4 + k))) ∧ E (b + 3) = .inl (g.2 0, 12, .inl (fun _ => 0)) ∧ ∀ k, k < j → E (b + 4 + k) = .inr (2, B2)
set_option maxHeartbeats 4000000 in
set_option maxRecDepth 100000 in
/-- the second loop: twenty-four people -/
theorem t_X3_L68 {g : Gv} {b : Nat} {A : Nat → Prop} {l : Launch} {p : Program} {e : Env} {s : State} {m : MethodId} {args : Array Value} {below : List Frame} {meth : Method} {c : Code} {Q : State → Prop} (C : CxN g p s m args c "StairBows$Staircase" cX3_init 2) {h0 : Nat} (hb28 : b + 28 ≤ 287) (hk : ∀ k, k < 24 → kd (b + 4 + k) = 13)
    (kk : ∀ (ad : Nat → Nat) (E : Nat → va_E) (H : Heap) (locs : List Loc) (ls : Array Slot), SI g ad E b h0 24 → Gw g ad E b (b + 4 + 24) A s H locs → W p l e rm_X3_init s m args below meth c H locs 27 279 Q (F0 m 96 ls [])) :
    ∀ (d j : Nat) (ad : Nat → Nat) (E : Nat → va_E) (H : Heap) (locs : List Loc) (ls : Array Slot), j + d = 24 → SI g ad E b h0 j → Gw g ad E b (b + 4 + j) A s H locs → lv_has ls 2 [(0, .ref h0), (1, .int (nI j))] → W p l e rm_X3_init s m args below meth c H locs (3 + j) (39 + 10 * j) Q (F0 m 68 ls []) := by
  obtain ⟨hx, hb, hml, hts, hown, hKK, hN⟩ := id C
  intro d
  induction d with
  | zero =>
    intro j ad E H locs ls hj hI w hl
    have : j = 24 := by omega
    subst this
    obtain ⟨a0, e0, e1, ⟨f2, e2, hf2⟩, e3, e4⟩ := id hI
    refine lv_iload_n hx hb dX3_init_68 rfl (lv_at hl 1 rfl) ?_
    refine lv_aload_n hx hb dX3_init_69 rfl (lv_at hl 0 rfl) ?_
    refine n_get C w (i := b) (ci := 3) (k := 1) (N := 6) (C := RX3) (T := TX3) (by omega) (by omega) a0 e0 iX3 rfl (by decide) fl_Staircase_20 rfl dX3_init_70 ?_
    refine n_alen C w (i := b + 2) (t := 3) (ty := .object "StairBows$Person") (v := 24) (by omega) (by omega) rfl e2 rfl rfl dX3_init_73 ?_
    refine lv_icmp_ge (tgt := 96) hx hb dX3_init_74 (by decide) (fun _ => ?_) (fun c1 => absurd (by decide) c1)
    exact W.widen (k := 27) (n := 279) (by omega) (by omega) (kk ad E H locs ls hI w)
  | succ d ih =>
    intro j ad E H locs ls hj hI w hl
    obtain ⟨a0, e0, ⟨f1, e1, hf1⟩, ⟨f2, e2, hf2⟩, e3, e4⟩ := id hI
    refine lv_iload_n hx hb dX3_init_68 rfl (lv_at hl 1 rfl) ?_
    refine lv_aload_n hx hb dX3_init_69 rfl (lv_at hl 0 rfl) ?_
    refine n_get C w (i := b) (ci := 3) (k := 1) (N := 6) (C := RX3) (T := TX3) (by omega) (by omega) a0 e0 iX3 rfl (by decide) fl_Staircase_20 rfl dX3_init_70 ?_
    refine n_alen C w (i := b + 2) (t := 3) (ty := .object "StairBows$Person") (v := 24) (by omega) (by omega) rfl e2 rfl rfl dX3_init_73 ?_
    refine lv_icmp_ge (tgt := 96) hx hb dX3_init_74 (by decide) (fun c1 => absurd c1 (nI_ge (b := 24) (by omega) (by omega))) (fun _ => ?_)
    refine lv_aload_n hx hb dX3_init_77 rfl (lv_at hl 0 rfl) ?_
    refine n_get C w (i := b) (ci := 3) (k := 1) (N := 6) (C := RX3) (T := TX3) (by omega) (by omega) a0 e0 iX3 rfl (by decide) fl_Staircase_20 rfl dX3_init_78 ?_
    refine lv_iload_n hx hb dX3_init_81 rfl (lv_at hl 1 rfl) ?_
    refine n_new C w (by omega) (ci := 2) (fs := B2) (C := RX2) (T := TX2) (N := 10) iX2 tyX2 tyX2_ok cl_Staircase_18 ib_X2_init it_X2_init rfl (fun k hk => ?_) (by show 3 + j + 1 ≤ 27; omega) (by show 39 + 10 * j + 10 ≤ 279; omega) dX3_init_82 (fun q H1 w => ?_)
    · have : k = 0 ∨ k = 1 ∨ k = 2 ∨ k = 3 ∨ k = 4 ∨ k = 5 ∨ k = 6 ∨ k = 7 ∨ k = 8 ∨ k = 9 := by omega
      rcases this with rfl | rfl | rfl | rfl | rfl | rfl | rfl | rfl | rfl | rfl <;> rfl
    refine lv_dup hx hb dX3_init_85 rfl ?_
    refine n_back w (by omega) (Nat.le_refl _) (by omega) (q := q) (e1 := .inr (2, B2)) (upN_at _ _ _) (upE_at _ _ _) (n_runN C w (by omega) (upN_at _ _ _) (upE_at _ _ _) (c_X2_init l g q H1.size (b + 4 + j) (hk j (by omega))) cd_X2_init it_X2_init hN.1 in_X2_init rfl (by decide +kernel) ⟨rfl, rfl⟩ ⟨Nat.le_of_ble_eq_true rfl, Nat.le_of_ble_eq_true rfl⟩ hl.1 rfl (Nat.le_of_ble_eq_true rfl) dX3_init_86 ⟨by show 3 + j + 1 + 0 ≤ 27; omega, by show 39 + 10 * j + 10 + 0 ≤ 279; omega⟩) (fun ad' H2 locs2 hag w => ?_)
    have ag : ∀ i, i < b + 4 + j → ad' i = ad i := fun i hi => by rw [hag i (by omega), upN_ne _ _ (by omega)]
    have aq : ad' (b + 4 + j) = q := by rw [hag _ (Nat.le_refl _), upN_at]
    have Ee : ∀ i, i < b + 4 + j → jn (b + 4 + j) (upE E (b + 4 + j) (.inr (2, B2))) (lay g ad' mu0) i = E i := fun i hi => by rw [jn_lt _ _ hi, upE_ne _ _ (by omega)]
    have Eq : jn (b + 4 + j) (upE E (b + 4 + j) (.inr (2, B2))) (lay g ad' mu0) (b + 4 + j) = .inr (2, B2) := by rw [jn_ge _ _ (Nat.le_refl _), lay_13 (hk j (by omega))]
    refine n_astq C w (i := b + 2) (i2 := b + 4 + j) (t := 3) (n := 24) (jn' := j) (f := f2) (ci := 2) (r := (RX2, TX2, 10)) (by omega) (by omega) (ag _ (by omega)) ((Ee _ (by omega)).trans e2) rfl (by omega) (by omega) aq Eq rfl (nI_clamp (by omega)) (vp_in_nI (by omega) (by omega)) dX3_init_89 (fun H3 locs3 w => ?_)
    refine lv_iinc (v := nI (j + 1)) (lv' := [(1, .int (nI (j + 1))), (0, .ref h0)]) hx hb dX3_init_90 hl (k := 1) rfl (nI_1 j) (by decide) rfl (fun ls hl => ?_)
    refine lv_goto (tgt := 68) hx hb dX3_init_93 (by decide) ?_
    refine W.widen (k := 3 + (j + 1)) (n := 39 + 10 * (j + 1)) (by omega) (by omega) ?_
    refine ih (j + 1) ad' _ _ _ _ (by omega) ⟨?_, ?_, ⟨f1, ?_, hf1⟩, ⟨va_up f2 j (some q), upE_at _ _ _, fun k hk => ?_⟩, ?_, fun k hk => ?_⟩ w (lv_sub hl [1, 0] rfl)
    · rw [ag _ (by omega), a0]
    · rw [upE_ne _ _ (by omega), Ee _ (by omega), e0, ag _ (by omega), ag _ (by omega), ag _ (by omega)]
    · rw [upE_ne _ _ (by omega), Ee _ (by omega), e1]
    · unfold va_up
      by_cases hkj : k = j
      · subst hkj
        simp [aq]
      · simp only [hkj, if_false]
        rw [hf2 k (by omega), ag _ (by omega)]
    · rw [upE_ne _ _ (by omega), Ee _ (by omega), e3]
    · rw [upE_ne _ _ (by omega)]
      by_cases hkj : k = j
      · subst hkj
        exact Eq
      · rw [Ee _ (by omega), e4 k (by omega)]
set_option maxHeartbeats 4000000 in
set_option maxRecDepth 100000 in
theorem c_X3_init (l : Launch) (g : Gv) (h0 sz b : Nat) (hb28 : b + 28 ≤ 287) (hk : ∀ o, o < 28 → kd (b + o) = ks o) : Met l yX3_init (wX yX3_init cX3_init 2 none) rm_X3_init (PreN g [(h0, .inr (3, B3))] sz [.ref h0]) (PostN g b (b + 28) [(h0, .inr (3, B3))] sz h0) 27 279 (va_A [(h0, .inr (3, B3))] sz) := by
  have k13 : ∀ k, k < 24 → kd (b + 4 + k) = 13 := fun k hk2 => by
    have := hk (4 + k) (by omega)
    rw [show b + (4 + k) = b + 4 + k by omega] at this
    rw [this]
    unfold ks
    rw [if_neg (by omega), if_neg (by omega), if_neg (by omega), if_neg (by omega)]
  have dd : b ≠ b + 1 + 1 ∧ b ≠ b + 1 + 1 + 1 ∧ b + 1 ≠ b + 1 + 1 + 1 ∧ b + 1 ≠ b + 1 + 1 ∧ b + 1 + 1 ≠ b + 1 + 1 + 1 ∧ b + 2 = b + 1 + 1 ∧ b + 3 = b + 1 + 1 + 1 := by omega
  refine Met.ofW (cc := cX3_init) (maxL := 2) (ret := none) (by decide) rfl ?_
  intro p e s m args below meth c s₁ B hml hv
  obtain ⟨rfl, rfl, C, w⟩ := n_start (b := b) B hml hv
  obtain ⟨hx, hb, hml, hts, hown, hKK, hN⟩ := id C
  have hin : meth.name = "<init>" := (name_of_methodNamed B.named B.method).1
  have hl := lv_entry ([.ref h0]) (n := 2) (Nat.le_of_ble_eq_true rfl)
  rw [lg_entry_eq]
  generalize (lg_sl ([.ref h0]) ++ List.replicate (2 - (lg_sl ([.ref h0])).length) Slot.unset).toArray = ls at hl ⊢
  have hl : lv_has ls 2 [(0, .ref h0)] := hl
  obtain ⟨tF, tL, tG, ⟨hZ, hT⟩, -, -⟩ := w.2.2.2.2
  refine lv_aload_n hx hb dX3_init_0 rfl (lv_at hl 0 rfl) ?_
  refine n_obj C hl.1 ml2_Staircase_3 dX3_init_1 (Nat.le_of_ble_eq_true rfl) (Nat.le_of_ble_eq_true rfl) ?_
  refine lv_aload_n hx hb dX3_init_4 rfl (lv_at hl 0 rfl) ?_
  refine va_getsN hx hb hZ w.2.2.1 hown (va_Nw.use rfl hN.2.2.1) (fun _ h => h) dX3_init_5 ?_
  refine va_tlen (v := 3) hx hb hT w.2.2.1 rfl dX3_init_8 ?_
  refine n_newa C w (by omega) (atype := .int) (t := 0) (ty := .int) ac_int rfl rfl (N' := 3) (a0 := (3, .inl (fun _ => 0))) (fun _ => rfl) (by decide) rfl (by decide) (Nat.le_of_ble_eq_true rfl) (Nat.le_of_ble_eq_true rfl) dX3_init_9 (fun q1 H1 w => ?_)
  refine n_putF C w hin (i := b) (ci := 3) (k := 0) (N := 6) (fs := B3) (C := RX3) (T := TX3) (by omega) (by omega) (by simp [upN, dd]) (by simp [upE, dd]) iX3 tyX3 tyX3_ok nmX3 rfl (by decide) fl_Staircase_13 rfl rfl rfl rfl rfl (Nat.le_of_ble_eq_true rfl) dX3_init_11 (fun H2 locs2 w => ?_)
  refine lv_aload_n hx hb dX3_init_14 rfl (lv_at hl 0 rfl) ?_
  refine lv_bipush (v := 24) hx hb dX3_init_15 (by decide) ?_
  refine n_newq C w (by omega) (t := 3) (N' := 24) cl_Staircase_18 hN.2.2.2.1 rfl (by decide) rfl (by decide) (Nat.le_of_ble_eq_true rfl) (Nat.le_of_ble_eq_true rfl) dX3_init_17 (fun q2 H3 w => ?_)
  refine n_putF C w hin (i := b) (ci := 3) (k := 1) (N := 6) (fs := [.ref q1, .null, .null, .int 0, .int 0, .int 0]) (C := RX3) (T := TX3) (by omega) (by omega) (by simp [upN, dd]) (by simp [upE, dd]) iX3 tyX3 tyX3_ok nmX3 rfl (by decide) fl_Staircase_20 rfl rfl rfl rfl rfl (Nat.le_of_ble_eq_true rfl) dX3_init_20 (fun H4 locs4 w => ?_)
  refine lv_aload_n hx hb dX3_init_23 rfl (lv_at hl 0 rfl) ?_
  refine lv_bipush (v := 12) hx hb dX3_init_24 (by decide) ?_
  refine n_newa C w (by omega) (atype := .int) (t := 0) (ty := .int) ac_int rfl rfl (N' := 12) (a0 := (12, .inl (fun _ => 0))) (fun _ => rfl) (by decide) rfl (by decide) (Nat.le_of_ble_eq_true rfl) (Nat.le_of_ble_eq_true rfl) dX3_init_26 (fun q3 H5 w => ?_)
  refine n_putF C w hin (i := b) (ci := 3) (k := 2) (N := 6) (fs := [.ref q1, .ref q2, .null, .int 0, .int 0, .int 0]) (C := RX3) (T := TX3) (by omega) (by omega) (by simp [upN, dd]) (by simp [upE, dd]) iX3 tyX3 tyX3_ok nmX3 rfl (by decide) fl_Staircase_24 rfl rfl rfl rfl rfl (Nat.le_of_ble_eq_true rfl) dX3_init_28 (fun H6 locs6 w => ?_)
  refine lv_aload_n hx hb dX3_init_31 rfl (lv_at hl 0 rfl) ?_
  refine lv_sipush (v := 272) hx hb dX3_init_32 (by decide) ?_
  refine n_put C w (i := b) (ci := 3) (k := 3) (N := 6) (fs := [.ref q1, .ref q2, .ref q3, .int 0, .int 0, .int 0]) (C := RX3) (T := TX3) (by omega) (by omega) (by simp [upN, dd]) (by simp [upE, dd]) iX3 tyX3 tyX3_ok nmX3 rfl (by decide) fl_Staircase_27 rfl rfl rfl rfl (Nat.le_of_ble_eq_true rfl) dX3_init_35 (fun H7 locs7 w => ?_)
  refine lv_iconst (v := 0) hx hb dX3_init_38 (by decide) ?_
  refine lv_istore_n (lv' := [(1, .int 0), (0, .ref h0)]) hx hb dX3_init_39 rfl hl (by decide) rfl (fun ls hl => ?_)
  have rest : ∀ (ad : Nat → Nat) (E : Nat → va_E) (f1 f2) (H : Heap) (locs : List Loc) (ls : Array Slot), ad b = h0 → ad (b + 1) = q1 → ad (b + 2) = q2 → ad (b + 3) = q3 → E b = .inr (3, [.ref q1, .ref q2, .ref q3, .int 272, .int 0, .int 0]) → E (b + 1) = .inl (g.2 0, 3, .inl f1) → (∀ k, k < 0 → f1 k = firstV k) → E (b + 2) = .inl (g.2 3, 24, .inr (.inr (.inr (.inr f2)))) → E (b + 3) = .inl (g.2 0, 12, .inl (fun _ => 0)) → Gw g ad E b (b + 4) (va_A [(h0, .inr (3, B3))] s.heap.size) s H locs → lv_has ls 2 [(0, .ref h0), (1, .int (nI 0))] → W p l e rm_X3_init s m [Value.ref h0].toArray below meth c H locs 3 39 (MQ below (PostN g b (b + 28) [(h0, .inr (3, B3))] s.heap.size h0) [Value.ref h0].toArray s 27 279 (va_A [(h0, .inr (3, B3))] s.heap.size)) (F0 m 40 ls []) := by
    intro ad E f1 f2 H locs ls a0 a1 a2 a3 e0 e1 hf1 e2 e3 w hl
    have w' : Gw g ad (upE E (b + 1) (.inl (g.2 0, 3, .inl f1))) b (b + 4) (va_A [(h0, .inr (3, B3))] s.heap.size) s H locs := by
      have : upE E (b + 1) (.inl (g.2 0, 3, .inl f1)) = E := by
        funext i
        unfold upE
        by_cases hi : i = b + 1
        · rw [if_pos hi, hi, e1]
        · rw [if_neg hi]
      rw [this]
      exact w
    refine t_X3_L40 C (by omega) a0 a1 e0 rfl (fun f H locs ls hf w hl => ?_) 3 0 f1 H locs ls (by omega) hf1 w' hl
    refine lv_iconst (v := 0) hx hb dX3_init_66 (by decide) ?_
    refine lv_istore_n (lv' := [(1, .int 0), (0, .ref h0)]) hx hb dX3_init_67 rfl hl (by decide) rfl (fun ls hl => ?_)
    refine t_X3_L68 C hb28 k13 (fun ad E H locs ls hI w => ?_) 24 0 ad _ H locs ls (by omega) ⟨a0, ?_, ⟨f, upE_at _ _ _, hf⟩, ⟨f2, ?_, fun k hk => by omega⟩, ?_, fun k hk => by omega⟩ w (lv_sub hl [1, 0] rfl)
    · obtain ⟨a0, e0, ⟨f1, e1, hf1⟩, ⟨f2, e2, hf2⟩, e3, e4⟩ := hI
      refine n_vret C B.returns B.notSynchronized w a0 (fun i h1 h2 => ?_) dX3_init_96
      have k0 : kd b = 9 := hk 0 (by omega)
      have k1 : kd (b + 1) = 10 := hk 1 (by omega)
      have k2 : kd (b + 2) = 11 := hk 2 (by omega)
      have k3 : kd (b + 3) = 12 := hk 3 (by omega)
      have : i = b ∨ i = b + 1 ∨ i = b + 2 ∨ i = b + 3 ∨ ∃ k, k < 24 ∧ i = b + 4 + k := by
        by_cases h4 : b + 4 ≤ i
        · exact Or.inr (Or.inr (Or.inr (Or.inr ⟨i - (b + 4), by omega, by omega⟩)))
        · omega
      rcases this with rfl | rfl | rfl | rfl | ⟨k, hk2, rfl⟩
      · rw [e0]
        refine Cv.of ?_
        unfold lay mu0
        rw [k0]
        rfl
      · rw [e1]
        unfold lay mu0
        rw [k1]
        exact Cv.i hf1
      · rw [e2]
        unfold lay mu0
        rw [k2]
        exact Cv.q (fun j hj => by rw [hf2 j hj, show b + 2 + 2 + j = b + 4 + j by omega])
      · rw [e3]
        refine Cv.of ?_
        unfold lay mu0
        rw [k3]
        rfl
      · rw [e4 k hk2, lay_13 (k13 k hk2)]
        exact Cv.of rfl
    · rw [upE_ne _ _ (by omega), e0, a1, a2, a3]
    · rw [upE_ne _ _ (by omega), e2]
    · rw [upE_ne _ _ (by omega), e3]
  refine rest _ _ (fun _ => 0) (fun _ => none) _ _ ls (by simp [upN, dd]) (by simp [upN, dd]) (by simp [upN, dd]) (by simp [upN, dd]) ?_ ?_ (fun k hk => by omega) ?_ ?_ w (lv_sub hl [1, 0] rfl)
  · simp [upE, dd, Ne.symm dd.1, Ne.symm dd.2.1, Ne.symm dd.2.2.1, Ne.symm dd.2.2.2.1, Ne.symm dd.2.2.2.2.1]
  · simp [upE, dd, Ne.symm dd.1, Ne.symm dd.2.1, Ne.symm dd.2.2.1, Ne.symm dd.2.2.2.1, Ne.symm dd.2.2.2.2.1]
  · simp [upE, dd, Ne.symm dd.1, Ne.symm dd.2.1, Ne.symm dd.2.2.1, Ne.symm dd.2.2.2.1, Ne.symm dd.2.2.2.2.1]
  · simp [upE, dd, Ne.symm dd.1, Ne.symm dd.2.1, Ne.symm dd.2.2.1, Ne.symm dd.2.2.2.1, Ne.symm dd.2.2.2.2.1]

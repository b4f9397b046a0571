/-! THE CLAIM OUT OF ONE WALK OF THE LAW'S BODY. Your part is whole_start (and what it stands on); all else here is the same for every law, but numbers. -/
def R_law : String := "StairBowsLaw"
def lw_P (b : Addr) (xs : List Int32) (args : Array Value) (s : State) : Prop := args = #[.ref b] ∧ s.IntsAt b xs ∧ xs.length ≤ 260 ∧ (Jvm.Cond.and given_1 narrow_1).before args s = true
def lw_Q (_ : Array Value) (s : State) (o : Outcome) (t : State) : Prop := o = .returned (some (.int 1)) ∧ Framed s o t [] 600000 7302250
def lw_Z (below : List Frame) (a : Array Value) (s : State) : State → Prop := fun t => ∃ o, t.status = .running ∧ Ended t below o ∧ lw_Q a s o t
/-- the law's own end, with 1 on the stack, nothing written that was there before, its room as the claim has it -/
theorem lw_ret {p : Program} {l : Launch} {e : Env} {s : State} {m : MethodId} {below : List Frame} {meth : Method} {c : Code} {b : Nat} (hx : p.tables.exec = Jvm.exec) (hb : c.code = code) (hr : meth.sig.returnType = ret) (hlocks : meth.locks = false) {pc : Nat} {H : Heap} {ls : Array Slot} (hdg : decode code pc = .ok (.ireturn, 1)) : W p l e room_1 s m #[Value.ref b] below meth c H [] 600000 7302250 (lw_Z below #[Value.ref b] s) (F0 m pc ls [.int 1]) := by
  intro T hT X
  obtain ⟨fs, hret, hrun, hended, hW, hframe⟩ := X.leave (v := some (.int 1)) (hlocks := hlocks) (fun h => by rw [hr] at h; cases h)
  have hmeth' : T.vm.method? m = some meth := X.method'
  refine ⟨T.setFrames fs, ?_, .returned (some (.int 1)), hrun, hended, rfl, ⟨_, rfl⟩, hW, hframe⟩
  jvm_step X.here [X.here.top, hx, hb, hdg, hmeth', hr, ret, narrow_b1]
  (try refine ⟨rfl, ?_⟩); (try refine ⟨rfl, ?_⟩)
  first | (intro acts; rw [hret _ acts rfl rfl rfl]) | rw [hret _ _ rfl rfl rfl]
  exact Steps.refl _
/-- what holds at the law's entry: the machine, the code, the tables' words (any of lw_tbl by 'hts w (by decide +kernel)'), the script of L ints xs at the cell b, what the Statement gives of the start (any of its parts by flat_of_before) -/
def lw_At (p : Program) (s : State) (m : MethodId) (meth : Method) (c : Code) (b L : Nat) (xs : Nat → Int32) : Prop :=
  p.tables.exec = Jvm.exec ∧ c.code = code ∧ meth.sig.returnType = ret ∧ c.maxLocals = 5 ∧ s.vm.findClass R_law = some m.cls ∧ (∀ w ∈ lw_tbl, w.before #[Value.ref b] s = true) ∧ va_X b L xs s s.heap ∧ b < s.heap.size ∧ meth.locks = false ∧ (Jvm.Cond.and given_1 narrow_1).before #[Value.ref b] s = true
-- ===== YOUR PART BEGINS =====
set_option maxHeartbeats 4000000 in
set_option maxRecDepth 100000 in
theorem law_exit {g : Gv} {ad ad2 : Nat → Nat} {l : Launch} {p : Program} {e : Env} {s : State} {m : MethodId} {below : List Frame} {meth : Method} {c : Code} {b L : Nat} {xs : Nat → Int32} (C : Cx g p s m #[Value.ref b] meth c "StairBowsLaw" cL_law 5 ret) (hX : va_X b L xs s s.heap) (hbl : b < s.heap.size) (hL : L ≤ 260) {T : Nat} {μ μ2 : Mem} {H : Heap} {locs : List Loc} {ls : Array Slot} (hT : Tn μ μ2 T) (w : Wd2 g ad μ ad2 μ2 (fun q : Nat => s.heap.size ≤ q) s H locs) (hl : lv_has ls 5 [(0, .ref b), (1, .ref (ad 0)), (2, .ref (ad2 0)), (3, .int 1)]) : W p l e room_1 s m #[Value.ref b] below meth c H locs 700 6400 (lw_Z below #[Value.ref b] s) (F0 m 106 ls []) := by
  obtain ⟨hx, hb, hml, hr, hts, hown, hlocks, -, hN⟩ := id C
  refine lv_iload_n hx hb dL_law_106 rfl (lv_at hl 3 rfl) ?_
  refine lv_if_eq (tgt := 135) hx hb dL_law_107 (by decide) (fun z => absurd z (by decide)) (fun _ => ?_)
  refine lv_aload_n hx hb dL_law_110 rfl (lv_at hl 1 rfl) ?_
  refine x2_calli (mc := 1) (ms := 4) C w (x_runSM (ad := ad) (As := [.ref (ad 0)]) (rest := []) C w.1 me_L_isWell ml_StairBowsLaw_88 (c_L_isWell l g ad μ _ (well_tn (K := fun r ω => r = 1 ∧ Tn ω μ2 T) hT (fun ω hω => ⟨rfl, hω⟩))) ⟨rfl, rfl⟩ ⟨Nat.le_of_ble_eq_true rfl, Nat.le_of_ble_eq_true rfl⟩ rfl hl.1 rfl (Nat.le_of_ble_eq_true rfl) dL_law_111 ⟨Nat.le_of_ble_eq_true rfl, Nat.le_of_ble_eq_true rfl⟩) (fun r μ h H locs w => ?_)
  obtain ⟨rfl, hT⟩ := h
  refine lv_if_eq (tgt := 135) hx hb dL_law_114 (by decide) (fun z => absurd z (by decide)) (fun _ => ?_)
  refine lv_aload_n hx hb dL_law_117 rfl (lv_at hl 1 rfl) ?_
  refine lv_aload_n hx hb dL_law_118 rfl (lv_at hl 2 rfl) ?_
  refine lv_aload_n hx hb dL_law_119 rfl (lv_at hl 0 rfl) ?_
  refine lv_bipush (v := 60) hx hb dL_law_120 (by decide) ?_
  refine x_cell (j := 60) C w hX hbl hL (Nat.le_refl _) ⟨Nat.le_of_ble_eq_true rfl, Nat.le_of_ble_eq_true rfl⟩ hl.1 (Nat.le_of_ble_eq_true rfl) dL_law_122 ⟨Nat.le_of_ble_eq_true rfl, Nat.le_of_ble_eq_true rfl⟩ (fun x H locs w => ?_)
  refine x2_calli2 C w (x2_runS (As := [.ref (ad 0), .ref (ad2 0), .int x]) (rest := []) C w me_L_areAlike ml_StairBowsLaw_92 (c_L_areAlike l g ad μ ad2 μ2 _ x (alike_tn (K := fun r _ _ => r = 1) hT (fun _ _ => rfl))) ⟨rfl, rfl⟩ ⟨Nat.le_of_ble_eq_true rfl, Nat.le_of_ble_eq_true rfl⟩ rfl hl.1 rfl (Nat.le_of_ble_eq_true rfl) dL_law_125 ⟨Nat.le_of_ble_eq_true rfl, Nat.le_of_ble_eq_true rfl⟩) (fun r μ μ2 h H locs w => ?_)
  subst h
  refine lv_if_eq (tgt := 135) hx hb dL_law_128 (by decide) (fun z => absurd z (by decide)) (fun _ => ?_)
  refine lv_iconst (v := 1) hx hb dL_law_131 (by decide) ?_
  refine lv_goto (tgt := 136) hx hb dL_law_132 (by decide) ?_
  refine va_forget (fun q hq => w.1.2.2.1.2.2 q hq) ?_
  refine W.widen (k := 600000) (n := 7302250) (Nat.le_of_ble_eq_true rfl) (Nat.le_of_ble_eq_true rfl) ?_
  exact lw_ret hx hb hr hlocks dL_law_136
set_option maxHeartbeats 4000000 in
set_option maxRecDepth 100000 in
theorem law_loop {g : Gv} {ad ad2 : Nat → Nat} {l : Launch} {p : Program} {e : Env} {s : State} {m : MethodId} {below : List Frame} {meth : Method} {c : Code} {b L : Nat} {xs : Nat → Int32} (C : Cx g p s m #[Value.ref b] meth c "StairBowsLaw" cL_law 5 ret) (hX : va_X b L xs s s.heap) (hbl : b < s.heap.size) (hL : L ≤ 260) :
    ∀ (d i : Nat) (μ μ2 : Mem) (H : Heap) (locs : List Loc) (ls : Array Slot), i + d = 60 → Tn μ μ2 (99 * i) → Wd2 g ad μ ad2 μ2 (fun q : Nat => s.heap.size ≤ q) s H locs → lv_has ls 5 [(0, .ref b), (1, .ref (ad 0)), (2, .ref (ad2 0)), (3, .int 1), (4, .int (nI i))] → W p l e room_1 s m #[Value.ref b] below meth c H locs (574 + i) (5860 + 4 * i) (lw_Z below #[Value.ref b] s) (F0 m 45 ls []) := by
  obtain ⟨hx, hb, hml, hr, hts, hown, hlocks, -, hN⟩ := id C
  intro d
  induction d with
  | zero =>
    intro i μ μ2 H locs ls hi hT w hl
    have : i = 60 := by omega
    subst this
    refine lv_iload hx hb dL_law_45 (lv_at hl 4 rfl) ?_
    refine lv_bipush (v := 60) hx hb dL_law_47 (by decide) ?_
    refine lv_icmp_ge (tgt := 106) hx hb dL_law_49 (by decide) (fun _ => ?_) (fun z => absurd (by decide) z)
    refine W.widen (k := 700) (n := 6400) (Nat.le_of_ble_eq_true rfl) (Nat.le_of_ble_eq_true rfl) ?_
    exact law_exit C hX hbl hL hT w (lv_sub hl [0, 1, 2, 3] rfl)
  | succ d ih =>
    intro i μ μ2 H locs ls hi hT w hl
    have r1 : room_1.cells = 600000 := rfl
    have r2 : room_1.slots = 7302250 := rfl
    have hcs : 574 + i + 1 ≤ room_1.cells ∧ 5860 + 4 * i + 4 ≤ room_1.slots := by rw [r1, r2]; omega
    have hcs0 : 574 + i ≤ room_1.cells ∧ 5860 + 4 * i ≤ room_1.slots := ⟨by omega, by omega⟩
    refine lv_iload hx hb dL_law_45 (lv_at hl 4 rfl) ?_
    refine lv_bipush (v := 60) hx hb dL_law_47 (by decide) ?_
    refine lv_icmp_ge (tgt := 106) hx hb dL_law_49 (by decide) (fun z => absurd z (nI_ge (b := 60) (by omega) (by omega))) (fun _ => ?_)
    refine lv_iload_n hx hb dL_law_52 rfl (lv_at hl 3 rfl) ?_
    refine lv_if_eq (tgt := 106) hx hb dL_law_53 (by decide) (fun z => absurd z (by decide)) (fun _ => ?_)
    refine lv_aload_n hx hb dL_law_56 rfl (lv_at hl 1 rfl) ?_
    refine lv_aload_n hx hb dL_law_57 rfl (lv_at hl 2 rfl) ?_
    refine lv_aload_n hx hb dL_law_58 rfl (lv_at hl 0 rfl) ?_
    refine lv_iload hx hb dL_law_59 (lv_at hl 4 rfl) ?_
    refine x_cell (j := i) C w hX hbl hL (by omega) ⟨Nat.le_of_ble_eq_true rfl, Nat.le_of_ble_eq_true rfl⟩ hl.1 (Nat.le_of_ble_eq_true rfl) dL_law_61 hcs0 (fun x H locs w => ?_)
    refine lv_aload_n hx hb dL_law_64 rfl (lv_at hl 0 rfl) ?_
    refine lv_iload hx hb dL_law_65 (lv_at hl 4 rfl) ?_
    refine lv_iconst (v := 1) hx hb dL_law_67 (by decide) ?_
    refine lv_iadd hx hb dL_law_68 ?_
    rw [nI_1]
    refine x_cell (j := i + 1) C w hX hbl hL (by omega) ⟨Nat.le_of_ble_eq_true rfl, Nat.le_of_ble_eq_true rfl⟩ hl.1 (Nat.le_of_ble_eq_true rfl) dL_law_69 hcs0 (fun y0 H locs w => ?_)
    refine lv_iconst (v := 2) hx hb dL_law_72 (by decide) ?_
    refine lv_ishr hx hb dL_law_73 ?_
    generalize y0 >>> (2 &&& 31) = y
    refine x2_calli2 C w (x2_runS (As := [.ref (ad 0), .ref (ad2 0), .int x, .int y]) (rest := []) C w me_L_isStep ml_StairBowsLaw_84 (c_L_isStep l g ad μ ad2 μ2 _ x y (ok_isStep (T := 99 * i) (K := fun r ω ω2 => r = 1 ∧ Tn ω ω2 (99 * i + 99)) (by omega) hT (fun ω ω2 h => ⟨rfl, h⟩))) ⟨rfl, rfl⟩ ⟨Nat.le_of_ble_eq_true rfl, Nat.le_of_ble_eq_true rfl⟩ rfl hl.1 rfl (Nat.le_of_ble_eq_true rfl) dL_law_74 hcs0) (fun r μ μ2 h H locs w => ?_)
    obtain ⟨rfl, hT⟩ := h
    refine lv_if_eq (tgt := 98) hx hb dL_law_77 (by decide) (fun z => absurd z (by decide)) (fun _ => ?_)
    -- from 94 on
    have fin : ∀ (μ : Mem) (H : Heap) (locs : List Loc), Tn μ μ2 (99 * i + 99) → Wd2 g ad μ ad2 μ2 (fun q : Nat => s.heap.size ≤ q) s H locs → W p l e room_1 s m #[Value.ref b] below meth c H locs (574 + i + 1) (5860 + 4 * i + 4) (lw_Z below #[Value.ref b] s) (F0 m 94 ls []) := fun μ H locs hT w => by
      refine lv_iconst (v := 1) hx hb dL_law_94 (by decide) ?_
      refine lv_goto (tgt := 99) hx hb dL_law_95 (by decide) ?_
      refine lv_istore_n (lv' := [(3, .int 1), (0, .ref b), (1, .ref (ad 0)), (2, .ref (ad2 0)), (4, .int (nI i))]) hx hb dL_law_99 rfl hl (by decide) rfl (fun ls hl => ?_)
      refine lv_iinc (v := nI (i + 1)) (lv' := [(4, .int (nI (i + 1))), (3, .int 1), (0, .ref b), (1, .ref (ad 0)), (2, .ref (ad2 0))]) hx hb dL_law_100 hl (k := 4) rfl (nI_1 i) (by decide) rfl (fun ls hl => ?_)
      refine lv_goto (tgt := 45) hx hb dL_law_103 (by decide) ?_
      refine W.widen (k := 574 + (i + 1)) (n := 5860 + 4 * (i + 1)) (by omega) (by omega) ?_
      exact ih (i + 1) μ μ2 H locs ls (by omega) (by rw [show 99 * (i + 1) = 99 * i + 99 by omega]; exact hT) w (lv_sub hl [2, 3, 4, 1, 0] rfl)
    refine lv_iload hx hb dL_law_80 (lv_at hl 4 rfl) ?_
    refine lv_iconst (v := 3) hx hb dL_law_82 (by decide) ?_
    refine lv_irem hx hb dL_law_83 (by decide) ?_
    refine lv_if_gt (tgt := 94) hx hb dL_law_84 (by decide) (fun _ => ?_) (fun _ => ?_)
    · exact W.widen (k := 574 + i + 1) (n := 5860 + 4 * i + 4) (by omega) (by omega) (fin μ H locs hT w)
    · refine lv_aload_n hx hb dL_law_87 rfl (lv_at hl 1 rfl) ?_
      refine x2_calli (mc := 1) (ms := 4) C w (x_runSM (ad := ad) (As := [.ref (ad 0)]) (rest := []) C w.1 me_L_isWell ml_StairBowsLaw_88 (c_L_isWell l g ad μ _ (well_tn (K := fun r ω => r = 1 ∧ Tn ω μ2 (99 * i + 99)) hT (fun ω hω => ⟨rfl, hω⟩))) ⟨rfl, rfl⟩ ⟨Nat.le_of_ble_eq_true rfl, Nat.le_of_ble_eq_true rfl⟩ rfl hl.1 rfl (Nat.le_of_ble_eq_true rfl) dL_law_88 hcs) (fun r μ h H locs w => ?_)
      obtain ⟨rfl, hT⟩ := h
      refine lv_if_eq (tgt := 98) hx hb dL_law_91 (by decide) (fun z => absurd z (by decide)) (fun _ => ?_)
      exact fin μ H locs hT w
set_option maxHeartbeats 4000000 in
set_option maxRecDepth 100000 in
theorem whole_start {p : Program} {e : Env} {s : State} {m : MethodId} {below : List Frame} {meth : Method} {c : Code} (l : Launch) (hflags : l.flags = flags0) {b L : Nat} {xs : Nat → Int32} (hL : L ≤ 260) (C0 : lw_At p s m meth c b L xs) : W p l e room_1 s m #[Value.ref b] below meth c s.heap [] 0 0 (lw_Z below #[Value.ref b] s) (entryFrame m ([Value.ref b] : List Value).toArray 5) := by
  obtain ⟨hx, hb, hr, hml, hown, hts, hX, hbl, hlocks, hgv⟩ := id C0
  have hA : ∀ q : Nat, s.heap.size ≤ q → (fun q : Nat => s.heap.size ≤ q) q := fun _ h => h
  obtain ⟨g, hKK⟩ := known hts
  have hT : ∀ w ∈ tb_G, w.before #[Value.ref b] s = true := fun w hw => hts w (tb_sub hw)
  have CN : CxN g p s m #[Value.ref b] c "StairBowsLaw" cL_law 5 := ⟨hx, hb, hml, hT, hown, hKK, nwa_of hts⟩
  have C : Cx g p s m #[Value.ref b] meth c "StairBowsLaw" cL_law 5 ret := ⟨hx, hb, hml, hr, hT, hown, hlocks, hKK, va_Nw.of rfl (hts _ nw_S)⟩
  have hst : Stt (fun q : Nat => s.heap.size ≤ q) s s.heap := stt_of hts hgv (fun a ha => Nat.not_le.mpr ha)
  have w : Gw g (fun _ => 0) (fun _ => .inr (0, [])) 0 0 (fun q : Nat => s.heap.size ≤ q) s s.heap [] := by
    unfold Gw
    rw [← wb_nil]
    exact ⟨fun k q h => by simp at h, ⟨fun i j p q h => by simp at h, fun k q h => by simp at h⟩, va_S.rf, hA, hst⟩
  have hl := lv_entry ([.ref b]) (n := 5) (Nat.le_of_ble_eq_true rfl)
  rw [lg_entry_eq]
  generalize (lg_sl ([.ref b]) ++ List.replicate (5 - (lg_sl ([.ref b])).length) Slot.unset).toArray = ls at hl ⊢
  have hl : lv_has ls 5 [(0, .ref b)] := hl
  refine n_new CN w (by omega) (ci := 4) (fs := B4) (C := RX4) (T := TX4) (N := 6) iX4 tyX4 tyX4_ok cl_StairBowsLaw_10 ib_X4_init it_X4_init rfl (fun k hk => by rcases (show k = 0 ∨ k = 1 ∨ k = 2 ∨ k = 3 ∨ k = 4 ∨ k = 5 by omega) with rfl | rfl | rfl | rfl | rfl | rfl <;> rfl) (Nat.le_of_ble_eq_true rfl) (Nat.le_of_ble_eq_true rfl) dL_law_0 (fun q1 H1 w => ?_)
  refine lv_dup hx hb dL_law_3 rfl ?_
  refine n_back (L := 287) w (by omega) (by omega) (by omega) (q := q1) (e1 := .inr (4, B4)) (upN_at _ _ _) (upE_at _ _ _) (n_runI CN w (by omega) (upN_at _ _ _) (upE_at _ _ _) (c_X4_init l g q1 H1.size) cd_X4_init it_X4_init ml2_StairBowsLaw_79 in_X4_init rfl (by decide +kernel) ⟨rfl, rfl⟩ ⟨Nat.le_of_ble_eq_true rfl, Nat.le_of_ble_eq_true rfl⟩ hl.1 rfl (Nat.le_of_ble_eq_true rfl) dL_law_4 ⟨Nat.le_of_ble_eq_true rfl, Nat.le_of_ble_eq_true rfl⟩) (fun ad H2 locs2 hag w => ?_)
  have aq1 : ad 0 = q1 := by rw [hag _ (Nat.le_refl _), upN_at]
  rw [jn_upE] at w
  rw [← aq1]
  have wd : Wd g ad mu0 (fun q : Nat => s.heap.size ≤ q) s H2 locs2 := gw_wd w (fun i hi => by
    rw [jn_ge _ _ (Nat.zero_le _)]
    exact Cv.of rfl)
  refine lv_astore_n (lv' := [(1, .ref (ad 0)), (0, .ref b)]) hx hb dL_law_7 rfl hl (by decide) rfl (fun ls hl => ?_)
  refine x_second CN wd cl_StairBowsLaw_10 ml2_StairBowsLaw_79 hl.1 ⟨Nat.le_of_ble_eq_true rfl, Nat.le_of_ble_eq_true rfl⟩ (Nat.le_of_ble_eq_true rfl) ⟨Nat.le_of_ble_eq_true rfl, Nat.le_of_ble_eq_true rfl⟩ dL_law_8 dL_law_11 dL_law_12 (fun ad2 H3 locs3 w => ?_)
  refine lv_astore_n (lv' := [(2, .ref (ad2 0)), (1, .ref (ad 0)), (0, .ref b)]) hx hb dL_law_15 rfl hl (by decide) rfl (fun ls hl => ?_)
  refine W.widen (k := 574 + 0) (n := 5860 + 4 * 0) (Nat.le_of_ble_eq_true rfl) (Nat.le_of_ble_eq_true rfl) ?_
  have hcs0 : 574 + 0 ≤ room_1.cells ∧ 5860 + 4 * 0 ≤ room_1.slots := ⟨Nat.le_of_ble_eq_true rfl, Nat.le_of_ble_eq_true rfl⟩
  refine lv_aload_n hx hb dL_law_16 rfl (lv_at hl 0 rfl) ?_
  refine lv_iconst (v := 1) hx hb dL_law_17 (by decide) ?_
  refine lv_iconst (v := 2) hx hb dL_law_18 (by decide) ?_
  refine x2_callip C w (x_runV (ad := ad2) (i := 0) (As := [.int 1, .int 2]) (rest := []) C w.2.1 (rfl : kd 0 = 0) (by decide) (ci := 4) rfl rfl rfl me_X4_set ml_StairBowsLaw_24 (c_X4_set l g ad2 mu0 _ 1 2 (sp_set (k := 1) (v := 2) (K := fun r ω => r = 1 ∧ Ob ω (up2 A0m 0 1 (nI 2)) 0 0 (fun _ => none) 0 (fun _ => 0)) ob_mu0 (Or.inl ⟨rfl, by omega, by omega⟩) (fun ω hω => ⟨rfl, hω⟩))) ⟨rfl, rfl⟩ ⟨Nat.le_of_ble_eq_true rfl, Nat.le_of_ble_eq_true rfl⟩ rfl hl.1 rfl (Nat.le_of_ble_eq_true rfl) dL_law_19 hcs0) (fun r μ2 h H locs w => ?_)
  obtain ⟨rfl, hO2⟩ := h
  rw [A0_2] at hO2
  refine lv_iconst (v := 1) hx hb dL_law_22 (by decide) ?_
  refine lv_icmp_ne (tgt := 40) hx hb dL_law_23 (by decide) (fun z => absurd rfl z) (fun _ => ?_)
  refine lv_aload_n hx hb dL_law_26 rfl (lv_at hl 1 rfl) ?_
  refine lv_iconst (v := 1) hx hb dL_law_27 (by decide) ?_
  refine lv_iconst (v := 1) hx hb dL_law_28 (by decide) ?_
  refine x2_calli C w (x_runV (ad := ad) (i := 0) (As := [.int 1, .int 1]) (rest := []) C w.1 (rfl : kd 0 = 0) (by decide) (ci := 4) rfl rfl rfl me_X4_set ml_StairBowsLaw_24 (c_X4_set l g ad mu0 _ 1 1 (sp_set (k := 1) (v := 1) (K := fun r ω => r = 1 ∧ Ob ω (up2 A0m 0 1 (nI 1)) 0 0 (fun _ => none) 0 (fun _ => 0)) ob_mu0 (Or.inl ⟨rfl, by omega, by omega⟩) (fun ω hω => ⟨rfl, hω⟩))) ⟨rfl, rfl⟩ ⟨Nat.le_of_ble_eq_true rfl, Nat.le_of_ble_eq_true rfl⟩ rfl hl.1 rfl (Nat.le_of_ble_eq_true rfl) dL_law_29 hcs0) (fun r μ h H locs w => ?_)
  obtain ⟨rfl, hO⟩ := h
  rw [A0_1] at hO
  refine lv_iconst (v := 1) hx hb dL_law_32 (by decide) ?_
  refine lv_icmp_ne (tgt := 40) hx hb dL_law_33 (by decide) (fun z => absurd rfl z) (fun _ => ?_)
  refine lv_iconst (v := 1) hx hb dL_law_36 (by decide) ?_
  refine lv_goto (tgt := 41) hx hb dL_law_37 (by decide) ?_
  refine lv_istore_n (lv' := [(3, .int 1), (2, .ref (ad2 0)), (1, .ref (ad 0)), (0, .ref b)]) hx hb dL_law_41 rfl hl (by decide) rfl (fun ls hl => ?_)
  refine lv_iconst (v := 0) hx hb dL_law_42 (by decide) ?_
  refine lv_istore (lv' := [(4, .int 0), (3, .int 1), (2, .ref (ad2 0)), (1, .ref (ad 0)), (0, .ref b)]) hx hb dL_law_43 hl (by decide) rfl (fun ls hl => ?_)
  exact law_loop C hX hbl hL 60 0 μ μ2 H locs ls (by omega) (tn_start hO hO2) w (lv_sub hl [4, 3, 2, 1, 0] rfl)
-- ===== YOUR PART ENDS =====
set_option maxHeartbeats 4000000 in
theorem lw_walk (l : Launch) (hflags : l.flags = flags0) (b : Addr) (xs : List Int32) : MetFree l x (headSpec (Jvm.Cond.code x code maxLocals ret :: tables_1) room_1) (lw_P b xs) (fun _ _ _ _ _ => True) lw_Q := by
  refine MetFree.of_bodyS (code := code) (maxLocals := maxLocals) (ret := ret) (by decide) ?_ ?_
  · intro args s m h hn
    obtain ⟨meth, c, h1, h2, h3, h4, h5, h6, -, -⟩ := Cond.code_spec hn (atoms_spec (ws := Jvm.Cond.code x code maxLocals ret :: tables_1) h _ List.mem_cons_self)
    exact ⟨meth, c, h1, h2, h3, h4, h5, h6⟩
  · intro p e s m args below meth c s₁ B hml0 hP _
    obtain ⟨rfl, hx, hbd, hgv⟩ := hP
    obtain ⟨scr, harrAt, hlist, hof, hsmall⟩ := hx
    obtain ⟨hcb, hkn, -, -⟩ := State.arrayAt?_spec harrAt
    have hown : s.vm.findClass R_law = some m.cls := findClass_of_methodNamed B.named
    have hts0 : ∀ c ∈ (Jvm.Cond.code x code maxLocals ret :: tables_1), c.before #[Value.ref b] s = true := atoms_spec (ws := Jvm.Cond.code x code maxLocals ret :: tables_1) B.pre
    have hts : ∀ w ∈ lw_tbl, w.before #[Value.ref b] s = true := k2_hts_sels lw_privs (fun w hw => hts0 w (List.mem_cons_of_mem _ hw)) lw_privs_ok
    have hml : c.maxLocals = 5 := B.maxLocals_eq (hts0 _ List.mem_cons_self)
    have X₀ : Stand p l e room_1 s m #[Value.ref b] below meth c s₁ [] 0 0 := Stand.of_body B
    have hh0 : s₁.heap = s.heap := by rw [B.state]; rfl
    have hsz : scr.slots.size = xs.length := by rw [← Array.length_toList, hlist, List.length_map]
    have hval : ∀ j : Nat, j < xs.length → scr.slots[j]? = some (.int (xs.getD j 0)) := fun j hj => by
      rw [← Array.getElem?_toList, hlist]
      simp [hj]
    have hbl : b < s.heap.size := (Array.getElem?_eq_some_iff.mp hcb).1
    have hX : va_X b xs.length (fun j => xs.getD j 0) s s.heap := ⟨scr, hcb, hof, hkn, hsz, hval⟩
    have K : W p l e room_1 s m #[Value.ref b] below meth c s₁.heap [] 0 0 (lw_Z below #[Value.ref b] s) (entryFrame m ([Value.ref b] : List Value).toArray 5) := by
      rw [hh0]
      exact whole_start l hflags hbd ⟨B.exec, B.bytes, B.returns, hml, hown, hts, hX, hbl, B.notSynchronized, hgv⟩
    obtain ⟨t, a1, o, b1, b2, b3⟩ := K s₁ rfl X₀
    exact ⟨t, o, a1, b1, b2, b3⟩
theorem lw_pre_spec {args : Array Value} {s : State} (h : (Jvm.Cond.and given_1 narrow_1).before args s = true) (hr : rest_1_c.before args s = true) : ∃ (b : Addr) (xs : List Int32), lw_P b xs args s := by
  have hs := flat_of_before _ h
  have hq := flat_of_before _ hr
  have hc : (Cond.count 1).before args s = true := hs _ (by decide +kernel)
  have harr : (Cond.arrayOf (.arg 0) .int).before args s = true := hs _ (by decide +kernel)
  have hle : (Cond.le (.length (.arg 0)) (.int 260)).before args s = true := hs _ (by decide +kernel)
  have hlen : (Cond.isInt (.length (.arg 0))).before args s = true := hq _ (by decide +kernel)
  have hall : (Cond.all (.arg 0) (.isInt (.elem (.arg 0) (.index 0)))).before args s = true := hq _ (by decide +kernel)
  obtain ⟨b, xs, hb, hx⟩ := State.ints_of_pre rfl harr hlen hall
  have hsm : xs.length < 2 ^ 31 := hx.choose_spec.2.2.2
  have hev : (Term.length (.arg 0)).eval args s none [] s = some (.int xs.length.toInt32) := hx.length_eval hb
  have hv := Cond.le_ints hev (show (Term.int 260).eval args s none [] s = some (.int 260) from rfl)
  have hd : xs.length.toInt32 ≤ 260 := by
    simpa [Cond.before, Cond.holds, hv] using hle
  have hN : xs.length ≤ 260 := (Int32.ofNat_le_ofNat hsm (by decide)).mp (show Int32.ofNat xs.length ≤ Int32.ofNat 260 from hd)
  exact ⟨b, xs, Cond.one_arg hc (show args[0]? = some (.ref b) from hb), hx, hN, h⟩
theorem lw_comes (l : Launch) (hflags : l.flags = flags0) : Comes l x (Jvm.Cond.code x code maxLocals ret :: tables_1) room_1 (fun tb e args s => Calls_1 tb e args s ∧ rest_1 tb e args s ∧ Pre_1 tb e args s)
    (fun _ _ args s o t => lw_Q args s o t) := by
  intro p e ha hc hk s m args below hf hfit hheap happ hpre
  obtain ⟨b, xs, hP⟩ := lw_pre_spec hpre.2.2 hpre.2.1
  obtain ⟨k, o, h1, h2, h3, hQ⟩ := lw_walk l hflags b xs p e ha hc hk s m args below hf ((Spec.applies_iff_loose hf).mp happ).1 hP trivial
  exact ⟨k, o, h1, h2, h3, hQ⟩
theorem lw_frame {s t : State} {o : Outcome} {args : Array Value} (h : Framed s o t [] 600000 7302250) :
    Framed s o t (fieldLocs frame_1_writes args s ++ arrayLocs frame_1_arrays args s ++ staticLocs frame_1_statics s) 600000 7302250 := h
theorem lw_limb (L : Cond) (hL : ∀ (args : Array Value) (s t : State), L.after args s (.returned (some (.int 1))) t = true) :
    ArmFor flags0 classFile x code maxLocals ret World_1 tables_1 room_1 Calls_1 rest_1 Pre_1
      (fun tb e a s o t => postC L tb e a s o t ∧ Framed s o t (fieldLocs frame_1_writes a s ++ arrayLocs frame_1_arrays a s ++ staticLocs frame_1_statics s) 600000 7302250) := by
  intro l hflags _ _ p e ha hc hk s m args below hf hfit hheap happ hpre
  obtain ⟨k, o, h1, h2, h3, rfl, hF⟩ := lw_comes l hflags p e ha hc hk s m args below hf hfit hheap happ hpre
  exact ⟨k, _, h1, h2, h3, hL args s _, lw_frame hF⟩
theorem i_vc : Claimed_1_1 ∧ Claimed_1_2 := ⟨lw_limb limb_1_1 (fun args s t => by simp [limb_1_1, Cond.after, Cond.holds, Cond.value]), lw_limb limb_1_2 (fun args s t => Cond.after_iff.mpr (by
  first | (rw [show limb_1_2 = Cond.eq .result (.int 1) from rfl, Cond.eq_ints (x := 1) (y := 1) rfl rfl]; simp; done) | (simp [limb_1_2, Cond.value, Term.eval]; done)))⟩

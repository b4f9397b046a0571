/-! THE CLAIM OUT OF ONE WALK OF THE LAW'S BODY. Your part is whole_start (and what it stands on); all else here is the same for every law, but numbers. -/
def R_law : String := "StairBowsLaw"
def lw_P (b : Addr) (xs : List Int32) (args : Array Value) (s : State) : Prop := args = #[.ref b] ∧ s.IntsAt b xs ∧ xs.length ≤ 1536 ∧ (Jvm.Cond.and given_1 narrow_1).before args s = true
def lw_Q (_ : Array Value) (s : State) (o : Outcome) (t : State) : Prop := o = .returned (some (.int 1)) ∧ Framed s o t [] 600000 7302250
def lw_Z (below : List Frame) (a : Array Value) (s : State) : State → Prop := fun t => ∃ o, t.status = .running ∧ Ended t below o ∧ lw_Q a s o t
/-- the law's own end, with 1 on the stack, nothing written that was there before, its room as the claim has it -/
theorem lw_ret {p : Program} {l : Launch} {e : Env} {s : State} {m : MethodId} {below : List Frame} {meth : Method} {c : Code} {b : Nat} (hx : p.tables.exec = Jvm.exec) (hb : c.code = code) (hr : meth.sig.returnType = ret) (hlocks : meth.locks = false) {pc : Nat} {H : Heap} {ls : Array Slot} (hdg : decode code pc = .ok (.ireturn, 1)) : W p l e room_1 s m #[Value.ref b] below meth c H [] 600000 7302250 (lw_Z below #[Value.ref b] s) (F0 m pc ls [.int 1]) := by
  intro T hT X
  obtain ⟨fs, hret, hrun, hended, hW, hframe⟩ := X.leave (v := some (.int 1)) (hlocks := hlocks) (fun h => by rw [hr] at h; cases h)
  have hmeth' : T.vm.method? m = some meth := X.method'
  refine ⟨T.setFrames fs, ?_, .returned (some (.int 1)), hrun, hended, rfl, ⟨_, rfl⟩, hW, hframe⟩
  jvm_step X.here [X.here.top, hx, hb, hdg, hmeth', hr, ret, narrow_b1]
  (try refine ⟨rfl, ?_⟩); (try refine ⟨rfl, ?_⟩)
  first | (intro acts; rw [hret _ acts rfl rfl rfl]) | rw [hret _ _ rfl rfl rfl]
  exact Steps.refl _
/-- what holds at the law's entry: the machine, the code, the tables' words (any of lw_tbl by 'hts w (by decide +kernel)'), the script of L ints xs at the cell b, what the Statement gives of the start (any of its parts by flat_of_before) -/
def lw_At (p : Program) (s : State) (m : MethodId) (meth : Method) (c : Code) (b L : Nat) (xs : Nat → Int32) : Prop :=
  p.tables.exec = Jvm.exec ∧ c.code = code ∧ meth.sig.returnType = ret ∧ c.maxLocals = 4 ∧ s.vm.findClass R_law = some m.cls ∧ (∀ w ∈ lw_tbl, w.before #[Value.ref b] s = true) ∧ va_X b L xs s s.heap ∧ b < s.heap.size ∧ meth.locks = false ∧ (Jvm.Cond.and given_1 narrow_1).before #[Value.ref b] s = true
-- ===== YOUR PART BEGINS =====
set_option maxHeartbeats 4000000 in
set_option maxRecDepth 100000 in
theorem law_loop {g : Gv} {ad : Nat → Nat} {l : Launch} {p : Program} {e : Env} {s : State} {m : MethodId} {below : List Frame} {meth : Method} {c : Code} {b L : Nat} {xs : Nat → Int32} (C : Cx g p s m #[Value.ref b] meth c "StairBowsLaw" cL_law 4 ret) (hX : va_X b L xs s s.heap) (hbl : b < s.heap.size) (hL : L ≤ 1536) :
    ∀ (d i : Nat) (μ : Mem) (H : Heap) (locs : List Loc) (ls : Array Slot), L ≤ i + d → i ≤ L + 2 → Inv μ → Wd g ad μ (fun q : Nat => s.heap.size ≤ q) s H locs → lv_has ls 4 [(0, .ref b), (1, .ref (ad 0)), (2, .ref (ad 287)), (3, .int (nI i))] → W p l e room_1 s m #[Value.ref b] below meth c H locs 295 5275 (lw_Z below #[Value.ref b] s) (F0 m 18 ls []) := by
  obtain ⟨hx, hb, hml, hr, hts, hown, hlocks, -, hN⟩ := id C
  have hbA : ¬ (fun q : Nat => s.heap.size ≤ q) b := Nat.not_le.mpr hbl
  have hcs : 295 ≤ room_1.cells ∧ 5275 ≤ room_1.slots := ⟨Nat.le_of_ble_eq_true rfl, Nat.le_of_ble_eq_true rfl⟩
  have hcond : ∀ i, i ≤ L + 2 → ((Int32.ofNat L - 3 < nI i) ↔ L < i + 3) := fun i hi => by
    rw [fa_lt, show Int32.ofNat L = nI L from rfl, show (3 : Int32) = nI 3 from rfl, pk_sub_toInt (by omega) (by omega), nI_toInt (by omega)]
    omega
  have exit : ∀ (μ : Mem) (H : Heap) (locs : List Loc) (ls : Array Slot), Wd g ad μ (fun q : Nat => s.heap.size ≤ q) s H locs → W p l e room_1 s m #[Value.ref b] below meth c H locs 295 5275 (lw_Z below #[Value.ref b] s) (F0 m 656 ls []) := fun μ H locs ls w => by
    refine lv_iconst (v := 1) hx hb dL_law_656 (by decide) ?_
    refine va_forget (fun q hq => w.2.2.1.2.2 q hq) ?_
    refine W.widen (k := 600000) (n := 7302250) (Nat.le_of_ble_eq_true rfl) (Nat.le_of_ble_eq_true rfl) ?_
    exact lw_ret hx hb hr hlocks dL_law_657
  intro d
  induction d with
  | zero =>
    intro i μ H locs ls hd hi2 hI w hl
    refine lv_iload_n hx hb dL_law_18 rfl (lv_at hl 3 rfl) ?_
    refine lv_aload_n hx hb dL_law_19 rfl (lv_at hl 0 rfl) ?_
    refine va_slen hx hb hX hbl hbA w.2.2.1 dL_law_20 ?_
    refine lv_iconst (v := 3) hx hb dL_law_21 (by decide) ?_
    refine lv_isub hx hb dL_law_22 ?_
    refine lv_icmp_gt (tgt := 656) hx hb dL_law_23 (by decide) (fun _ => exit μ H locs ls w) (fun c1 => absurd ((hcond i hi2).mpr (by omega)) c1)
  | succ d ih =>
    intro i μ H locs ls hd hi2 hI w hl
    refine lv_iload_n hx hb dL_law_18 rfl (lv_at hl 3 rfl) ?_
    refine lv_aload_n hx hb dL_law_19 rfl (lv_at hl 0 rfl) ?_
    refine va_slen hx hb hX hbl hbA w.2.2.1 dL_law_20 ?_
    refine lv_iconst (v := 3) hx hb dL_law_21 (by decide) ?_
    refine lv_isub hx hb dL_law_22 ?_
    refine lv_icmp_gt (tgt := 656) hx hb dL_law_23 (by decide) (fun _ => exit μ H locs ls w) (fun c1 => ?_)
    have hi : i + 3 ≤ L := Nat.not_lt.mp (fun z => c1 ((hcond i hi2).mpr z))
    refine lv_aload_n hx hb dL_law_26 rfl (lv_at hl 0 rfl) ?_
    refine lv_iload_n hx hb dL_law_27 rfl (lv_at hl 3 rfl) ?_
    refine va_sld hx hb hX hbl hbA w.2.2.1 (vp_in_nI (by omega) (by omega)) dL_law_28 ?_
    refine lv_bipush (v := 31) hx hb dL_law_29 (by decide) ?_
    refine lv_iand hx hb dL_law_31 ?_
    generalize (xs (nI i).toNatClampNeg &&& 31) = v
    have next : ∀ (μ2 : Mem) (H : Heap) (locs : List Loc), Inv μ2 → Wd g ad μ2 (fun q : Nat => s.heap.size ≤ q) s H locs → W p l e room_1 s m #[Value.ref b] below meth c H locs 295 5275 (lw_Z below #[Value.ref b] s) (F0 m 650 ls []) := by
      intro μ2 H locs hI2 w
      refine lv_iinc (v := nI (i + 3)) (lv' := [(3, .int (nI (i + 3))), (0, .ref b), (1, .ref (ad 0)), (2, .ref (ad 287))]) hx hb dL_law_650 hl (k := 3) rfl (nI_add i 3) (by decide) rfl (fun ls hl => ?_)
      refine lv_goto (tgt := 18) hx hb dL_law_653 (by decide) ?_
      exact ih (i + 3) μ2 H locs ls (by omega) (by omega) hI2 w (lv_sub hl [1, 2, 3, 0] rfl)
    by_cases hout : v.toInt < 0 ∨ 19 < v.toInt
    · exact lv_tableOut (tgt := 650) hx hb dL_law_32 hout (by decide) (next μ H locs hI w)
    have h20 : v.toInt = 0 ∨ v.toInt = 1 ∨ v.toInt = 2 ∨ v.toInt = 3 ∨ v.toInt = 4 ∨ v.toInt = 5 ∨ v.toInt = 6 ∨ v.toInt = 7 ∨ v.toInt = 8 ∨ v.toInt = 9 ∨ v.toInt = 10 ∨ v.toInt = 11 ∨ v.toInt = 12 ∨ v.toInt = 13 ∨ v.toInt = 14 ∨ v.toInt = 15 ∨ v.toInt = 16 ∨ v.toInt = 17 ∨ v.toInt = 18 ∨ v.toInt = 19 := by omega
    rcases h20 with e9 | e9 | e9 | e9 | e9 | e9 | e9 | e9 | e9 | e9 | e9 | e9 | e9 | e9 | e9 | e9 | e9 | e9 | e9 | e9
    · exact lv_tableIn (off := 96) (tgt := 128) hx hb dL_law_32 (by omega) (by omega) (by rw [e9]; rfl) (by decide) (t_law_0 C hcs hX hbl hbA hL hi hI w hl next)
    · exact lv_tableIn (off := 129) (tgt := 161) hx hb dL_law_32 (by omega) (by omega) (by rw [e9]; rfl) (by decide) (t_law_1 C hcs hX hbl hbA hL hi hI w hl next)
    · exact lv_tableIn (off := 178) (tgt := 210) hx hb dL_law_32 (by omega) (by omega) (by rw [e9]; rfl) (by decide) (t_law_2 C hcs hX hbl hbA hL hi hI w hl next)
    · exact lv_tableIn (off := 227) (tgt := 259) hx hb dL_law_32 (by omega) (by omega) (by rw [e9]; rfl) (by decide) (t_law_3 C hcs hX hbl hbA hL hi hI w hl next)
    · exact lv_tableIn (off := 240) (tgt := 272) hx hb dL_law_32 (by omega) (by omega) (by rw [e9]; rfl) (by decide) (t_law_4 C hcs hX hbl hbA hL hi hI w hl next)
    · exact lv_tableIn (off := 263) (tgt := 295) hx hb dL_law_32 (by omega) (by omega) (by rw [e9]; rfl) (by decide) (t_law_5 C hcs hX hbl hbA hL hi hI w hl next)
    · exact lv_tableIn (off := 286) (tgt := 318) hx hb dL_law_32 (by omega) (by omega) (by rw [e9]; rfl) (by decide) (t_law_6 C hcs hX hbl hbA hL hi hI w hl next)
    · exact lv_tableIn (off := 319) (tgt := 351) hx hb dL_law_32 (by omega) (by omega) (by rw [e9]; rfl) (by decide) (t_law_7 C hcs hX hbl hbA hL hi hI w hl next)
    · exact lv_tableIn (off := 352) (tgt := 384) hx hb dL_law_32 (by omega) (by omega) (by rw [e9]; rfl) (by decide) (t_law_8 C hcs hX hbl hbA hL hi hI w hl next)
    · exact lv_tableIn (off := 375) (tgt := 407) hx hb dL_law_32 (by omega) (by omega) (by rw [e9]; rfl) (by decide) (t_law_9 C hcs hX hbl hbA hL hi hI w hl next)
    · exact lv_tableIn (off := 398) (tgt := 430) hx hb dL_law_32 (by omega) (by omega) (by rw [e9]; rfl) (by decide) (t_law_10 C hcs hX hbl hbA hL hi hI w hl next)
    · exact lv_tableIn (off := 421) (tgt := 453) hx hb dL_law_32 (by omega) (by omega) (by rw [e9]; rfl) (by decide) (t_law_11 C hcs hX hbl hbA hL hi hI w hl next)
    · exact lv_tableIn (off := 434) (tgt := 466) hx hb dL_law_32 (by omega) (by omega) (by rw [e9]; rfl) (by decide) (t_law_12 C hcs hX hbl hbA hL hi hI w hl next)
    · exact lv_tableIn (off := 467) (tgt := 499) hx hb dL_law_32 (by omega) (by omega) (by rw [e9]; rfl) (by decide) (t_law_13 C hcs hX hbl hbA hL hi hI w hl next)
    · exact lv_tableIn (off := 480) (tgt := 512) hx hb dL_law_32 (by omega) (by omega) (by rw [e9]; rfl) (by decide) (t_law_14 C hcs hX hbl hbA hL hi hI w hl next)
    · exact lv_tableIn (off := 533) (tgt := 565) hx hb dL_law_32 (by omega) (by omega) (by rw [e9]; rfl) (by decide) (t_law_15 C hcs hX hbl hbA hL hi hI w hl next)
    · exact lv_tableIn (off := 546) (tgt := 578) hx hb dL_law_32 (by omega) (by omega) (by rw [e9]; rfl) (by decide) (t_law_16 C hcs hX hbl hbA hL hi hI w hl next)
    · exact lv_tableIn (off := 559) (tgt := 591) hx hb dL_law_32 (by omega) (by omega) (by rw [e9]; rfl) (by decide) (t_law_17 C hcs hX hbl hbA hL hi hI w hl next)
    · exact lv_tableIn (off := 572) (tgt := 604) hx hb dL_law_32 (by omega) (by omega) (by rw [e9]; rfl) (by decide) (t_law_18 C hcs hX hbl hbA hL hi hI w hl next)
    · exact lv_tableIn (off := 595) (tgt := 627) hx hb dL_law_32 (by omega) (by omega) (by rw [e9]; rfl) (by decide) (t_law_19 C hcs hX hbl hbA hL hi hI w hl next)
set_option maxHeartbeats 4000000 in
set_option maxRecDepth 100000 in
/-- the law, from its entry -/
theorem whole_start {p : Program} {e : Env} {s : State} {m : MethodId} {below : List Frame} {meth : Method} {c : Code} (l : Launch) (hflags : l.flags = flags0) {b L : Nat} {xs : Nat → Int32} (hL : L ≤ 1536) (C0 : lw_At p s m meth c b L xs) : W p l e room_1 s m #[Value.ref b] below meth c s.heap [] 0 0 (lw_Z below #[Value.ref b] s) (entryFrame m ([Value.ref b] : List Value).toArray 4) := by
  obtain ⟨hx, hb, hr, hml, hown, hts, hX, hbl, hlocks, hgv⟩ := id C0
  have hA : ∀ q : Nat, s.heap.size ≤ q → (fun q : Nat => s.heap.size ≤ q) q := fun _ h => h
  obtain ⟨g, hKK⟩ := known hts
  have hT : ∀ w ∈ tb_G, w.before #[Value.ref b] s = true := fun w hw => hts w (tb_sub hw)
  have CN : CxN g p s m #[Value.ref b] c "StairBowsLaw" cL_law 4 := ⟨hx, hb, hml, hT, hown, hKK, nwa_of hts⟩
  have C : Cx g p s m #[Value.ref b] meth c "StairBowsLaw" cL_law 4 ret := ⟨hx, hb, hml, hr, hT, hown, hlocks, hKK, va_Nw.of rfl (hts _ nw_S)⟩
  have hst : Stt (fun q : Nat => s.heap.size ≤ q) s s.heap := stt_of hts hgv (fun a ha => Nat.not_le.mpr ha)
  have w : Gw g (fun _ => 0) (fun _ => .inr (0, [])) 0 0 (fun q : Nat => s.heap.size ≤ q) s s.heap [] := by
    unfold Gw
    rw [← wb_nil]
    exact ⟨fun k q h => by simp at h, ⟨fun i j p q h => by simp at h, fun k q h => by simp at h⟩, va_S.rf, hA, hst⟩
  have hl := lv_entry ([.ref b]) (n := 4) (Nat.le_of_ble_eq_true rfl)
  rw [lg_entry_eq]
  generalize (lg_sl ([.ref b]) ++ List.replicate (4 - (lg_sl ([.ref b])).length) Slot.unset).toArray = ls at hl ⊢
  have hl : lv_has ls 4 [(0, .ref b)] := hl
  refine n_new CN w (by omega) (ci := 4) (fs := B4) (C := RX4) (T := TX4) (N := 6) iX4 tyX4 tyX4_ok cl_StairBowsLaw_7 ib_X4_init it_X4_init rfl (fun k hk => by rcases (show k = 0 ∨ k = 1 ∨ k = 2 ∨ k = 3 ∨ k = 4 ∨ k = 5 by omega) with rfl | rfl | rfl | rfl | rfl | rfl <;> rfl) (Nat.le_of_ble_eq_true rfl) (Nat.le_of_ble_eq_true rfl) dL_law_0 (fun q1 H1 w => ?_)
  refine lv_dup hx hb dL_law_3 rfl ?_
  refine n_back (L := 287) w (by omega) (by omega) (by omega) (q := q1) (e1 := .inr (4, B4)) (upN_at _ _ _) (upE_at _ _ _) (n_runI CN w (by omega) (upN_at _ _ _) (upE_at _ _ _) (c_X4_init l g q1 H1.size) cd_X4_init it_X4_init ml2_StairBowsLaw_9 in_X4_init rfl (by decide +kernel) ⟨rfl, rfl⟩ ⟨Nat.le_of_ble_eq_true rfl, Nat.le_of_ble_eq_true rfl⟩ hl.1 rfl (Nat.le_of_ble_eq_true rfl) dL_law_4 ⟨Nat.le_of_ble_eq_true rfl, Nat.le_of_ble_eq_true rfl⟩) (fun ad1 H2 locs2 hag w => ?_)
  have aq1 : ad1 0 = q1 := by rw [hag _ (Nat.le_refl _), upN_at]
  rw [jn_upE] at w
  rw [← aq1]
  refine lv_astore_n (lv' := [(1, .ref (ad1 0)), (0, .ref b)]) hx hb dL_law_7 rfl hl (by decide) rfl (fun ls hl => ?_)
  refine n_new CN w (by omega) (ci := 5) (fs := B5) (C := RX5) (T := TX5) (N := 9) iX5 tyX5 tyX5_ok cl_StairBowsLaw_10 ib_X5_init it_X5_init rfl (fun k hk => by rcases (show k = 0 ∨ k = 1 ∨ k = 2 ∨ k = 3 ∨ k = 4 ∨ k = 5 ∨ k = 6 ∨ k = 7 ∨ k = 8 by omega) with rfl | rfl | rfl | rfl | rfl | rfl | rfl | rfl | rfl <;> rfl) (Nat.le_of_ble_eq_true rfl) (Nat.le_of_ble_eq_true rfl) dL_law_8 (fun q2 H3 w => ?_)
  refine lv_dup hx hb dL_law_11 rfl ?_
  refine n_back (L := 295) w (by omega) (by omega) (by omega) (q := q2) (e1 := .inr (5, B5)) (upN_at _ _ _) (upE_at _ _ _) (n_runI CN w (by omega) (upN_at _ _ _) (upE_at _ _ _) (c_X5_init l g q2 H3.size) cd_X5_init it_X5_init ml2_StairBowsLaw_12 in_X5_init rfl (by decide +kernel) ⟨rfl, rfl⟩ ⟨Nat.le_of_ble_eq_true rfl, Nat.le_of_ble_eq_true rfl⟩ hl.1 rfl (Nat.le_of_ble_eq_true rfl) dL_law_12 ⟨Nat.le_of_ble_eq_true rfl, Nat.le_of_ble_eq_true rfl⟩) (fun ad2 H4 locs4 hag2 w => ?_)
  have aq2 : ad2 287 = q2 := by rw [hag2 _ (Nat.le_refl _), upN_at]
  have ag2 : ∀ i, i < 287 → ad2 i = ad1 i := fun i hi => by rw [hag2 i (by omega), upN_ne _ _ (by omega)]
  rw [jn_upE] at w
  rw [← aq2]
  rw [← ag2 0 (by omega)] at hl
  have wd : Wd g ad2 mu0 (fun q : Nat => s.heap.size ≤ q) s H4 locs4 := gw_wd w (fun i hi => by
    by_cases h : i < 287
    · rw [jn_lt _ _ h, jn_ge _ _ (Nat.zero_le _)]
      exact lay_cv (by omega) (fun z _ hz => (ag2 z (Nat.lt_of_lt_of_le hz (hi_287 i h))).symm)
    · rw [jn_ge _ _ (by omega)]
      exact Cv.of rfl)
  refine lv_astore_n (lv' := [(2, .ref (ad2 287)), (1, .ref (ad2 0)), (0, .ref b)]) hx hb dL_law_15 rfl hl (by decide) rfl (fun ls hl => ?_)
  refine lv_iconst (v := 0) hx hb dL_law_16 (by decide) ?_
  refine lv_istore_n (lv' := [(3, .int 0), (2, .ref (ad2 287)), (1, .ref (ad2 0)), (0, .ref b)]) hx hb dL_law_17 rfl hl (by decide) rfl (fun ls hl => ?_)
  refine W.widen (k := 295) (n := 5275) (Nat.le_of_ble_eq_true rfl) (Nat.le_of_ble_eq_true rfl) ?_
  exact law_loop C hX hbl hL L 0 mu0 H4 locs4 ls (by omega) (by omega) inv_mu0 wd (lv_sub hl [3, 2, 1, 0] rfl)
-- ===== YOUR PART ENDS =====
set_option maxHeartbeats 4000000 in
theorem lw_walk (l : Launch) (hflags : l.flags = flags0) (b : Addr) (xs : List Int32) : MetFree l x (headSpec (Jvm.Cond.code x code maxLocals ret :: tables_1) room_1) (lw_P b xs) (fun _ _ _ _ _ => True) lw_Q := by
  refine MetFree.of_bodyS (code := code) (maxLocals := maxLocals) (ret := ret) (by decide) ?_ ?_
  · intro args s m h hn
    obtain ⟨meth, c, h1, h2, h3, h4, h5, h6, -, -⟩ := Cond.code_spec hn (atoms_spec (ws := Jvm.Cond.code x code maxLocals ret :: tables_1) h _ List.mem_cons_self)
    exact ⟨meth, c, h1, h2, h3, h4, h5, h6⟩
  · intro p e s m args below meth c s₁ B hml0 hP _
    obtain ⟨rfl, hx, hbd, hgv⟩ := hP
    obtain ⟨scr, harrAt, hlist, hof, hsmall⟩ := hx
    obtain ⟨hcb, hkn, -, -⟩ := State.arrayAt?_spec harrAt
    have hown : s.vm.findClass R_law = some m.cls := findClass_of_methodNamed B.named
    have hts0 : ∀ c ∈ (Jvm.Cond.code x code maxLocals ret :: tables_1), c.before #[Value.ref b] s = true := atoms_spec (ws := Jvm.Cond.code x code maxLocals ret :: tables_1) B.pre
    have hts : ∀ w ∈ lw_tbl, w.before #[Value.ref b] s = true := k2_hts_sels lw_privs (fun w hw => hts0 w (List.mem_cons_of_mem _ hw)) lw_privs_ok
    have hml : c.maxLocals = 4 := B.maxLocals_eq (hts0 _ List.mem_cons_self)
    have X₀ : Stand p l e room_1 s m #[Value.ref b] below meth c s₁ [] 0 0 := Stand.of_body B
    have hh0 : s₁.heap = s.heap := by rw [B.state]; rfl
    have hsz : scr.slots.size = xs.length := by rw [← Array.length_toList, hlist, List.length_map]
    have hval : ∀ j : Nat, j < xs.length → scr.slots[j]? = some (.int (xs.getD j 0)) := fun j hj => by
      rw [← Array.getElem?_toList, hlist]
      simp [hj]
    have hbl : b < s.heap.size := (Array.getElem?_eq_some_iff.mp hcb).1
    have hX : va_X b xs.length (fun j => xs.getD j 0) s s.heap := ⟨scr, hcb, hof, hkn, hsz, hval⟩
    have K : W p l e room_1 s m #[Value.ref b] below meth c s₁.heap [] 0 0 (lw_Z below #[Value.ref b] s) (entryFrame m ([Value.ref b] : List Value).toArray 4) := by
      rw [hh0]
      exact whole_start l hflags hbd ⟨B.exec, B.bytes, B.returns, hml, hown, hts, hX, hbl, B.notSynchronized, hgv⟩
    obtain ⟨t, a1, o, b1, b2, b3⟩ := K s₁ rfl X₀
    exact ⟨t, o, a1, b1, b2, b3⟩
theorem lw_pre_spec {args : Array Value} {s : State} (h : (Jvm.Cond.and given_1 narrow_1).before args s = true) (hr : rest_1_c.before args s = true) : ∃ (b : Addr) (xs : List Int32), lw_P b xs args s := by
  have hs := flat_of_before _ h
  have hq := flat_of_before _ hr
  have hc : (Cond.count 1).before args s = true := hs _ (by decide +kernel)
  have harr : (Cond.arrayOf (.arg 0) .int).before args s = true := hs _ (by decide +kernel)
  have hle : (Cond.le (.length (.arg 0)) (.int 1536)).before args s = true := hs _ (by decide +kernel)
  have hlen : (Cond.isInt (.length (.arg 0))).before args s = true := hq _ (by decide +kernel)
  have hall : (Cond.all (.arg 0) (.isInt (.elem (.arg 0) (.index 0)))).before args s = true := hq _ (by decide +kernel)
  obtain ⟨b, xs, hb, hx⟩ := State.ints_of_pre rfl harr hlen hall
  have hsm : xs.length < 2 ^ 31 := hx.choose_spec.2.2.2
  have hev : (Term.length (.arg 0)).eval args s none [] s = some (.int xs.length.toInt32) := hx.length_eval hb
  have hv := Cond.le_ints hev (show (Term.int 1536).eval args s none [] s = some (.int 1536) from rfl)
  have hd : xs.length.toInt32 ≤ 1536 := by
    simpa [Cond.before, Cond.holds, hv] using hle
  have hN : xs.length ≤ 1536 := (Int32.ofNat_le_ofNat hsm (by decide)).mp (show Int32.ofNat xs.length ≤ Int32.ofNat 1536 from hd)
  exact ⟨b, xs, Cond.one_arg hc (show args[0]? = some (.ref b) from hb), hx, hN, h⟩
theorem lw_comes (l : Launch) (hflags : l.flags = flags0) : Comes l x (Jvm.Cond.code x code maxLocals ret :: tables_1) room_1 (fun tb e args s => Calls_1 tb e args s ∧ rest_1 tb e args s ∧ Pre_1 tb e args s)
    (fun _ _ args s o t => lw_Q args s o t) := by
  intro p e ha hc hk s m args below hf hfit hheap happ hpre
  obtain ⟨b, xs, hP⟩ := lw_pre_spec hpre.2.2 hpre.2.1
  obtain ⟨k, o, h1, h2, h3, hQ⟩ := lw_walk l hflags b xs p e ha hc hk s m args below hf ((Spec.applies_iff_loose hf).mp happ).1 hP trivial
  exact ⟨k, o, h1, h2, h3, hQ⟩
theorem lw_frame {s t : State} {o : Outcome} {args : Array Value} (h : Framed s o t [] 600000 7302250) :
    Framed s o t (fieldLocs frame_1_writes args s ++ arrayLocs frame_1_arrays args s ++ staticLocs frame_1_statics s) 600000 7302250 := h
theorem lw_limb (L : Cond) (hL : ∀ (args : Array Value) (s t : State), L.after args s (.returned (some (.int 1))) t = true) :
    ArmFor flags0 classFile x code maxLocals ret World_1 tables_1 room_1 Calls_1 rest_1 Pre_1
      (fun tb e a s o t => postC L tb e a s o t ∧ Framed s o t (fieldLocs frame_1_writes a s ++ arrayLocs frame_1_arrays a s ++ staticLocs frame_1_statics s) 600000 7302250) := by
  intro l hflags _ _ p e ha hc hk s m args below hf hfit hheap happ hpre
  obtain ⟨k, o, h1, h2, h3, rfl, hF⟩ := lw_comes l hflags p e ha hc hk s m args below hf hfit hheap happ hpre
  exact ⟨k, _, h1, h2, h3, hL args s _, lw_frame hF⟩
theorem i_vc : Claimed_1_1 ∧ Claimed_1_2 := ⟨lw_limb limb_1_1 (fun args s t => by simp [limb_1_1, Cond.after, Cond.holds, Cond.value]), lw_limb limb_1_2 (fun args s t => Cond.after_iff.mpr (by
  first | (rw [show limb_1_2 = Cond.eq .result (.int 1) from rfl, Cond.eq_ints (x := 1) (y := 1) rfl rfl]; simp; done) | (simp [limb_1_2, Cond.value, Term.eval]; done)))⟩

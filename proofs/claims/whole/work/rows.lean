section
-- ===== PART A: goes FIRST, ahead of the names: the tables' words, and 'selects' of the private methods out of them =====
/-- a private method of a class that the tables say can be made, by its rows of tables_1 -/
def lw_okq (q : MethodName × Nat) : Prop := (q.1.cls ≠ "java/lang/invoke/MethodHandle" ∧ q.1.cls ≠ "java/lang/invoke/VarHandle") ∧ Cond.instantiable q.1.cls q.2 ∈ tables_1 ∧ Cond.privateMethod q.1 ∈ tables_1 ∧ Cond.instanceMethod q.1 ∈ tables_1
theorem lw_p0 : lw_okq (⟨"StairBows$History", "dropOldest", "()V"⟩, 2) := ⟨⟨by decide +kernel, by decide +kernel⟩, List.mem_of_getElem? (i := 99) (by decide +kernel), List.mem_of_getElem? (i := 173) (by decide +kernel), List.mem_of_getElem? (i := 174) (by decide +kernel)⟩
theorem lw_p1 : lw_okq (⟨"StairBows$Pad", "canStandAt", "(I)Z"⟩, 2) := ⟨⟨by decide +kernel, by decide +kernel⟩, List.mem_of_getElem? (i := 116) (by decide +kernel), List.mem_of_getElem? (i := 230) (by decide +kernel), List.mem_of_getElem? (i := 231) (by decide +kernel)⟩
theorem lw_p2 : lw_okq (⟨"StairBows", "isPerson", "(I)Z"⟩, 6) := ⟨⟨by decide +kernel, by decide +kernel⟩, List.mem_of_getElem? (i := 11) (by decide +kernel), List.mem_of_getElem? (i := 246) (by decide +kernel), List.mem_of_getElem? (i := 247) (by decide +kernel)⟩
theorem lw_p3 : lw_okq (⟨"StairBows$Staircase", "move", "(LStairBows$Person;)V"⟩, 6) := ⟨⟨by decide +kernel, by decide +kernel⟩, List.mem_of_getElem? (i := 19) (by decide +kernel), List.mem_of_getElem? (i := 266) (by decide +kernel), List.mem_of_getElem? (i := 267) (by decide +kernel)⟩
theorem lw_p4 : lw_okq (⟨"StairBows$Staircase", "bring", "(LStairBows$Person;III)V"⟩, 6) := ⟨⟨by decide +kernel, by decide +kernel⟩, List.mem_of_getElem? (i := 19) (by decide +kernel), List.mem_of_getElem? (i := 274) (by decide +kernel), List.mem_of_getElem? (i := 275) (by decide +kernel)⟩
theorem lw_p5 : lw_okq (⟨"StairBows$Staircase", "isCleared", "(ILStairBows$Person;)Z"⟩, 6) := ⟨⟨by decide +kernel, by decide +kernel⟩, List.mem_of_getElem? (i := 19) (by decide +kernel), List.mem_of_getElem? (i := 284) (by decide +kernel), List.mem_of_getElem? (i := 285) (by decide +kernel)⟩
theorem lw_p6 : lw_okq (⟨"StairBows$Staircase", "yielderOn", "(ILStairBows$Person;)LStairBows$Person;"⟩, 6) := ⟨⟨by decide +kernel, by decide +kernel⟩, List.mem_of_getElem? (i := 19) (by decide +kernel), List.mem_of_getElem? (i := 288) (by decide +kernel), List.mem_of_getElem? (i := 289) (by decide +kernel)⟩
theorem lw_p7 : lw_okq (⟨"StairBows", "tryOut", "(I)I"⟩, 6) := ⟨⟨by decide +kernel, by decide +kernel⟩, List.mem_of_getElem? (i := 11) (by decide +kernel), List.mem_of_getElem? (i := 353) (by decide +kernel), List.mem_of_getElem? (i := 354) (by decide +kernel)⟩
theorem lw_p8 : lw_okq (⟨"StairBowsModel", "isTooFull", "(I)Z"⟩, 9) := ⟨⟨by decide +kernel, by decide +kernel⟩, List.mem_of_getElem? (i := 410) (by decide +kernel), List.mem_of_getElem? (i := 457) (by decide +kernel), List.mem_of_getElem? (i := 458) (by decide +kernel)⟩
theorem lw_p9 : lw_okq (⟨"StairBowsModel", "isLanding", "(I)Z"⟩, 9) := ⟨⟨by decide +kernel, by decide +kernel⟩, List.mem_of_getElem? (i := 410) (by decide +kernel), List.mem_of_getElem? (i := 461) (by decide +kernel), List.mem_of_getElem? (i := 462) (by decide +kernel)⟩
theorem lw_p10 : lw_okq (⟨"StairBowsModel", "peopleAt", "(I)I"⟩, 9) := ⟨⟨by decide +kernel, by decide +kernel⟩, List.mem_of_getElem? (i := 410) (by decide +kernel), List.mem_of_getElem? (i := 465) (by decide +kernel), List.mem_of_getElem? (i := 466) (by decide +kernel)⟩
theorem lw_p11 : lw_okq (⟨"StairBowsModel", "isAt", "(II)Z"⟩, 9) := ⟨⟨by decide +kernel, by decide +kernel⟩, List.mem_of_getElem? (i := 410) (by decide +kernel), List.mem_of_getElem? (i := 469) (by decide +kernel), List.mem_of_getElem? (i := 470) (by decide +kernel)⟩
theorem lw_p12 : lw_okq (⟨"StairBowsModel", "get", "(II)I"⟩, 9) := ⟨⟨by decide +kernel, by decide +kernel⟩, List.mem_of_getElem? (i := 410) (by decide +kernel), List.mem_of_getElem? (i := 473) (by decide +kernel), List.mem_of_getElem? (i := 474) (by decide +kernel)⟩
theorem lw_p13 : lw_okq (⟨"StairBowsModel", "changes", "()V"⟩, 9) := ⟨⟨by decide +kernel, by decide +kernel⟩, List.mem_of_getElem? (i := 410) (by decide +kernel), List.mem_of_getElem? (i := 477) (by decide +kernel), List.mem_of_getElem? (i := 478) (by decide +kernel)⟩
theorem lw_p14 : lw_okq (⟨"StairBowsModel", "landings", "()I"⟩, 9) := ⟨⟨by decide +kernel, by decide +kernel⟩, List.mem_of_getElem? (i := 410) (by decide +kernel), List.mem_of_getElem? (i := 489) (by decide +kernel), List.mem_of_getElem? (i := 490) (by decide +kernel)⟩
theorem lw_p15 : lw_okq (⟨"StairBowsModel", "comes", "(II)V"⟩, 9) := ⟨⟨by decide +kernel, by decide +kernel⟩, List.mem_of_getElem? (i := 410) (by decide +kernel), List.mem_of_getElem? (i := 497) (by decide +kernel), List.mem_of_getElem? (i := 498) (by decide +kernel)⟩
def lw_privs_1 : List (MethodName × Nat) := [(⟨"StairBows$History", "dropOldest", "()V"⟩, 2), (⟨"StairBows$Pad", "canStandAt", "(I)Z"⟩, 2), (⟨"StairBows", "isPerson", "(I)Z"⟩, 6), (⟨"StairBows$Staircase", "move", "(LStairBows$Person;)V"⟩, 6), (⟨"StairBows$Staircase", "bring", "(LStairBows$Person;III)V"⟩, 6), (⟨"StairBows$Staircase", "isCleared", "(ILStairBows$Person;)Z"⟩, 6), (⟨"StairBows$Staircase", "yielderOn", "(ILStairBows$Person;)LStairBows$Person;"⟩, 6), (⟨"StairBows", "tryOut", "(I)I"⟩, 6), (⟨"StairBowsModel", "isTooFull", "(I)Z"⟩, 9), (⟨"StairBowsModel", "isLanding", "(I)Z"⟩, 9), (⟨"StairBowsModel", "peopleAt", "(I)I"⟩, 9), (⟨"StairBowsModel", "isAt", "(II)Z"⟩, 9), (⟨"StairBowsModel", "get", "(II)I"⟩, 9), (⟨"StairBowsModel", "changes", "()V"⟩, 9), (⟨"StairBowsModel", "landings", "()I"⟩, 9), (⟨"StairBowsModel", "comes", "(II)V"⟩, 9)]
theorem lw_r1 : ∀ q ∈ lw_privs_1, lw_okq q := List.forall_mem_cons.mpr ⟨lw_p0, List.forall_mem_cons.mpr ⟨lw_p1, List.forall_mem_cons.mpr ⟨lw_p2, List.forall_mem_cons.mpr ⟨lw_p3, List.forall_mem_cons.mpr ⟨lw_p4, List.forall_mem_cons.mpr ⟨lw_p5, List.forall_mem_cons.mpr ⟨lw_p6, List.forall_mem_cons.mpr ⟨lw_p7, List.forall_mem_cons.mpr ⟨lw_p8, List.forall_mem_cons.mpr ⟨lw_p9, List.forall_mem_cons.mpr ⟨lw_p10, List.forall_mem_cons.mpr ⟨lw_p11, List.forall_mem_cons.mpr ⟨lw_p12, List.forall_mem_cons.mpr ⟨lw_p13, List.forall_mem_cons.mpr ⟨lw_p14, List.forall_mem_cons.mpr ⟨lw_p15, fun _ h => absurd h List.not_mem_nil⟩⟩⟩⟩⟩⟩⟩⟩⟩⟩⟩⟩⟩⟩⟩⟩
theorem lw_p16 : lw_okq (⟨"StairBowsModel", "lays", "(III)V"⟩, 9) := ⟨⟨by decide +kernel, by decide +kernel⟩, List.mem_of_getElem? (i := 410) (by decide +kernel), List.mem_of_getElem? (i := 501) (by decide +kernel), List.mem_of_getElem? (i := 502) (by decide +kernel)⟩
theorem lw_p17 : lw_okq (⟨"StairBowsModel", "isAllowed", "(I)Z"⟩, 9) := ⟨⟨by decide +kernel, by decide +kernel⟩, List.mem_of_getElem? (i := 410) (by decide +kernel), List.mem_of_getElem? (i := 513) (by decide +kernel), List.mem_of_getElem? (i := 514) (by decide +kernel)⟩
theorem lw_p18 : lw_okq (⟨"StairBowsModel", "isPerson", "(I)Z"⟩, 9) := ⟨⟨by decide +kernel, by decide +kernel⟩, List.mem_of_getElem? (i := 410) (by decide +kernel), List.mem_of_getElem? (i := 523) (by decide +kernel), List.mem_of_getElem? (i := 524) (by decide +kernel)⟩
theorem lw_p19 : lw_okq (⟨"StairBowsModel", "thatAre", "(I)I"⟩, 9) := ⟨⟨by decide +kernel, by decide +kernel⟩, List.mem_of_getElem? (i := 410) (by decide +kernel), List.mem_of_getElem? (i := 532) (by decide +kernel), List.mem_of_getElem? (i := 533) (by decide +kernel)⟩
theorem lw_p20 : lw_okq (⟨"StairBowsModel", "ticks", "()V"⟩, 9) := ⟨⟨by decide +kernel, by decide +kernel⟩, List.mem_of_getElem? (i := 410) (by decide +kernel), List.mem_of_getElem? (i := 536) (by decide +kernel), List.mem_of_getElem? (i := 537) (by decide +kernel)⟩
theorem lw_p21 : lw_okq (⟨"StairBowsModel", "acts", "(I)V"⟩, 9) := ⟨⟨by decide +kernel, by decide +kernel⟩, List.mem_of_getElem? (i := 410) (by decide +kernel), List.mem_of_getElem? (i := 540) (by decide +kernel), List.mem_of_getElem? (i := 541) (by decide +kernel)⟩
theorem lw_p22 : lw_okq (⟨"StairBowsModel", "nextOf", "(I)I"⟩, 9) := ⟨⟨by decide +kernel, by decide +kernel⟩, List.mem_of_getElem? (i := 410) (by decide +kernel), List.mem_of_getElem? (i := 544) (by decide +kernel), List.mem_of_getElem? (i := 545) (by decide +kernel)⟩
theorem lw_p23 : lw_okq (⟨"StairBowsModel", "way", "(I)I"⟩, 9) := ⟨⟨by decide +kernel, by decide +kernel⟩, List.mem_of_getElem? (i := 410) (by decide +kernel), List.mem_of_getElem? (i := 548) (by decide +kernel), List.mem_of_getElem? (i := 549) (by decide +kernel)⟩
theorem lw_p24 : lw_okq (⟨"StairBowsModel", "ends", "(II)V"⟩, 9) := ⟨⟨by decide +kernel, by decide +kernel⟩, List.mem_of_getElem? (i := 410) (by decide +kernel), List.mem_of_getElem? (i := 552) (by decide +kernel), List.mem_of_getElem? (i := 553) (by decide +kernel)⟩
theorem lw_p25 : lw_okq (⟨"StairBowsModel", "roomAt", "(I)I"⟩, 9) := ⟨⟨by decide +kernel, by decide +kernel⟩, List.mem_of_getElem? (i := 410) (by decide +kernel), List.mem_of_getElem? (i := 556) (by decide +kernel), List.mem_of_getElem? (i := 557) (by decide +kernel)⟩
theorem lw_p26 : lw_okq (⟨"StairBowsModel", "yielder", "(II)I"⟩, 9) := ⟨⟨by decide +kernel, by decide +kernel⟩, List.mem_of_getElem? (i := 410) (by decide +kernel), List.mem_of_getElem? (i := 560) (by decide +kernel), List.mem_of_getElem? (i := 561) (by decide +kernel)⟩
theorem lw_p27 : lw_okq (⟨"StairBowsModel", "yields", "(II)Z"⟩, 9) := ⟨⟨by decide +kernel, by decide +kernel⟩, List.mem_of_getElem? (i := 410) (by decide +kernel), List.mem_of_getElem? (i := 564) (by decide +kernel), List.mem_of_getElem? (i := 565) (by decide +kernel)⟩
theorem lw_p28 : lw_okq (⟨"StairBowsModel", "makesWay", "(II)Z"⟩, 9) := ⟨⟨by decide +kernel, by decide +kernel⟩, List.mem_of_getElem? (i := 410) (by decide +kernel), List.mem_of_getElem? (i := 568) (by decide +kernel), List.mem_of_getElem? (i := 569) (by decide +kernel)⟩
theorem lw_p29 : lw_okq (⟨"StairBowsModel", "adds", "(III)V"⟩, 9) := ⟨⟨by decide +kernel, by decide +kernel⟩, List.mem_of_getElem? (i := 410) (by decide +kernel), List.mem_of_getElem? (i := 572) (by decide +kernel), List.mem_of_getElem? (i := 573) (by decide +kernel)⟩
theorem lw_p30 : lw_okq (⟨"StairBowsModel", "goesTo", "(III)V"⟩, 9) := ⟨⟨by decide +kernel, by decide +kernel⟩, List.mem_of_getElem? (i := 410) (by decide +kernel), List.mem_of_getElem? (i := 576) (by decide +kernel), List.mem_of_getElem? (i := 577) (by decide +kernel)⟩
theorem lw_p31 : lw_okq (⟨"StairBowsModel", "highestAt", "(I)I"⟩, 9) := ⟨⟨by decide +kernel, by decide +kernel⟩, List.mem_of_getElem? (i := 410) (by decide +kernel), List.mem_of_getElem? (i := 589) (by decide +kernel), List.mem_of_getElem? (i := 590) (by decide +kernel)⟩
def lw_privs_2 : List (MethodName × Nat) := [(⟨"StairBowsModel", "lays", "(III)V"⟩, 9), (⟨"StairBowsModel", "isAllowed", "(I)Z"⟩, 9), (⟨"StairBowsModel", "isPerson", "(I)Z"⟩, 9), (⟨"StairBowsModel", "thatAre", "(I)I"⟩, 9), (⟨"StairBowsModel", "ticks", "()V"⟩, 9), (⟨"StairBowsModel", "acts", "(I)V"⟩, 9), (⟨"StairBowsModel", "nextOf", "(I)I"⟩, 9), (⟨"StairBowsModel", "way", "(I)I"⟩, 9), (⟨"StairBowsModel", "ends", "(II)V"⟩, 9), (⟨"StairBowsModel", "roomAt", "(I)I"⟩, 9), (⟨"StairBowsModel", "yielder", "(II)I"⟩, 9), (⟨"StairBowsModel", "yields", "(II)Z"⟩, 9), (⟨"StairBowsModel", "makesWay", "(II)Z"⟩, 9), (⟨"StairBowsModel", "adds", "(III)V"⟩, 9), (⟨"StairBowsModel", "goesTo", "(III)V"⟩, 9), (⟨"StairBowsModel", "highestAt", "(I)I"⟩, 9)]
theorem lw_r2 : ∀ q ∈ lw_privs_2, lw_okq q := List.forall_mem_cons.mpr ⟨lw_p16, List.forall_mem_cons.mpr ⟨lw_p17, List.forall_mem_cons.mpr ⟨lw_p18, List.forall_mem_cons.mpr ⟨lw_p19, List.forall_mem_cons.mpr ⟨lw_p20, List.forall_mem_cons.mpr ⟨lw_p21, List.forall_mem_cons.mpr ⟨lw_p22, List.forall_mem_cons.mpr ⟨lw_p23, List.forall_mem_cons.mpr ⟨lw_p24, List.forall_mem_cons.mpr ⟨lw_p25, List.forall_mem_cons.mpr ⟨lw_p26, List.forall_mem_cons.mpr ⟨lw_p27, List.forall_mem_cons.mpr ⟨lw_p28, List.forall_mem_cons.mpr ⟨lw_p29, List.forall_mem_cons.mpr ⟨lw_p30, List.forall_mem_cons.mpr ⟨lw_p31, fun _ h => absurd h List.not_mem_nil⟩⟩⟩⟩⟩⟩⟩⟩⟩⟩⟩⟩⟩⟩⟩⟩
theorem lw_p32 : lw_okq (⟨"StairBowsModel", "keeps", "()V"⟩, 9) := ⟨⟨by decide +kernel, by decide +kernel⟩, List.mem_of_getElem? (i := 410) (by decide +kernel), List.mem_of_getElem? (i := 597) (by decide +kernel), List.mem_of_getElem? (i := 598) (by decide +kernel)⟩
theorem lw_p33 : lw_okq (⟨"StairBowsModel", "comesBack", "()V"⟩, 9) := ⟨⟨by decide +kernel, by decide +kernel⟩, List.mem_of_getElem? (i := 410) (by decide +kernel), List.mem_of_getElem? (i := 601) (by decide +kernel), List.mem_of_getElem? (i := 602) (by decide +kernel)⟩
theorem lw_p34 : lw_okq (⟨"StairBowsModel", "until", "(I)I"⟩, 9) := ⟨⟨by decide +kernel, by decide +kernel⟩, List.mem_of_getElem? (i := 410) (by decide +kernel), List.mem_of_getElem? (i := 614) (by decide +kernel), List.mem_of_getElem? (i := 615) (by decide +kernel)⟩
theorem lw_p35 : lw_okq (⟨"StairBowsModel", "isEmpty", "()Z"⟩, 9) := ⟨⟨by decide +kernel, by decide +kernel⟩, List.mem_of_getElem? (i := 410) (by decide +kernel), List.mem_of_getElem? (i := 618) (by decide +kernel), List.mem_of_getElem? (i := 619) (by decide +kernel)⟩
def lw_privs_3 : List (MethodName × Nat) := [(⟨"StairBowsModel", "keeps", "()V"⟩, 9), (⟨"StairBowsModel", "comesBack", "()V"⟩, 9), (⟨"StairBowsModel", "until", "(I)I"⟩, 9), (⟨"StairBowsModel", "isEmpty", "()Z"⟩, 9)]
theorem lw_r3 : ∀ q ∈ lw_privs_3, lw_okq q := List.forall_mem_cons.mpr ⟨lw_p32, List.forall_mem_cons.mpr ⟨lw_p33, List.forall_mem_cons.mpr ⟨lw_p34, List.forall_mem_cons.mpr ⟨lw_p35, fun _ h => absurd h List.not_mem_nil⟩⟩⟩⟩
def lw_privs : List (MethodName × Nat) := lw_privs_1 ++ (lw_privs_2 ++ (lw_privs_3))
def lw_tbl : List Cond := k2_sels lw_privs ++ tables_1
theorem lw_privs_ok : ∀ q ∈ lw_privs, lw_okq q := by
  show ∀ q ∈ lw_privs_1 ++ (lw_privs_2 ++ (lw_privs_3)), lw_okq q
  exact List.forall_mem_append.mpr ⟨lw_r1, List.forall_mem_append.mpr ⟨lw_r2, lw_r3⟩⟩
-- ===== end of PART A; then your names; then what follows =====
/-- the words of the tables that hold in whatever state a call comes to -/
def tb_G : List Cond := lw_tbl.filter goodWord
theorem tb_in {w : Cond} (i : Nat) (h : lw_tbl[i]? = some w) (hg : goodWord w = true) : w ∈ tb_G := List.mem_filter.mpr ⟨List.mem_of_getElem? h, hg⟩
theorem tb_sub {w : Cond} (h : w ∈ tb_G) : w ∈ lw_tbl := (List.mem_filter.mp h).1
theorem tb_good {w : Cond} (h : w ∈ tb_G) : goodWord w = true := (List.mem_filter.mp h).2
/-- a method's words: its code, and all of the tables -/
abbrev wX (y : MethodName) (b : ByteArray) (n : Nat) (r : Option FieldType) : List Cond := Cond.code y b n r :: tb_G
theorem tb_gi {ws : List Cond} (h : ∀ w ∈ ws, w ∈ tb_G) : GoodIn tb_G ws := fun w hw => ⟨h w hw, good_of_word (tb_good (h w hw))⟩
theorem tb_wX {y : MethodName} {b : ByteArray} {n : Nat} {r : Option FieldType} (h : Cond.code y b n r ∈ tb_G) : ∀ w ∈ wX y b n r, w ∈ tb_G := fun w hw => (List.mem_cons.mp hw).elim (fun e => e ▸ h) id
end
section
/-! THE WORLD: 295 cells at fixed places; the numbers in them are one function μ of place and slot -/
abbrev Mem : Type := Nat → Nat → Int32
def up2 (μ : Mem) (i k : Nat) (v : Int32) : Mem := fun a => if a = i then upd (μ i) k v else μ a
def upR (μ : Mem) (i : Nat) (f : Nat → Int32) : Mem := fun a => if a = i then f else μ a
theorem up2_row (μ : Mem) (i k : Nat) (v : Int32) : up2 μ i k v i = upd (μ i) k v := by simp [up2]
theorem up2_ne (μ : Mem) (i k : Nat) (v : Int32) {a : Nat} (h : a ≠ i) : up2 μ i k v a = μ a := by simp [up2, h]
theorem upR_row (μ : Mem) (i : Nat) (f : Nat → Int32) : upR μ i f i = f := by simp [upR]
theorem upR_ne (μ : Mem) (i : Nat) (f : Nat → Int32) {a : Nat} (h : a ≠ i) : upR μ i f a = μ a := by simp [upR, h]
/-- the kind of a staircase's cell, by its place in it -/
def ks (o : Nat) : Nat := if o = 0 then 9 else if o = 1 then 10 else if o = 2 then 11 else if o = 3 then 12 else 13
/-- the kind of a cell -/
def kd (i : Nat) : Nat :=
  if i = 0 then 0
  else if i < 57 then ks ((i - 1) % 28)
  else if i = 57 then 1
  else if i = 58 then 2
  else if i < 227 then ks ((i - 59) % 28)
  else if i = 227 then 3
  else if i = 228 then 4
  else if i = 229 then 5
  else if i = 230 then 6
  else if i < 287 then ks ((i - 231) % 28)
  else if i = 287 then 7
  else if i < 295 then i - 268
  else 99
/-- a field that holds a reference, for good: the place that it refers to -/
def fr (K i k : Nat) : Option Nat :=
  if K = 9 then (if k < 3 then some (i + 1 + k) else none)
  else if K = 0 then some ([1, 29, 57, 227, 228, 229].getD k 0)
  else if K = 1 then (if k = 0 then some 58 else none)
  else if K = 5 then (if k = 0 then some 230 else none)
  else if K = 7 then [some 288, some 289, some 290, none, some 291, some 292, some 293, some 294, none].getD k none
  else none
def fvl (ad : Nat → Nat) (K i k : Nat) (v : Int32) : Value := match fr K i k with
  | some t => .ref (ad t)
  | none => .int v
def nfK (K : Nat) : Nat := if K = 13 then 10 else if K = 9 then 6 else if K = 0 then 6 else if K = 7 then 9 else 2
def ciK (K : Nat) : Nat := if K = 13 then 2 else if K = 9 then 3 else if K = 0 then 4 else if K = 7 then 5 else if K = 5 then 1 else 0
def fsK (ad : Nat → Nat) (K i : Nat) (f : Nat → Int32) : List Value := (List.range (nfK K)).map (fun k => fvl ad K i k (f k))
abbrev Gv : Type := va_G × (Nat → ClassId)
def rfs (f : Nat → Option Nat) : vp_A → vp_A := fun a => (a.1, .inr (.inr (.inr (.inr f))))
def alK (K : Nat) : Nat := if K = 10 then 3 else if K = 12 then 12 else if K = 20 then 225 else if K = 21 then 225 else if K = 22 then 1350 else if K = 23 then 450 else if K = 24 then 2 else if K = 25 then 24 else if K = 26 then 60 else 0
def cellK (g : Gv) (ad : Nat → Nat) (K i : Nat) (f : Nat → Int32) : va_E :=
  if K = 11 then .inl (g.2 3, 24, .inr (.inr (.inr (.inr (fun k => some (ad (i + 2 + k)))))))
  else if K = 2 then .inl (g.2 4, 6, .inr (.inr (.inr (.inr (fun k => some (ad (59 + 28 * (f k).toNatClampNeg)))))))
  else if K = 3 then .inl (g.2 4, 2, .inr (.inr (.inr (.inr (fun k => some (ad (231 + 28 * k)))))))
  else if K = 4 then .inl (g.2 1, 2, .inl f)
  else if K = 6 then .inl (g.2 2, 60, .inl f)
  else if alK K = 0 then .inr (ciK K, fsK ad K i f)
  else .inl (g.2 0, alK K, .inl f)
def lay (g : Gv) (ad : Nat → Nat) (μ : Mem) (i : Nat) : va_E := cellK g ad (kd i) i (μ i)
def wl (g : Gv) (ad : Nat → Nat) (μ : Mem) : va_W := (List.range 295).map (fun i => (ad i, lay g ad μ i))
theorem kd_lt {i K : Nat} (h : kd i = K) (hK : K < 99) : i < 295 := by
  rcases Nat.lt_or_ge i 295 with q | q
  · exact q
  · exfalso
    have : kd i = 99 := by
      unfold kd
      repeat rw [if_neg (by omega)]
    omega
theorem wl_at (g : Gv) (ad : Nat → Nat) (μ : Mem) {i K : Nat} (h : kd i = K) (hK : K < 99) : (wl g ad μ)[i]? = some (ad i, cellK g ad K i (μ i)) := by
  have hi := kd_lt h hK
  subst h
  simp [wl, hi, lay]
theorem wl_len (g : Gv) (ad : Nat → Nat) (μ : Mem) : (wl g ad μ).length = 295 := by simp [wl]
theorem wl_set (g : Gv) (ad : Nat → Nat) (μ μ' : Mem) {i : Nat} {e : va_E} (he : lay g ad μ' i = e) (hne : ∀ j, j ≠ i → μ' j = μ j) : (wl g ad μ).set i (ad i, e) = wl g ad μ' := by
  apply List.ext_getElem?
  intro j
  by_cases hj : j = i
  · subst hj
    by_cases hl : j < 295
    · rw [List.getElem?_set_self (by rw [wl_len]; exact hl)]
      simp [wl, hl, he]
    · simp [wl, hl]
  · rw [List.getElem?_set_ne (Ne.symm hj)]
    by_cases hl : j < 295
    · simp [wl, hl, lay, hne j hj]
    · simp [wl, hl]
/-- the addresses of the world, and what comes behind sz -/
def Aw (ad : Nat → Nat) (sz : Nat) : Nat → Prop := fun q => (∃ i, i < 295 ∧ q = ad i) ∨ sz ≤ q
def RX0 : String := "StairBows$History"
def TX0 : u_T := fun k => match k with
  | 0 => ("StairBows$History", "states", "[LStairBows$Staircase;", true)
  | _ => ("StairBows$History", "size", "I", false)
def RX1 : String := "StairBows$Pad"
def TX1 : u_T := fun k => match k with
  | 0 => ("StairBows$Pad", "signs", "[C", true)
  | _ => ("StairBows$Pad", "length", "I", false)
def RX2 : String := "StairBows$Person"
def TX2 : u_T := fun k => match k with
  | 0 => ("StairBows$Person", "rank", "I", false)
  | 1 => ("StairBows$Person", "goesUp", "Z", false)
  | 2 => ("StairBows$Person", "place", "I", false)
  | 3 => ("StairBows$Person", "at", "I", false)
  | 4 => ("StairBows$Person", "waits", "I", false)
  | 5 => ("StairBows$Person", "yields", "I", false)
  | 6 => ("StairBows$Person", "bows", "I", false)
  | 7 => ("StairBows$Person", "endedAt", "I", false)
  | 8 => ("StairBows$Person", "stayed", "I", false)
  | _ => ("StairBows$Person", "deed", "I", false)
def RX3 : String := "StairBows$Staircase"
def TX3 : u_T := fun k => match k with
  | 0 => ("StairBows$Staircase", "settings", "[I", true)
  | 1 => ("StairBows$Staircase", "people", "[LStairBows$Person;", true)
  | 2 => ("StairBows$Staircase", "crowds", "[I", true)
  | 3 => ("StairBows$Staircase", "landings", "I", false)
  | 4 => ("StairBows$Staircase", "size", "I", false)
  | _ => ("StairBows$Staircase", "ticks", "I", false)
def RX4 : String := "StairBows"
def TX4 : u_T := fun k => match k with
  | 0 => ("StairBows", "now", "LStairBows$Staircase;", true)
  | 1 => ("StairBows", "trial", "LStairBows$Staircase;", true)
  | 2 => ("StairBows", "history", "LStairBows$History;", true)
  | 3 => ("StairBows", "slots", "[LStairBows$Staircase;", true)
  | 4 => ("StairBows", "isSaved", "[Z", true)
  | _ => ("StairBows", "pad", "LStairBows$Pad;", true)
def RX5 : String := "StairBowsModel"
def TX5 : u_T := fun k => match k with
  | 0 => ("StairBowsModel", "all", "[I", true)
  | 1 => ("StairBowsModel", "kept", "[I", true)
  | 2 => ("StairBowsModel", "history", "[I", true)
  | 3 => ("StairBowsModel", "historyLong", "I", false)
  | 4 => ("StairBowsModel", "slots", "[I", true)
  | 5 => ("StairBowsModel", "isSaved", "[I", true)
  | 6 => ("StairBowsModel", "did", "[I", true)
  | 7 => ("StairBowsModel", "text", "[I", true)
  | _ => ("StairBowsModel", "textLong", "I", false)
def tyX0 : Nat → FieldType := fun k => match k with
  | 0 => .array (.object "StairBows$Staircase")
  | _ => .int
theorem nmX0 : ∀ a, a < 2 → ∀ b, b < 2 → a ≠ b → (TX0 a).2.1 ≠ (TX0 b).2.1 := by decide +kernel
theorem tyX0_ok : ∀ k, k < 2 → parseFieldDescriptor (TX0 k).2.2.1 = some (tyX0 k) := by decide +kernel
theorem iX0 : ∀ w ∈ u_ws RX0 TX0 2, w ∈ tb_G := fun w hw => List.mem_filter.mpr ((by decide +kernel : ∀ w ∈ u_ws RX0 TX0 2, w ∈ lw_tbl ∧ goodWord w = true) w hw)
def tyX1 : Nat → FieldType := fun k => match k with
  | 0 => .array .char
  | _ => .int
theorem nmX1 : ∀ a, a < 2 → ∀ b, b < 2 → a ≠ b → (TX1 a).2.1 ≠ (TX1 b).2.1 := by decide +kernel
theorem tyX1_ok : ∀ k, k < 2 → parseFieldDescriptor (TX1 k).2.2.1 = some (tyX1 k) := by decide +kernel
theorem iX1 : ∀ w ∈ u_ws RX1 TX1 2, w ∈ tb_G := fun w hw => List.mem_filter.mpr ((by decide +kernel : ∀ w ∈ u_ws RX1 TX1 2, w ∈ lw_tbl ∧ goodWord w = true) w hw)
def tyX2 : Nat → FieldType := fun k => match k with
  | 0 => .int
  | 1 => .boolean
  | 2 => .int
  | 3 => .int
  | 4 => .int
  | 5 => .int
  | 6 => .int
  | 7 => .int
  | 8 => .int
  | _ => .int
theorem nmX2 : ∀ a, a < 10 → ∀ b, b < 10 → a ≠ b → (TX2 a).2.1 ≠ (TX2 b).2.1 := by decide +kernel
theorem tyX2_ok : ∀ k, k < 10 → parseFieldDescriptor (TX2 k).2.2.1 = some (tyX2 k) := by decide +kernel
theorem iX2 : ∀ w ∈ u_ws RX2 TX2 10, w ∈ tb_G := fun w hw => List.mem_filter.mpr ((by decide +kernel : ∀ w ∈ u_ws RX2 TX2 10, w ∈ lw_tbl ∧ goodWord w = true) w hw)
def tyX3 : Nat → FieldType := fun k => match k with
  | 0 => .array .int
  | 1 => .array (.object "StairBows$Person")
  | 2 => .array .int
  | 3 => .int
  | 4 => .int
  | _ => .int
theorem nmX3 : ∀ a, a < 6 → ∀ b, b < 6 → a ≠ b → (TX3 a).2.1 ≠ (TX3 b).2.1 := by decide +kernel
theorem tyX3_ok : ∀ k, k < 6 → parseFieldDescriptor (TX3 k).2.2.1 = some (tyX3 k) := by decide +kernel
theorem iX3 : ∀ w ∈ u_ws RX3 TX3 6, w ∈ tb_G := fun w hw => List.mem_filter.mpr ((by decide +kernel : ∀ w ∈ u_ws RX3 TX3 6, w ∈ lw_tbl ∧ goodWord w = true) w hw)
def tyX4 : Nat → FieldType := fun k => match k with
  | 0 => .object "StairBows$Staircase"
  | 1 => .object "StairBows$Staircase"
  | 2 => .object "StairBows$History"
  | 3 => .array (.object "StairBows$Staircase")
  | 4 => .array .boolean
  | _ => .object "StairBows$Pad"
theorem nmX4 : ∀ a, a < 6 → ∀ b, b < 6 → a ≠ b → (TX4 a).2.1 ≠ (TX4 b).2.1 := by decide +kernel
theorem tyX4_ok : ∀ k, k < 6 → parseFieldDescriptor (TX4 k).2.2.1 = some (tyX4 k) := by decide +kernel
theorem iX4 : ∀ w ∈ u_ws RX4 TX4 6, w ∈ tb_G := fun w hw => List.mem_filter.mpr ((by decide +kernel : ∀ w ∈ u_ws RX4 TX4 6, w ∈ lw_tbl ∧ goodWord w = true) w hw)
def tyX5 : Nat → FieldType := fun k => match k with
  | 0 => .array .int
  | 1 => .array .int
  | 2 => .array .int
  | 3 => .int
  | 4 => .array .int
  | 5 => .array .int
  | 6 => .array .int
  | 7 => .array .int
  | _ => .int
theorem nmX5 : ∀ a, a < 9 → ∀ b, b < 9 → a ≠ b → (TX5 a).2.1 ≠ (TX5 b).2.1 := by decide +kernel
theorem tyX5_ok : ∀ k, k < 9 → parseFieldDescriptor (TX5 k).2.2.1 = some (tyX5 k) := by decide +kernel
theorem iX5 : ∀ w ∈ u_ws RX5 TX5 9, w ∈ tb_G := fun w hw => List.mem_filter.mpr ((by decide +kernel : ∀ w ∈ u_ws RX5 TX5 9, w ∈ lw_tbl ∧ goodWord w = true) w hw)
abbrev vwCl : List vw_C := [(RX0, TX0, 2), (RX1, TX1, 2), (RX2, TX2, 10), (RX3, TX3, 6), (RX4, TX4, 6), (RX5, TX5, 9)]
end
section
/-! THE ROWS over that world -/
abbrev tysG (g : Gv) : List (ClassId × FieldType) := [(g.2 0, .int), (g.2 1, .boolean), (g.2 2, .char), (g.2 3, .object "StairBows$Person"), (g.2 4, .object "StairBows$Staircase")]
abbrev nwS : Cond := .methodLinkNest "StairBows$Staircase" 52 ⟨"StairBows", "isStep", "(I)Z"⟩ "StairBows"
def bz (v : Int32) : Prop := v = 0 ∨ v = 1
theorem bz_narrow {v : Int32} (h : bz v) : narrow .boolean (.int v) = .int v := by rcases h with rfl | rfl <;> rfl
theorem bz_fits {v : Int32} (h : bz v) : fits .boolean (.int v) = true := by rcases h with rfl | rfl <;> rfl
theorem bz_nar {v : Int32} (h : bz v) : vp_nar .boolean v = v := by rcases h with rfl | rfl <;> rfl
def firstV (k : Nat) : Int32 := if k = 0 then 2 else if k = 1 then 1 else 0
def leastV (k : Nat) : Int32 := if k = 0 then 1 else if k = 1 then 1 else 0
def greatV (k : Nat) : Int32 := if k = 0 then 4 else if k = 1 then 5 else 9
def Stt (A : Nat → Prop) (U : State) (H : Heap) : Prop := ∃ tF tL tG : Nat,
  (va_Z "StairBows" "FIRST_VALUE" "[I" (.ref tF) A U H ∧ va_T .int tF 3 (fun k => .int (firstV k)) A U H) ∧
  (va_Z "StairBows" "LEAST_VALUE" "[I" (.ref tL) A U H ∧ va_T .int tL 3 (fun k => .int (leastV k)) A U H) ∧
  (va_Z "StairBows" "GREATEST_VALUE" "[I" (.ref tG) A U H ∧ va_T .int tG 3 (fun k => .int (greatV k)) A U H)
theorem Stt.moved {A : Nat → Prop} {u U : State} {H : Heap} (hvm : u.vm.Alike U.vm) (h : Stt A u H) : Stt A U H := by
  obtain ⟨a, b, c, ⟨h1, h2⟩, ⟨h3, h4⟩, ⟨h5, h6⟩⟩ := h
  exact ⟨a, b, c, ⟨h1.moved hvm, h2.moved hvm⟩, ⟨h3.moved hvm, h4.moved hvm⟩, ⟨h5.moved hvm, h6.moved hvm⟩⟩
theorem Stt.kept {A : Nat → Prop} {U : State} {H H1 : Heap} (h : Stt A U H) (hq : ∀ a : Nat, a < H.size → ¬ A a → H1[a]? = H[a]?) : Stt A U H1 := by
  obtain ⟨a, b, c, ⟨h1, h2⟩, ⟨h3, h4⟩, ⟨h5, h6⟩⟩ := h
  exact ⟨a, b, c, ⟨h1.kept hq, h2.kept hq⟩, ⟨h3.kept hq, h4.kept hq⟩, ⟨h5.kept hq, h6.kept hq⟩⟩
theorem Stt.narrow {A B : Nat → Prop} {U : State} {H : Heap} (h : Stt A U H) (hAB : ∀ q, B q → A q) : Stt B U H := by
  obtain ⟨a, b, c, ⟨h1, h2⟩, ⟨h3, h4⟩, ⟨h5, h6⟩⟩ := h
  exact ⟨a, b, c, ⟨h1.narrow hAB, h2.narrow hAB⟩, ⟨h3.narrow hAB, h4.narrow hAB⟩, ⟨h5.narrow hAB, h6.narrow hAB⟩⟩
def Pre (g : Gv) (ad : Nat → Nat) (μ : Mem) (sz : Nat) (av : List Value) : Array Value → State → Prop :=
  va_Pc av (fun U => U.heap.size = sz ∧ va_P g.1 vwCl (wl g ad μ) U.heap ∧ va_K g.1 vwCl (tysG g) U ∧ va_D (fun _ => True) (wl g ad μ) ∧ va_Nw nwS U ∧ Stt (Aw ad sz) U U.heap)
def PostI (g : Gv) (ad : Nat → Nat) (sz : Nat) (K : Int32 → Mem → Prop) : Array Value → State → Outcome → State → Prop :=
  va_Qi K (fun μ' t => va_P g.1 vwCl (wl g ad μ') t.heap) (Aw ad sz)
def PostV (g : Gv) (ad : Nat → Nat) (sz : Nat) (K : Mem → Prop) : Array Value → State → Outcome → State → Prop :=
  va_Qv K (fun μ' t => va_P g.1 vwCl (wl g ad μ') t.heap) (Aw ad sz)
def PostR (g : Gv) (ad : Nat → Nat) (sz : Nat) (K : Option Nat → Mem → Prop) : Array Value → State → Outcome → State → Prop :=
  va_Qe ad (fun r μ' => (∀ q, r = some q → kd q = 13) ∧ K r μ') (fun μ' t => va_P g.1 vwCl (wl g ad μ') t.heap) (Aw ad sz)
/-- what stays through a method -/
def Cx (g : Gv) (p : Program) (s : State) (m : MethodId) (args : Array Value) (meth : Method) (c : Code) (own : String) (cc : ByteArray) (nL : Nat) (ret : Option FieldType) : Prop :=
  p.tables.exec = Jvm.exec ∧ c.code = cc ∧ c.maxLocals = nL ∧ meth.sig.returnType = ret ∧ (∀ w ∈ tb_G, w.before args s = true) ∧ s.vm.findClass own = some m.cls ∧ meth.locks = false ∧ va_K g.1 vwCl (tysG g) s ∧ va_Nw nwS s
/-- the world at a heap -/
def Wd (g : Gv) (ad : Nat → Nat) (μ : Mem) (A : Nat → Prop) (s : State) (H : Heap) (locs : List Loc) : Prop :=
  va_P g.1 vwCl (wl g ad μ) H ∧ va_D A (wl g ad μ) ∧ va_S A s.heap H locs ∧ (∀ q, s.heap.size ≤ q → A q) ∧ Stt A s s.heap
theorem wl_ad {g : Gv} {ad : Nat → Nat} {μ : Mem} {k : Nat} {q : Nat × va_E} (h : (wl g ad μ)[k]? = some q) : k < 295 ∧ q = (ad k, lay g ad μ k) := by
  have hl := (List.getElem?_eq_some_iff.mp h).1
  rw [wl_len] at hl
  refine ⟨hl, ?_⟩
  simp [wl, hl] at h
  exact h.symm
theorem wl_get {g : Gv} {ad : Nat → Nat} {μ : Mem} {k : Nat} (h : k < 295) : (wl g ad μ)[k]? = some (ad k, lay g ad μ k) := by simp [wl, h]
theorem wl_D {g : Gv} {ad : Nat → Nat} {μ : Mem} {A : Nat → Prop} (μ' : Mem) (h : va_D A (wl g ad μ)) : va_D A (wl g ad μ') := by
  refine ⟨fun i j x y hi hj hxy => ?_, fun k q hk => ?_⟩
  · obtain ⟨a1, b1⟩ := wl_ad hi
    obtain ⟨a2, b2⟩ := wl_ad hj
    subst b1; subst b2
    exact h.1 i j _ _ (wl_get a1) (wl_get a2) hxy
  · obtain ⟨a1, b1⟩ := wl_ad hk
    subst b1
    exact h.2 k (ad k, lay g ad μ k) (wl_get a1)
theorem wl_A {g : Gv} {ad : Nat → Nat} {μ : Mem} {A : Nat → Prop} {s : State} {H : Heap} {locs : List Loc} (w : Wd g ad μ A s H locs) : ∀ q, Aw ad H.size q → A q := by
  intro q h
  rcases h with ⟨i, hi, rfl⟩ | h
  · exact w.2.1.2 i _ (wl_get hi)
  · exact w.2.2.2.1 q (Nat.le_trans w.2.2.1.1 h)
theorem pre_blind (g : Gv) (ad : Nat → Nat) (μ : Mem) (sz : Nat) (av : List Value) : FrameBlind (Pre g ad μ sz av) := by
  intro a U f mk h
  obtain ⟨h1, h2, h3, h4, h5, h6, h7⟩ := h
  exact ⟨h1, h2, h3, va_K.moved (u := U) (U := U.calling f mk a) (Vm.Alike.refl U.vm) h4, h5, va_Nw.same (u := U) (U := U.calling f mk a) rfl rfl h6, Stt.moved (u := U) (U := U.calling f mk a) (Vm.Alike.refl U.vm) h7⟩
theorem x_pre {g : Gv} {p : Program} {s : State} {m : MethodId} {args : Array Value} {meth : Method} {c : Code} {own : String} {cc : ByteArray} {nL : Nat} {ret : Option FieldType} {ad : Nat → Nat} {μ : Mem} {A : Nat → Prop} {H : Heap} {locs : List Loc} (C : Cx g p s m args meth c own cc nL ret) (w : Wd g ad μ A s H locs) (av : List Value) : ∀ U : State, U.heap = H → s.WarmedH U.vm → Pre g ad μ H.size av av.toArray U := by
  intro U hU hW
  obtain ⟨hx, hb, hml, hr, hts, hown, hlocks, hK, hN⟩ := C
  exact ⟨rfl, by rw [hU], by rw [hU]; exact w.1, va_K.moved hW.alike hK, w.2.1.weaken (fun _ _ _ _ => trivial), hN.warmM hW, by rw [hU]; exact ((w.2.2.2.2.kept (fun a h1 h2 => w.2.2.1.2.1 a h1 h2)).narrow (wl_A w)).moved hW.alike⟩
theorem x_start {g : Gv} {ad : Nat → Nat} {μ : Mem} {sz : Nat} {av : List Value} {p : Program} {l : Launch} {y : MethodName} {cc : ByteArray} {nL : Nat} {ret : Option FieldType} {rm : Room} {e : Env} {s : State} {m : MethodId} {args : Array Value} {below : List Frame} {meth : Method} {c : Code} {s₁ : State}
    (B : BodyLoose p l y (headSpec (wX y cc nL ret) rm) cc nL ret e s m args below meth c s₁) (hml : c.maxLocals = nL) (hv : Pre g ad μ sz av args s) : args = av.toArray ∧ s.heap.size = sz ∧ Cx g p s m args meth c y.cls cc nL ret ∧ Wd g ad μ (Aw ad s.heap.size) s s.heap [] := by
  obtain ⟨h1, h2, h3, h4, h5, h6, h7⟩ := hv
  have hts := atoms_spec (ws := wX y cc nL ret) B.pre
  refine ⟨h1, h2, ⟨B.exec, B.bytes, hml, B.returns, fun w hw => hts w (List.mem_cons_of_mem _ hw), findClass_of_methodNamed B.named, B.notSynchronized, h4, h6⟩, h3, ⟨h5.1, fun k q hk => ?_⟩, va_S.rf, fun q hq => Or.inr hq, by rw [h2]; exact h7⟩
  obtain ⟨a1, b1⟩ := wl_ad hk
  subst b1
  exact Or.inl ⟨k, a1, rfl⟩
theorem fsK_at (ad : Nat → Nat) (K i : Nat) (f : Nat → Int32) {k : Nat} (hk : k < nfK K) : (fsK ad K i f)[k]? = some (fvl ad K i k (f k)) := by simp [fsK, hk]
theorem fsK_len (ad : Nat → Nat) (K i : Nat) (f : Nat → Int32) : (fsK ad K i f).length = nfK K := by simp [fsK]
theorem fsK_set (ad : Nat → Nat) (K i : Nat) (f : Nat → Int32) {k : Nat} (v : Int32) (hr : fr K i k = none) : (fsK ad K i f).set k (.int v) = fsK ad K i (upd f k v) := by
  apply List.ext_getElem?
  intro j
  by_cases hj : j = k
  · subst hj
    by_cases hl : j < nfK K
    · rw [List.getElem?_set_self (by rw [fsK_len]; exact hl), fsK_at _ _ _ _ hl]
      simp [fvl, hr, upd]
    · simp [fsK, hl]
  · rw [List.getElem?_set_ne (Ne.symm hj)]
    by_cases hl : j < nfK K
    · rw [fsK_at _ _ _ _ hl, fsK_at _ _ _ _ hl]
      simp [upd, hj]
    · simp [fsK, hl]
theorem Wd_up {g : Gv} {ad : Nat → Nat} {μ μ' : Mem} {A : Nat → Prop} {s : State} {H1 : Heap} {locs1 : List Loc} {i : Nat} {e : va_E} (hA : (∀ q, s.heap.size ≤ q → A q) ∧ Stt A s s.heap) (he : lay g ad μ' i = e) (hne : ∀ j, j ≠ i → μ' j = μ j) (hP : va_P g.1 vwCl ((wl g ad μ).set i (ad i, e)) H1) (hD : va_D A ((wl g ad μ).set i (ad i, e))) (hS : va_S A s.heap H1 locs1) : Wd g ad μ' A s H1 locs1 := by
  rw [wl_set g ad μ μ' he hne] at hP hD
  exact ⟨hP, hD, hS, hA⟩
section XR
variable {g : Gv} {ad : Nat → Nat} {μ : Mem} {A : Nat → Prop} {own : String} {cc : ByteArray} {nL : Nat} {ret : Option FieldType}
variable {p : Program} {l : Launch} {e : Env} {R : Room} {s : State} {m : MethodId} {args : Array Value} {below : List Frame} {meth : Method} {c : Code} {H : Heap} {locs : List Loc} {cells slots : Nat} {Q : State → Prop}
variable {pc : Nat} {ls : Array Slot} {rest : List Value}
theorem x_get (C0 : Cx g p s m args meth c own cc nL ret) (w : Wd g ad μ A s H locs) {i K ci k N : Nat} {C ref : String} {T : u_T} {index : Nat} {v : Value} (hk : kd i = K) (hK : K < 99) (hal : cellK g ad K i (μ i) = .inr (ci, fsK ad K i (μ i))) (hin : ∀ w ∈ u_ws C T N, w ∈ tb_G) (hc : vwCl[ci]? = some (C, T, N)) (hkN : k < N) (hkK : k < nfK K) (hv : fvl ad K i k (μ i k) = v) (hlink : Cond.fieldLink own index ref (T k).2.1 (T k).2.2.1 ∈ tb_G) (hsame : (T k).1 = ref) (hdg : decode cc pc = .ok (.getfield index, 3))
    (kk : W p l e R s m args below meth c H locs cells slots Q (F0 m (pc + 3) ls (v :: rest))) : W p l e R s m args below meth c H locs cells slots Q (F0 m pc ls (.ref (ad i) :: rest)) := by
  obtain ⟨hx, hb, hml, hr, hts, hown, hlocks, hKK, hN⟩ := C0
  subst hv
  subst hsame
  exact va_get hx hb hts hin hown hKK w.1 i ((wl_at g ad μ hk hK).trans (congrArg (fun e => some (ad i, e)) hal)) hc k hkN (hts _ hlink) (fun _ h => h) (fsK_at ad K i (μ i) hkK) hdg kk
theorem x_put (C0 : Cx g p s m args meth c own cc nL ret) (w : Wd g ad μ A s H locs) {i K ci k N : Nat} {C ref : String} {T : u_T} {index : Nat} {v : Int32} {ty : FieldType} (hk : kd i = K) (hK : K < 99) (hal : ∀ f, cellK g ad K i f = .inr (ci, fsK ad K i f)) (hin : ∀ w ∈ u_ws C T N, w ∈ tb_G) (ty0 : Nat → FieldType) (hty : ∀ k, k < N → parseFieldDescriptor (T k).2.2.1 = some (ty0 k)) (hnm : ∀ a, a < N → ∀ b, b < N → a ≠ b → (T a).2.1 ≠ (T b).2.1) (hc : vwCl[ci]? = some (C, T, N)) (hkN : k < N) (hkK : k < nfK K) (hr0 : fr K i k = none) (hlink : Cond.fieldLink own index ref (T k).2.1 (T k).2.2.1 ∈ tb_G) (hsame : (T k).1 = ref) (hfin : (T k).2.2.2 = false) (hd : ty0 k = ty) (hn : narrow ty (.int v) = .int v) (hfit : fits ty (.int v) = true) (hdg : decode cc pc = .ok (.putfield index, 3))
    (kk : ∀ μ', μ' = up2 μ i k v → ∀ (H1 : Heap) (locs1 : List Loc), Wd g ad μ' A s H1 locs1 → W p l e R s m args below meth c H1 locs1 cells slots Q (F0 m (pc + 3) ls rest)) : W p l e R s m args below meth c H locs cells slots Q (F0 m pc ls (.int v :: .ref (ad i) :: rest)) := by
  obtain ⟨hx, hb, hml, hr, hts, hown, hlocks, hKK, hN⟩ := C0
  subst hsame
  refine va_put hx hb hts hin ty0 hty hnm hown hKK w.1 w.2.1 w.2.2.1 i ((wl_at g ad μ hk hK).trans (congrArg (fun e => some (ad i, e)) (hal _))) hc k hkN (hts _ hlink) (fun _ h => h) hfin ((hty k hkN).trans (congrArg some hd)) hn hfit (by rw [fsK_len]; exact hkK) hdg (fun H1 locs1 hP hD hS => kk _ rfl H1 locs1 ?_)
  refine Wd_up w.2.2.2 ?_ (fun j hj => up2_ne μ i k v hj) hP hD hS
  show cellK g ad (kd i) i (up2 μ i k v i) = _
  rw [hk, up2_row, hal, fsK_set ad K i (μ i) v hr0]
theorem x_getP (C0 : Cx g p s m args meth c own cc nL ret) (w : Wd g ad μ A s H locs) {i k : Nat} {index : Nat} (hk : kd i = 13) (hkN : k < 10) (hlink : Cond.fieldLink own index (TX2 k).1 (TX2 k).2.1 (TX2 k).2.2.1 ∈ tb_G) (hdg : decode cc pc = .ok (.getfield index, 3))
    (kk : W p l e R s m args below meth c H locs cells slots Q (F0 m (pc + 3) ls (.int (μ i k) :: rest))) : W p l e R s m args below meth c H locs cells slots Q (F0 m pc ls (.ref (ad i) :: rest)) :=
  x_get C0 w (C := RX2) (T := TX2) (N := 10) (ci := 2) hk (by decide) rfl iX2 rfl hkN hkN rfl hlink rfl hdg kk
theorem x_putP (C0 : Cx g p s m args meth c own cc nL ret) (w : Wd g ad μ A s H locs) {i k : Nat} {index : Nat} {v : Int32} {ty : FieldType} (hk : kd i = 13) (hkN : k < 10) (hlink : Cond.fieldLink own index (TX2 k).1 (TX2 k).2.1 (TX2 k).2.2.1 ∈ tb_G) (hfin : (TX2 k).2.2.2 = false) (hd : tyX2 k = ty) (hn : narrow ty (.int v) = .int v) (hfit : fits ty (.int v) = true) (hdg : decode cc pc = .ok (.putfield index, 3))
    (kk : ∀ μ', μ' = up2 μ i k v → ∀ (H1 : Heap) (locs1 : List Loc), Wd g ad μ' A s H1 locs1 → W p l e R s m args below meth c H1 locs1 cells slots Q (F0 m (pc + 3) ls rest)) : W p l e R s m args below meth c H locs cells slots Q (F0 m pc ls (.int v :: .ref (ad i) :: rest)) :=
  x_put C0 w (C := RX2) (T := TX2) (N := 10) (ci := 2) hk (by decide) (fun _ => rfl) iX2 tyX2 tyX2_ok nmX2 rfl hkN hkN rfl hlink rfl hfin hd hn hfit hdg kk
theorem x_getS (C0 : Cx g p s m args meth c own cc nL ret) (w : Wd g ad μ A s H locs) {i k : Nat} {index : Nat} {v : Value} (hk : kd i = 9) (hkN : k < 6) (hv : fvl ad 9 i k (μ i k) = v) (hlink : Cond.fieldLink own index (TX3 k).1 (TX3 k).2.1 (TX3 k).2.2.1 ∈ tb_G) (hdg : decode cc pc = .ok (.getfield index, 3))
    (kk : W p l e R s m args below meth c H locs cells slots Q (F0 m (pc + 3) ls (v :: rest))) : W p l e R s m args below meth c H locs cells slots Q (F0 m pc ls (.ref (ad i) :: rest)) :=
  x_get C0 w (C := RX3) (T := TX3) (N := 6) (ci := 3) hk (by decide) rfl iX3 rfl hkN hkN hv hlink rfl hdg kk
theorem x_putS (C0 : Cx g p s m args meth c own cc nL ret) (w : Wd g ad μ A s H locs) {i k : Nat} {index : Nat} {v : Int32} (hk : kd i = 9) (hkN : k < 6) (hr0 : fr 9 i k = none) (hlink : Cond.fieldLink own index (TX3 k).1 (TX3 k).2.1 (TX3 k).2.2.1 ∈ tb_G) (hfin : (TX3 k).2.2.2 = false) (hd : tyX3 k = .int) (hdg : decode cc pc = .ok (.putfield index, 3))
    (kk : ∀ μ', μ' = up2 μ i k v → ∀ (H1 : Heap) (locs1 : List Loc), Wd g ad μ' A s H1 locs1 → W p l e R s m args below meth c H1 locs1 cells slots Q (F0 m (pc + 3) ls rest)) : W p l e R s m args below meth c H locs cells slots Q (F0 m pc ls (.int v :: .ref (ad i) :: rest)) :=
  x_put C0 w (C := RX3) (T := TX3) (N := 6) (ci := 3) hk (by decide) (fun _ => rfl) iX3 tyX3 tyX3_ok nmX3 rfl hkN hkN hr0 hlink rfl hfin hd rfl rfl hdg kk
theorem x_getX (C0 : Cx g p s m args meth c own cc nL ret) (w : Wd g ad μ A s H locs) {k : Nat} {index : Nat} {v : Value} (hkN : k < 6) (hv : fvl ad 0 0 k (μ 0 k) = v) (hlink : Cond.fieldLink own index (TX4 k).1 (TX4 k).2.1 (TX4 k).2.2.1 ∈ tb_G) (hdg : decode cc pc = .ok (.getfield index, 3))
    (kk : W p l e R s m args below meth c H locs cells slots Q (F0 m (pc + 3) ls (v :: rest))) : W p l e R s m args below meth c H locs cells slots Q (F0 m pc ls (.ref (ad 0) :: rest)) :=
  x_get C0 w (C := RX4) (T := TX4) (N := 6) (ci := 4) (K := 0) rfl (by decide) rfl iX4 rfl hkN hkN hv hlink rfl hdg kk
theorem x_getH (C0 : Cx g p s m args meth c own cc nL ret) (w : Wd g ad μ A s H locs) {k : Nat} {index : Nat} {v : Value} (hkN : k < 2) (hv : fvl ad 1 57 k (μ 57 k) = v) (hlink : Cond.fieldLink own index (TX0 k).1 (TX0 k).2.1 (TX0 k).2.2.1 ∈ tb_G) (hdg : decode cc pc = .ok (.getfield index, 3))
    (kk : W p l e R s m args below meth c H locs cells slots Q (F0 m (pc + 3) ls (v :: rest))) : W p l e R s m args below meth c H locs cells slots Q (F0 m pc ls (.ref (ad 57) :: rest)) :=
  x_get C0 w (C := RX0) (T := TX0) (N := 2) (ci := 0) (K := 1) rfl (by decide) rfl iX0 rfl hkN hkN hv hlink rfl hdg kk
theorem x_putH (C0 : Cx g p s m args meth c own cc nL ret) (w : Wd g ad μ A s H locs) {index : Nat} {v : Int32} (hlink : Cond.fieldLink own index (TX0 1).1 (TX0 1).2.1 (TX0 1).2.2.1 ∈ tb_G) (hdg : decode cc pc = .ok (.putfield index, 3))
    (kk : ∀ μ', μ' = up2 μ 57 1 v → ∀ (H1 : Heap) (locs1 : List Loc), Wd g ad μ' A s H1 locs1 → W p l e R s m args below meth c H1 locs1 cells slots Q (F0 m (pc + 3) ls rest)) : W p l e R s m args below meth c H locs cells slots Q (F0 m pc ls (.int v :: .ref (ad 57) :: rest)) :=
  x_put C0 w (C := RX0) (T := TX0) (N := 2) (ci := 0) (k := 1) (ty := .int) (K := 1) rfl (by decide) (fun _ => rfl) iX0 tyX0 tyX0_ok nmX0 rfl (by decide) (by decide) rfl hlink rfl rfl rfl rfl rfl hdg kk
theorem x_getD (C0 : Cx g p s m args meth c own cc nL ret) (w : Wd g ad μ A s H locs) {k : Nat} {index : Nat} {v : Value} (hkN : k < 2) (hv : fvl ad 5 229 k (μ 229 k) = v) (hlink : Cond.fieldLink own index (TX1 k).1 (TX1 k).2.1 (TX1 k).2.2.1 ∈ tb_G) (hdg : decode cc pc = .ok (.getfield index, 3))
    (kk : W p l e R s m args below meth c H locs cells slots Q (F0 m (pc + 3) ls (v :: rest))) : W p l e R s m args below meth c H locs cells slots Q (F0 m pc ls (.ref (ad 229) :: rest)) :=
  x_get C0 w (C := RX1) (T := TX1) (N := 2) (ci := 1) (K := 5) rfl (by decide) rfl iX1 rfl hkN hkN hv hlink rfl hdg kk
theorem x_putD (C0 : Cx g p s m args meth c own cc nL ret) (w : Wd g ad μ A s H locs) {index : Nat} {v : Int32} (hlink : Cond.fieldLink own index (TX1 1).1 (TX1 1).2.1 (TX1 1).2.2.1 ∈ tb_G) (hdg : decode cc pc = .ok (.putfield index, 3))
    (kk : ∀ μ', μ' = up2 μ 229 1 v → ∀ (H1 : Heap) (locs1 : List Loc), Wd g ad μ' A s H1 locs1 → W p l e R s m args below meth c H1 locs1 cells slots Q (F0 m (pc + 3) ls rest)) : W p l e R s m args below meth c H locs cells slots Q (F0 m pc ls (.int v :: .ref (ad 229) :: rest)) :=
  x_put C0 w (C := RX1) (T := TX1) (N := 2) (ci := 1) (k := 1) (ty := .int) (K := 5) rfl (by decide) (fun _ => rfl) iX1 tyX1 tyX1_ok nmX1 rfl (by decide) (by decide) rfl hlink rfl rfl rfl rfl rfl hdg kk
theorem x_getM (C0 : Cx g p s m args meth c own cc nL ret) (w : Wd g ad μ A s H locs) {k : Nat} {index : Nat} {v : Value} (hkN : k < 9) (hv : fvl ad 7 287 k (μ 287 k) = v) (hlink : Cond.fieldLink own index (TX5 k).1 (TX5 k).2.1 (TX5 k).2.2.1 ∈ tb_G) (hdg : decode cc pc = .ok (.getfield index, 3))
    (kk : W p l e R s m args below meth c H locs cells slots Q (F0 m (pc + 3) ls (v :: rest))) : W p l e R s m args below meth c H locs cells slots Q (F0 m pc ls (.ref (ad 287) :: rest)) :=
  x_get C0 w (C := RX5) (T := TX5) (N := 9) (ci := 5) (K := 7) rfl (by decide) rfl iX5 rfl hkN hkN hv hlink rfl hdg kk
theorem x_putM (C0 : Cx g p s m args meth c own cc nL ret) (w : Wd g ad μ A s H locs) {k : Nat} {index : Nat} {v : Int32} (hkN : k < 9) (hr0 : fr 7 287 k = none) (hlink : Cond.fieldLink own index (TX5 k).1 (TX5 k).2.1 (TX5 k).2.2.1 ∈ tb_G) (hfin : (TX5 k).2.2.2 = false) (hd : tyX5 k = .int) (hdg : decode cc pc = .ok (.putfield index, 3))
    (kk : ∀ μ', μ' = up2 μ 287 k v → ∀ (H1 : Heap) (locs1 : List Loc), Wd g ad μ' A s H1 locs1 → W p l e R s m args below meth c H1 locs1 cells slots Q (F0 m (pc + 3) ls rest)) : W p l e R s m args below meth c H locs cells slots Q (F0 m pc ls (.int v :: .ref (ad 287) :: rest)) :=
  x_put C0 w (C := RX5) (T := TX5) (N := 9) (ci := 5) (K := 7) rfl (by decide) (fun _ => rfl) iX5 tyX5 tyX5_ok nmX5 rfl hkN hkN hr0 hlink rfl hfin hd rfl rfl hdg kk
theorem x_at (w : Wd g ad μ A s H locs) {i K : Nat} {e : va_E} (hk : kd i = K) (hK : K < 99) (hal : cellK g ad K i (μ i) = e) : (wl g ad μ)[i]? = some (ad i, e) := (wl_at g ad μ hk hK).trans (congrArg (fun e => some (ad i, e)) hal)
theorem x_iald (C0 : Cx g p s m args meth c own cc nL ret) (w : Wd g ad μ A s H locs) {i K n : Nat} {j : Int32} (hk : kd i = K) (hK : K < 99) (hal : cellK g ad K i (μ i) = .inl (g.2 0, n, .inl (μ i))) (hin : vp_in j n) (hdg : decode cc pc = .ok (.iaload, 1))
    (kk : W p l e R s m args below meth c H locs cells slots Q (F0 m (pc + 1) ls (.int (μ i j.toNatClampNeg) :: rest))) : W p l e R s m args below meth c H locs cells slots Q (F0 m pc ls (.int j :: .ref (ad i) :: rest)) := by
  obtain ⟨hx, hb, hml, hr, hts, hown, hlocks, hKK, hN⟩ := C0
  exact va_iald hx hb hKK w.1 i 0 (x_at w hk hK hal) rfl hin hdg kk
theorem x_zald (C0 : Cx g p s m args meth c own cc nL ret) (w : Wd g ad μ A s H locs) {j : Int32} (hin : vp_in j 2) (hdg : decode cc pc = .ok (.baload, 1))
    (kk : W p l e R s m args below meth c H locs cells slots Q (F0 m (pc + 1) ls (.int (μ 228 j.toNatClampNeg) :: rest))) : W p l e R s m args below meth c H locs cells slots Q (F0 m pc ls (.int j :: .ref (ad 228) :: rest)) := by
  obtain ⟨hx, hb, hml, hr, hts, hown, hlocks, hKK, hN⟩ := C0
  exact va_zald hx hb hKK w.1 228 1 (x_at w (K := 4) rfl (by decide) rfl) rfl hin hdg kk
theorem x_cald (C0 : Cx g p s m args meth c own cc nL ret) (w : Wd g ad μ A s H locs) {j : Int32} (hin : vp_in j 60) (hdg : decode cc pc = .ok (.caload, 1))
    (kk : W p l e R s m args below meth c H locs cells slots Q (F0 m (pc + 1) ls (.int (μ 230 j.toNatClampNeg) :: rest))) : W p l e R s m args below meth c H locs cells slots Q (F0 m pc ls (.int j :: .ref (ad 230) :: rest)) := by
  obtain ⟨hx, hb, hml, hr, hts, hown, hlocks, hKK, hN⟩ := C0
  exact va_cald hx hb hKK w.1 230 2 (x_at w (K := 6) rfl (by decide) rfl) rfl hin hdg kk
theorem x_iast (C0 : Cx g p s m args meth c own cc nL ret) (w : Wd g ad μ A s H locs) {i K n : Nat} {j v : Int32} (hk : kd i = K) (hK : K < 99) (hal : ∀ f, cellK g ad K i f = .inl (g.2 0, n, .inl f)) (hin : vp_in j n) (hdg : decode cc pc = .ok (.iastore, 1))
    (kk : ∀ μ', μ' = up2 μ i j.toNatClampNeg v → ∀ (H1 : Heap) (locs1 : List Loc), Wd g ad μ' A s H1 locs1 → W p l e R s m args below meth c H1 locs1 cells slots Q (F0 m (pc + 1) ls rest)) : W p l e R s m args below meth c H locs cells slots Q (F0 m pc ls (.int v :: .int j :: .ref (ad i) :: rest)) := by
  obtain ⟨hx, hb, hml, hr, hts, hown, hlocks, hKK, hN⟩ := C0
  refine va_iast hx hb hKK w.1 w.2.1 w.2.2.1 i 0 (x_at w hk hK (hal _)) rfl hin hdg (fun H1 locs1 hP hD hS => kk _ rfl H1 locs1 ?_)
  refine Wd_up w.2.2.2 ?_ (fun a ha => up2_ne μ i _ v ha) hP hD hS
  show cellK g ad (kd i) i (up2 μ i _ v i) = _
  rw [hk, up2_row, hal]
theorem x_zast (C0 : Cx g p s m args meth c own cc nL ret) (w : Wd g ad μ A s H locs) {j v : Int32} (hv : bz v) (hin : vp_in j 2) (hdg : decode cc pc = .ok (.bastore, 1))
    (kk : ∀ μ', μ' = up2 μ 228 j.toNatClampNeg v → ∀ (H1 : Heap) (locs1 : List Loc), Wd g ad μ' A s H1 locs1 → W p l e R s m args below meth c H1 locs1 cells slots Q (F0 m (pc + 1) ls rest)) : W p l e R s m args below meth c H locs cells slots Q (F0 m pc ls (.int v :: .int j :: .ref (ad 228) :: rest)) := by
  obtain ⟨hx, hb, hml, hr, hts, hown, hlocks, hKK, hN⟩ := C0
  refine va_zast hx hb hKK w.1 w.2.1 w.2.2.1 228 1 (x_at w (K := 4) rfl (by decide) rfl) rfl hin hdg (fun H1 locs1 hP hD hS => kk _ rfl H1 locs1 ?_)
  rw [bz_nar hv] at hP hD
  exact Wd_up w.2.2.2 (by show cellK g ad 4 228 (up2 μ 228 _ v 228) = _; rw [up2_row]; rfl) (fun a ha => up2_ne μ 228 _ v ha) hP hD hS
theorem x_cast (C0 : Cx g p s m args meth c own cc nL ret) (w : Wd g ad μ A s H locs) {j v : Int32} (hin : vp_in j 60) (hdg : decode cc pc = .ok (.castore, 1))
    (kk : ∀ μ', μ' = up2 μ 230 j.toNatClampNeg (vp_nar .char v) → ∀ (H1 : Heap) (locs1 : List Loc), Wd g ad μ' A s H1 locs1 → W p l e R s m args below meth c H1 locs1 cells slots Q (F0 m (pc + 1) ls rest)) : W p l e R s m args below meth c H locs cells slots Q (F0 m pc ls (.int v :: .int j :: .ref (ad 230) :: rest)) := by
  obtain ⟨hx, hb, hml, hr, hts, hown, hlocks, hKK, hN⟩ := C0
  refine va_cast hx hb hKK w.1 w.2.1 w.2.2.1 230 2 (x_at w (K := 6) rfl (by decide) rfl) rfl hin hdg (fun H1 locs1 hP hD hS => kk _ rfl H1 locs1 ?_)
  exact Wd_up w.2.2.2 (by show cellK g ad 6 230 (up2 μ 230 _ _ 230) = _; rw [up2_row]; rfl) (fun a ha => up2_ne μ 230 _ _ ha) hP hD hS
/-- a person out of a staircase's row -/
theorem x_aldP (C0 : Cx g p s m args meth c own cc nL ret) (w : Wd g ad μ A s H locs) {i : Nat} {j : Int32} (hk : kd i = 11) (hin : vp_in j 24) (hdg : decode cc pc = .ok (.aaload, 1))
    (kk : W p l e R s m args below meth c H locs cells slots Q (F0 m (pc + 1) ls (.ref (ad (i + 2 + j.toNatClampNeg)) :: rest))) : W p l e R s m args below meth c H locs cells slots Q (F0 m pc ls (.int j :: .ref (ad i) :: rest)) := by
  obtain ⟨hx, hb, hml, hr, hts, hown, hlocks, hKK, hN⟩ := C0
  exact va_aldq hx hb hKK w.1 i 3 (x_at w hk (by decide) rfl) rfl hin hdg kk
theorem x_aldH (C0 : Cx g p s m args meth c own cc nL ret) (w : Wd g ad μ A s H locs) {j : Int32} (hin : vp_in j 6) (hdg : decode cc pc = .ok (.aaload, 1))
    (kk : W p l e R s m args below meth c H locs cells slots Q (F0 m (pc + 1) ls (.ref (ad (59 + 28 * (μ 58 j.toNatClampNeg).toNatClampNeg)) :: rest))) : W p l e R s m args below meth c H locs cells slots Q (F0 m pc ls (.int j :: .ref (ad 58) :: rest)) := by
  obtain ⟨hx, hb, hml, hr, hts, hown, hlocks, hKK, hN⟩ := C0
  exact va_aldq hx hb hKK w.1 58 4 (x_at w (K := 2) rfl (by decide) rfl) rfl hin hdg kk
theorem x_aldL (C0 : Cx g p s m args meth c own cc nL ret) (w : Wd g ad μ A s H locs) {j : Int32} (hin : vp_in j 2) (hdg : decode cc pc = .ok (.aaload, 1))
    (kk : W p l e R s m args below meth c H locs cells slots Q (F0 m (pc + 1) ls (.ref (ad (231 + 28 * j.toNatClampNeg)) :: rest))) : W p l e R s m args below meth c H locs cells slots Q (F0 m pc ls (.int j :: .ref (ad 227) :: rest)) := by
  obtain ⟨hx, hb, hml, hr, hts, hown, hlocks, hKK, hN⟩ := C0
  exact va_aldq hx hb hKK w.1 227 4 (x_at w (K := 3) rfl (by decide) rfl) rfl hin hdg kk
theorem x_astH (C0 : Cx g p s m args meth c own cc nL ret) (w : Wd g ad μ A s H locs) {j v : Int32} (hin : vp_in j 6) (hv : kd (59 + 28 * v.toNatClampNeg) = 9) (hdg : decode cc pc = .ok (.aastore, 1))
    (kk : ∀ μ', μ' = up2 μ 58 j.toNatClampNeg v → ∀ (H1 : Heap) (locs1 : List Loc), Wd g ad μ' A s H1 locs1 → W p l e R s m args below meth c H1 locs1 cells slots Q (F0 m (pc + 1) ls rest)) : W p l e R s m args below meth c H locs cells slots Q (F0 m pc ls (.ref (ad (59 + 28 * v.toNatClampNeg)) :: .int j :: .ref (ad 58) :: rest)) := by
  obtain ⟨hx, hb, hml, hr, hts, hown, hlocks, hKK, hN⟩ := C0
  refine va_astq hx hb hKK w.1 w.2.1 w.2.2.1 58 4 (59 + 28 * v.toNatClampNeg) 3 (r := (RX3, TX3, 6)) (x_at w (K := 2) rfl (by decide) rfl) rfl (x_at w (e := .inr (3, fsK ad 9 _ (μ _))) hv (by decide) rfl) rfl hin hdg (fun H1 locs1 hP hD hS => kk _ rfl H1 locs1 ?_)
  refine Wd_up w.2.2.2 ?_ (fun a ha => up2_ne μ 58 _ v ha) hP hD hS
  show cellK g ad 2 58 (up2 μ 58 _ v 58) = _
  rw [up2_row]
  show Sum.inl (g.2 4, 6, Sum.inr (Sum.inr (Sum.inr (Sum.inr fun k => some (ad (59 + 28 * (upd (μ 58) j.toNatClampNeg v k).toNatClampNeg)))))) = _
  congr 7
  funext k
  by_cases h : k = j.toNatClampNeg <;> simp [upd, va_up, h]
theorem x_alen (C0 : Cx g p s m args meth c own cc nL ret) (w : Wd g ad μ A s H locs) {i K n : Nat} {v : Int32} (hk : kd i = K) (hK : K < 99) (hal : cellK g ad K i (μ i) = .inl (g.2 0, n, .inl (μ i))) (hv : Int32.ofNat n = v) (hdg : decode cc pc = .ok (.arraylength, 1))
    (kk : W p l e R s m args below meth c H locs cells slots Q (F0 m (pc + 1) ls (.int v :: rest))) : W p l e R s m args below meth c H locs cells slots Q (F0 m pc ls (.ref (ad i) :: rest)) := by
  obtain ⟨hx, hb, hml, hr, hts, hown, hlocks, hKK, hN⟩ := C0
  exact va_alen hx hb hKK w.1 i 0 (x_at w hk hK hal) (ty := .int) rfl hv hdg kk
theorem x_copy (C0 : Cx g p s m args meth c own cc nL ret) (w : Wd g ad μ A s H locs) {i0 i1 K n : Nat} {index : Nat} {v : Int32} (hk0 : kd i0 = K) (hk1 : kd i1 = K) (hK : K < 99) (hal : ∀ i f, cellK g ad K i f = .inl (g.2 0, n, .inl f)) (hv0 : ¬ v < 0) (hv : v.toNatClampNeg = n) (hls : ls.size = nL) (hlink : Cond.methodLink own index arraycopyName ∈ tb_G) (hR : 1 ≤ R.frames) (hlocals : (rest.map fun v => v.category).sum + (nativeFrameWords "java/lang/System" "arraycopy" 5 + 11) ≤ R.locals) (hdg : decode cc pc = .ok (.invokestatic index, 3))
    (kk : ∀ μ', μ' = upR μ i1 (va_cpy (μ i0) (μ i1) 0 0 n) → ∀ (H1 : Heap) (locs1 : List Loc), Wd g ad μ' A s H1 locs1 → W p l e R s m args below meth c H1 locs1 cells slots Q (F0 m (pc + 3) ls rest)) : W p l e R s m args below meth c H locs cells slots Q (F0 m pc ls (.int v :: .int 0 :: .ref (ad i1) :: .int 0 :: .ref (ad i0) :: rest)) := by
  obtain ⟨hx, hb, hml, hr, hts, hown, hlocks, hKK, hN⟩ := C0
  refine va_copyi hx hb (hml.trans hls.symm) hown (hts _ hlink) (hts _ (tb_in 218 (by decide +kernel) rfl)) (hts _ (tb_in 217 (by decide +kernel) rfl)) (hts _ (tb_in 44 (by decide +kernel) rfl)) hKK w.1 w.2.1 w.2.2.1 i0 i1 0 0 (ty := .int) (x_at w hk0 hK (hal _ _)) (x_at w hk1 hK (hal _ _)) rfl rfl rfl (by decide) (by decide) hv0 (by rw [hv]; exact Nat.le_of_eq (Nat.zero_add n)) (by rw [hv]; exact Nat.le_of_eq (Nat.zero_add n)) (fun _ _ => rfl) hR hlocals hdg (fun H1 locs1 hP hD hS => kk _ rfl H1 locs1 ?_)
  rw [hv] at hP hD
  refine Wd_up w.2.2.2 ?_ (fun a ha => upR_ne μ i1 _ ha) hP hD hS
  show cellK g ad (kd i1) i1 (upR μ i1 _ i1) = _
  rw [hk1, upR_row, hal]
  rfl
end XR
end
section
/-! CALLS AND RETURNS over that world -/
def MeV (y : MethodName) (b : ByteArray) (nL : Nat) (rt : Option FieldType) (n : Nat) : Prop :=
  (Cond.instanceMethod y ∈ tb_G ∧ Cond.selects y.cls y y ∈ tb_G ∧ Cond.initialized y.cls ∈ tb_G ∧ Cond.code y b nL rt ∈ tb_G) ∧ y.cls = y.cls ∧ y.cls ≠ "java/lang/invoke/MethodHandle" ∧ y.cls ≠ "java/lang/invoke/VarHandle" ∧ (parseMethodDescriptor y.desc).map (fun d => d.parameters.length) = some n
def MeS (y : MethodName) (b : ByteArray) (nL : Nat) (rt : Option FieldType) (n : Nat) : Prop :=
  (Cond.static y ∈ tb_G ∧ Cond.initialized y.cls ∈ tb_G ∧ Cond.code y b nL rt ∈ tb_G) ∧ y.cls = y.cls ∧ y.cls ≠ "java/lang/invoke/MethodHandle" ∧ y.cls ≠ "java/lang/invoke/VarHandle" ∧ (parseMethodDescriptor y.desc).map (fun d => d.parameters.length) = some n
section XC
variable {g : Gv} {ad : Nat → Nat} {μ : Mem} {A : Nat → Prop} {own : String} {cc : ByteArray} {nL : Nat} {ret : Option FieldType}
variable {p : Program} {l : Launch} {e : Env} {R : Room} {s : State} {m : MethodId} {args : Array Value} {below : List Frame} {meth : Method} {c : Code} {H : Heap} {locs : List Loc} {cells slots : Nat} {Q : State → Prop}
variable {pc : Nat} {ls : Array Slot} {rest st : List Value} {y : MethodName} {b : ByteArray} {nY n idx : Nat} {rt : Option FieldType} {rm : Room} {As : List Value}
theorem x_back (C0 : Cx g p s m args meth c own cc nL ret) (w : Wd g ad μ A s H locs) {μ' : Mem} {t : State} {H1 : Heap} {locs1 : List Loc} (ht : t.heap = H1) (hB : va_P g.1 vwCl (wl g ad μ') t.heap) (hS : va_S A s.heap H1 locs1) : Wd g ad μ' A s H1 locs1 := ⟨by rw [← ht]; exact hB, wl_D μ' w.2.1, hS, w.2.2.2⟩
theorem x_recv (C0 : Cx g p s m args meth c own cc nL ret) (w : Wd g ad μ A s H locs) {i K ci : Nat} {q : vw_C} (hk : kd i = K) (hK : K < 99) (hal : cellK g ad K i (μ i) = .inr (ci, fsK ad K i (μ i))) (hc : vwCl[ci]? = some q) : ∃ cell : Cell, H[ad i]? = some cell ∧ cell.vm.isStatics = false ∧ s.vm.findClass q.1 = some cell.cls := by
  obtain ⟨hx, hb, hml, hr, hts, hown, hlocks, hKK, hN⟩ := C0
  exact va_recv hKK w.1 hc (x_at w hk hK hal)
/-- a virtual call of a method of ours -/
theorem x_runV {Qc : Array Value → State → Outcome → State → Prop} (C0 : Cx g p s m args meth c own cc nL ret) (w : Wd g ad μ A s H locs) {i K ci : Nat} {q : vw_C} (hk : kd i = K) (hK : K < 99) (hal : cellK g ad K i (μ i) = .inr (ci, fsK ad K i (μ i))) (hc : vwCl[ci]? = some q) (hq : q.1 = y.cls) (me : MeV y b nY rt n) (hl : Cond.methodLink own idx y ∈ tb_G)
    (hM : Met l y (wX y b nY rt) rm (Pre g ad μ H.size (.ref (ad i) :: As)) Qc 0 0 (Aw ad H.size)) (hrm : rm.cells = 0 ∧ rm.slots = 0) (hR : rm.frames + 1 ≤ R.frames ∧ 8 + (nY + 11) + rm.locals ≤ R.locals)
    (hn : As.length = n) (hls : ls.size = nL) (hst : st = As.reverse ++ .ref (ad i) :: rest) (hW : (rest.map fun v => v.category).sum ≤ 8) (hdg : decode cc pc = .ok (.invokevirtual idx, 3)) (hcs : cells ≤ R.cells ∧ slots ≤ R.slots) :
    va_Run p l e R s m args below meth c H locs cells slots 0 0 (F0 m pc ls st) rest (Qc (Value.ref (ad i) :: As).toArray) (Aw ad H.size) := by
  have C1 := C0
  obtain ⟨hx, hb, hml, hr, hts, hown, hlocks, hKK, hN⟩ := C0
  have hg : GoodIn tb_G (wsV own idx y.cls y (wX y b nY rt)) := by
    refine tb_gi (fun w hw => ?_)
    obtain ⟨h1, h2, h3, h4⟩ := me.1
    rcases List.mem_append.mp hw with h | h
    · simp only [List.mem_cons, List.not_mem_nil, or_false] at h
      rcases h with rfl | rfl | rfl | rfl
      · exact hl
      · exact h1
      · exact h2
      · exact h3
    · exact tb_wX h4 w h
  exact va_runV ⟨hx, hb, hml, hown, hts⟩ hM (cwV n hts hg rfl hrm.1 hrm.2 me.2 hR) ⟨pre_blind g ad μ H.size _, by rw [← hq]; exact x_recv C1 w hk hK hal hc, x_pre C1 w _⟩ rfl hn hls hst (lv_room hW) hdg ⟨hcs.1, hcs.2⟩
theorem x_runS {Qc : Array Value → State → Outcome → State → Prop} (C0 : Cx g p s m args meth c own cc nL ret) (w : Wd g ad μ A s H locs) (me : MeS y b nY rt n) (hl : Cond.methodLink own idx y ∈ tb_G)
    (hM : Met l y (wX y b nY rt) rm (Pre g ad μ H.size As) Qc 0 0 (Aw ad H.size)) (hrm : rm.cells = 0 ∧ rm.slots = 0) (hR : rm.frames + 1 ≤ R.frames ∧ 8 + (nY + 11) + rm.locals ≤ R.locals)
    (hn : As.length = n) (hls : ls.size = nL) (hst : st = As.reverse ++ rest) (hW : (rest.map fun v => v.category).sum ≤ 8) (hdg : decode cc pc = .ok (.invokestatic idx, 3)) (hcs : cells ≤ R.cells ∧ slots ≤ R.slots) :
    va_Run p l e R s m args below meth c H locs cells slots 0 0 (F0 m pc ls st) rest (Qc As.toArray) (Aw ad H.size) := by
  have C1 := C0
  obtain ⟨hx, hb, hml, hr, hts, hown, hlocks, hKK, hN⟩ := C0
  have hg : GoodIn tb_G (va_wsS own idx y (wX y b nY rt)) := by
    refine tb_gi (fun w hw => ?_)
    obtain ⟨h1, h3, h4⟩ := me.1
    rcases List.mem_append.mp hw with h | h
    · simp only [List.mem_cons, List.not_mem_nil, or_false] at h
      rcases h with rfl | rfl | rfl
      · exact hl
      · exact h1
      · exact h3
    · exact tb_wX h4 w h
  exact va_runS ⟨hx, hb, hml, hown, hts⟩ hM (va_cwS n hts hg rfl hrm.1 hrm.2 me.2.2 hR) ⟨pre_blind g ad μ H.size _, x_pre C1 w _⟩ rfl hn hls hst (lv_room hW) hdg ⟨hcs.1, hcs.2⟩
theorem x_runSN {host : String} {Qc : Array Value → State → Outcome → State → Prop} (C0 : Cx g p s m args meth c own cc nL ret) (w : Wd g ad μ A s H locs) (me : MeS y b nY rt n) (hl : va_Nw (.methodLinkNest own idx y host) s)
    (hM : Met l y (wX y b nY rt) rm (Pre g ad μ H.size As) Qc 0 0 (Aw ad H.size)) (hrm : rm.cells = 0 ∧ rm.slots = 0) (hR : rm.frames + 1 ≤ R.frames ∧ 8 + (nY + 11) + rm.locals ≤ R.locals)
    (hn : As.length = n) (hls : ls.size = nL) (hst : st = As.reverse ++ rest) (hW : (rest.map fun v => v.category).sum ≤ 8) (hdg : decode cc pc = .ok (.invokestatic idx, 3)) (hcs : cells ≤ R.cells ∧ slots ≤ R.slots) :
    va_Run p l e R s m args below meth c H locs cells slots 0 0 (F0 m pc ls st) rest (Qc As.toArray) (Aw ad H.size) := by
  have C1 := C0
  obtain ⟨hx, hb, hml, hr, hts, hown, hlocks, hKK, hN⟩ := C0
  exact va_runSN ⟨hx, hb, hml, hown, hts⟩ hM ⟨va_cnB n hts (tb_gi (tb_wX me.1.2.2)) rfl hrm.1 hrm.2 hl (hts _ me.1.2.1) me.2.2 hR, hts _ me.1.1, trivial⟩ ⟨pre_blind g ad μ H.size _, x_pre C1 w _⟩ rfl hn hls hst (lv_room hW) hdg ⟨hcs.1, hcs.2⟩
theorem x_calli {a : Array Value} {K' : Int32 → Mem → Prop} (C0 : Cx g p s m args meth c own cc nL ret) (w : Wd g ad μ A s H locs) (hr : va_Run p l e R s m args below meth c H locs cells slots 0 0 (F0 m pc ls st) rest (PostI g ad H.size K' a) (Aw ad H.size))
    (kk : ∀ (r : Int32) (μ' : Mem), K' r μ' → ∀ (H1 : Heap) (locs1 : List Loc), Wd g ad μ' A s H1 locs1 → W p l e R s m args below meth c H1 locs1 cells slots Q (F0 m (pc + 3) ls (.int r :: rest))) : W p l e R s m args below meth c H locs cells slots Q (F0 m pc ls st) :=
  va_calli hr w.2.2.1 (fun q _ h => wl_A w q h) (wl_A w) (fun r u t H1 locs1 ht hvm hw hB hz1 hk1 hS => kk r u hw H1 locs1 (x_back C0 w ht hB hS))
theorem x_callv {a : Array Value} {K' : Mem → Prop} (C0 : Cx g p s m args meth c own cc nL ret) (w : Wd g ad μ A s H locs) (hr : va_Run p l e R s m args below meth c H locs cells slots 0 0 (F0 m pc ls st) rest (PostV g ad H.size K' a) (Aw ad H.size))
    (kk : ∀ (μ' : Mem), K' μ' → ∀ (H1 : Heap) (locs1 : List Loc), Wd g ad μ' A s H1 locs1 → W p l e R s m args below meth c H1 locs1 cells slots Q (F0 m (pc + 3) ls rest)) : W p l e R s m args below meth c H locs cells slots Q (F0 m pc ls st) :=
  va_callv hr w.2.2.1 (fun q _ h => wl_A w q h) (wl_A w) (fun u t H1 locs1 ht hvm hw hB hz1 hk1 hS => kk u hw H1 locs1 (x_back C0 w ht hB hS))
theorem x_callr {a : Array Value} {K' : Option Nat → Mem → Prop} (C0 : Cx g p s m args meth c own cc nL ret) (w : Wd g ad μ A s H locs) (hr : va_Run p l e R s m args below meth c H locs cells slots 0 0 (F0 m pc ls st) rest (PostR g ad H.size K' a) (Aw ad H.size))
    (kk : ∀ (r : Option Nat) (μ' : Mem), (∀ q, r = some q → kd q = 13) → K' r μ' → ∀ (H1 : Heap) (locs1 : List Loc), Wd g ad μ' A s H1 locs1 → W p l e R s m args below meth c H1 locs1 cells slots Q (F0 m (pc + 3) ls (va_re ad r :: rest))) : W p l e R s m args below meth c H locs cells slots Q (F0 m pc ls st) :=
  va_calle hr w.2.2.1 (fun q _ h => wl_A w q h) (wl_A w) (fun r u t H1 locs1 ht hvm hw hB hz1 hk1 hS => kk r u hw.1 hw.2 H1 locs1 (x_back C0 w ht hB hS))
theorem x_iret {K' : Int32 → Mem → Prop} {v : Int32} (C0 : Cx g p s m args meth c own cc nL (some .int)) (w : Wd g ad μ (Aw ad s.heap.size) s H locs) (h : K' v μ) (hdg : decode cc pc = .ok (.ireturn, 1)) : W p l e R s m args below meth c H locs cells slots (MQ below (PostI g ad s.heap.size K') args s cells slots (Aw ad s.heap.size)) (F0 m pc ls [.int v]) := by
  obtain ⟨hx, hb, hml, hr, hts, hown, hlocks, hKK, hN⟩ := C0
  exact W.iret (v := v) hx hb hr (fun t ht hW => ⟨⟨v, μ, rfl, h, by show va_P _ _ _ t.heap; rw [ht]; exact w.1⟩, w.2.2.1.F ht⟩) w.2.2.1.2.2 hdg
theorem x_zret {K' : Int32 → Mem → Prop} {v : Int32} (C0 : Cx g p s m args meth c own cc nL (some .boolean)) (w : Wd g ad μ (Aw ad s.heap.size) s H locs) (hv : bz v) (h : K' v μ) (hdg : decode cc pc = .ok (.ireturn, 1)) : W p l e R s m args below meth c H locs cells slots (MQ below (PostI g ad s.heap.size K') args s cells slots (Aw ad s.heap.size)) (F0 m pc ls [.int v]) := by
  obtain ⟨hx, hb, hml, hr, hts, hown, hlocks, hKK, hN⟩ := C0
  exact W.zret (v := v) hx hb hr (bz_narrow hv) (fun t ht hW => ⟨⟨v, μ, rfl, h, by show va_P _ _ _ t.heap; rw [ht]; exact w.1⟩, w.2.2.1.F ht⟩) w.2.2.1.2.2 hdg
theorem x_vret {K' : Mem → Prop} (C0 : Cx g p s m args meth c own cc nL none) (w : Wd g ad μ (Aw ad s.heap.size) s H locs) (h : K' μ) (hdg : decode cc pc = .ok (.return_, 1)) : W p l e R s m args below meth c H locs cells slots (MQ below (PostV g ad s.heap.size K') args s cells slots (Aw ad s.heap.size)) (F0 m pc ls []) := by
  obtain ⟨hx, hb, hml, hr, hts, hown, hlocks, hKK, hN⟩ := C0
  exact W.vret hx hb hr (fun t ht hW => ⟨⟨μ, rfl, h, by show va_P _ _ _ t.heap; rw [ht]; exact w.1⟩, w.2.2.1.F ht⟩) w.2.2.1.2.2 hdg
theorem x_aret {K' : Option Nat → Mem → Prop} {r : Option Nat} {nm : String} (C0 : Cx g p s m args meth c own cc nL (some (.object nm))) (w : Wd g ad μ (Aw ad s.heap.size) s H locs) (hk : ∀ q, r = some q → kd q = 13) (h : K' r μ) (hdg : decode cc pc = .ok (.areturn, 1)) : W p l e R s m args below meth c H locs cells slots (MQ below (PostR g ad s.heap.size K') args s cells slots (Aw ad s.heap.size)) (F0 m pc ls [va_re ad r]) := by
  obtain ⟨hx, hb, hml, hr, hts, hown, hlocks, hKK, hN⟩ := C0
  exact W.aret hx hb hr (Or.inl ⟨_, rfl⟩) (va_re_or ad r) (fun t ht hW => ⟨⟨r, μ, rfl, ⟨hk, h⟩, by show va_P _ _ _ t.heap; rw [ht]; exact w.1⟩, w.2.2.1.F ht⟩) w.2.2.1.2.2 hdg
end XC
/-! kinds -/
theorem kd_S1 : ∀ b, b < 295 → kd b = 9 → kd (b + 1) = 10 ∧ kd (b + 2) = 11 ∧ kd (b + 3) = 12 := by decide +kernel
theorem kd_S2 : ∀ b, b < 295 → kd b = 11 → ∀ j, j < 24 → kd (b + 2 + j) = 13 := by decide +kernel
theorem kS1 {b : Nat} (h : kd b = 9) : kd (b + 1) = 10 := (kd_S1 b (kd_lt h (by decide)) h).1
theorem kS2 {b : Nat} (h : kd b = 9) : kd (b + 2) = 11 := (kd_S1 b (kd_lt h (by decide)) h).2.1
theorem kS3 {b : Nat} (h : kd b = 9) : kd (b + 3) = 12 := (kd_S1 b (kd_lt h (by decide)) h).2.2
theorem vp_lt {j : Int32} {n : Nat} (h : vp_in j n) : j.toNatClampNeg < n := Nat.not_le.mp fun q => h (Or.inr q)
theorem kSP {b : Nat} {j : Int32} (h : kd b = 11) (hj : vp_in j 24) : kd (b + 2 + j.toNatClampNeg) = 13 := kd_S2 b (kd_lt h (by decide)) h _ (vp_lt hj)
theorem kd_H : ∀ j, j < 6 → kd (59 + 28 * j) = 9 := by decide +kernel
theorem kd_L : ∀ j, j < 2 → kd (231 + 28 * j) = 9 := by decide +kernel
end

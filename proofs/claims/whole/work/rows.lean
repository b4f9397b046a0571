section
-- ===== PART A: goes FIRST, ahead of the names: the tables' words, and 'selects' of the private methods out of them =====
/-- a private method of a class that the tables say can be made, by its rows of tables_1 -/
def lw_okq (q : MethodName × Nat) : Prop := (q.1.cls ≠ "java/lang/invoke/MethodHandle" ∧ q.1.cls ≠ "java/lang/invoke/VarHandle") ∧ Cond.instantiable q.1.cls q.2 ∈ tables_1 ∧ Cond.privateMethod q.1 ∈ tables_1 ∧ Cond.instanceMethod q.1 ∈ tables_1
theorem lw_p0 : lw_okq (⟨"StairBows$History", "dropOldest", "()V"⟩, 2) := ⟨⟨by decide +kernel, by decide +kernel⟩, List.mem_of_getElem? (i := 99) (by decide +kernel), List.mem_of_getElem? (i := 173) (by decide +kernel), List.mem_of_getElem? (i := 174) (by decide +kernel)⟩
theorem lw_p1 : lw_okq (⟨"StairBows$Pad", "canStandAt", "(I)Z"⟩, 2) := ⟨⟨by decide +kernel, by decide +kernel⟩, List.mem_of_getElem? (i := 116) (by decide +kernel), List.mem_of_getElem? (i := 230) (by decide +kernel), List.mem_of_getElem? (i := 231) (by decide +kernel)⟩
theorem lw_p2 : lw_okq (⟨"StairBows", "isPerson", "(I)Z"⟩, 6) := ⟨⟨by decide +kernel, by decide +kernel⟩, List.mem_of_getElem? (i := 11) (by decide +kernel), List.mem_of_getElem? (i := 246) (by decide +kernel), List.mem_of_getElem? (i := 247) (by decide +kernel)⟩
theorem lw_p3 : lw_okq (⟨"StairBows$Staircase", "move", "(LStairBows$Person;)V"⟩, 6) := ⟨⟨by decide +kernel, by decide +kernel⟩, List.mem_of_getElem? (i := 19) (by decide +kernel), List.mem_of_getElem? (i := 266) (by decide +kernel), List.mem_of_getElem? (i := 267) (by decide +kernel)⟩
theorem lw_p4 : lw_okq (⟨"StairBows$Staircase", "bring", "(LStairBows$Person;III)V"⟩, 6) := ⟨⟨by decide +kernel, by decide +kernel⟩, List.mem_of_getElem? (i := 19) (by decide +kernel), List.mem_of_getElem? (i := 274) (by decide +kernel), List.mem_of_getElem? (i := 275) (by decide +kernel)⟩
theorem lw_p5 : lw_okq (⟨"StairBows$Staircase", "isCleared", "(ILStairBows$Person;)Z"⟩, 6) := ⟨⟨by decide +kernel, by decide +kernel⟩, List.mem_of_getElem? (i := 19) (by decide +kernel), List.mem_of_getElem? (i := 284) (by decide +kernel), List.mem_of_getElem? (i := 285) (by decide +kernel)⟩
theorem lw_p6 : lw_okq (⟨"StairBows$Staircase", "yielderOn", "(ILStairBows$Person;)LStairBows$Person;"⟩, 6) := ⟨⟨by decide +kernel, by decide +kernel⟩, List.mem_of_getElem? (i := 19) (by decide +kernel), List.mem_of_getElem? (i := 288) (by decide +kernel), List.mem_of_getElem? (i := 289) (by decide +kernel)⟩
theorem lw_p7 : lw_okq (⟨"StairBows", "tryOut", "(I)I"⟩, 6) := ⟨⟨by decide +kernel, by decide +kernel⟩, List.mem_of_getElem? (i := 11) (by decide +kernel), List.mem_of_getElem? (i := 353) (by decide +kernel), List.mem_of_getElem? (i := 354) (by decide +kernel)⟩
theorem lw_p8 : lw_okq (⟨"StairBowsModel", "isTooFull", "(I)Z"⟩, 9) := ⟨⟨by decide +kernel, by decide +kernel⟩, List.mem_of_getElem? (i := 410) (by decide +kernel), List.mem_of_getElem? (i := 457) (by decide +kernel), List.mem_of_getElem? (i := 458) (by decide +kernel)⟩
theorem lw_p9 : lw_okq (⟨"StairBowsModel", "isLanding", "(I)Z"⟩, 9) := ⟨⟨by decide +kernel, by decide +kernel⟩, List.mem_of_getElem? (i := 410) (by decide +kernel), List.mem_of_getElem? (i := 461) (by decide +kernel), List.mem_of_getElem? (i := 462) (by decide +kernel)⟩
theorem lw_p10 : lw_okq (⟨"StairBowsModel", "peopleAt", "(I)I"⟩, 9) := ⟨⟨by decide +kernel, by decide +kernel⟩, List.mem_of_getElem? (i := 410) (by decide +kernel), List.mem_of_getElem? (i := 465) (by decide +kernel), List.mem_of_getElem? (i := 466) (by decide +kernel)⟩
theorem lw_p11 : lw_okq (⟨"StairBowsModel", "isAt", "(II)Z"⟩, 9) := ⟨⟨by decide +kernel, by decide +kernel⟩, List.mem_of_getElem? (i := 410) (by decide +kernel), List.mem_of_getElem? (i := 469) (by decide +kernel), List.mem_of_getElem? (i := 470) (by decide +kernel)⟩
theorem lw_p12 : lw_okq (⟨"StairBowsModel", "get", "(II)I"⟩, 9) := ⟨⟨by decide +kernel, by decide +kernel⟩, List.mem_of_getElem? (i := 410) (by decide +kernel), List.mem_of_getElem? (i := 473) (by decide +kernel), List.mem_of_getElem? (i := 474) (by decide +kernel)⟩
theorem lw_p13 : lw_okq (⟨"StairBowsModel", "changes", "()V"⟩, 9) := ⟨⟨by decide +kernel, by decide +kernel⟩, List.mem_of_getElem? (i := 410) (by decide +kernel), List.mem_of_getElem? (i := 477) (by decide +kernel), List.mem_of_getElem? (i := 478) (by decide +kernel)⟩
theorem lw_p14 : lw_okq (⟨"StairBowsModel", "landings", "()I"⟩, 9) := ⟨⟨by decide +kernel, by decide +kernel⟩, List.mem_of_getElem? (i := 410) (by decide +kernel), List.mem_of_getElem? (i := 489) (by decide +kernel), List.mem_of_getElem? (i := 490) (by decide +kernel)⟩
theorem lw_p15 : lw_okq (⟨"StairBowsModel", "comes", "(II)V"⟩, 9) := ⟨⟨by decide +kernel, by decide +kernel⟩, List.mem_of_getElem? (i := 410) (by decide +kernel), List.mem_of_getElem? (i := 497) (by decide +kernel), List.mem_of_getElem? (i := 498) (by decide +kernel)⟩
def lw_privs_1 : List (MethodName × Nat) := [(⟨"StairBows$History", "dropOldest", "()V"⟩, 2), (⟨"StairBows$Pad", "canStandAt", "(I)Z"⟩, 2), (⟨"StairBows", "isPerson", "(I)Z"⟩, 6), (⟨"StairBows$Staircase", "move", "(LStairBows$Person;)V"⟩, 6), (⟨"StairBows$Staircase", "bring", "(LStairBows$Person;III)V"⟩, 6), (⟨"StairBows$Staircase", "isCleared", "(ILStairBows$Person;)Z"⟩, 6), (⟨"StairBows$Staircase", "yielderOn", "(ILStairBows$Person;)LStairBows$Person;"⟩, 6), (⟨"StairBows", "tryOut", "(I)I"⟩, 6), (⟨"StairBowsModel", "isTooFull", "(I)Z"⟩, 9), (⟨"StairBowsModel", "isLanding", "(I)Z"⟩, 9), (⟨"StairBowsModel", "peopleAt", "(I)I"⟩, 9), (⟨"StairBowsModel", "isAt", "(II)Z"⟩, 9), (⟨"StairBowsModel", "get", "(II)I"⟩, 9), (⟨"StairBowsModel", "changes", "()V"⟩, 9), (⟨"StairBowsModel", "landings", "()I"⟩, 9), (⟨"StairBowsModel", "comes", "(II)V"⟩, 9)]
theorem lw_r1 : ∀ q ∈ lw_privs_1, lw_okq q := List.forall_mem_cons.mpr ⟨lw_p0, List.forall_mem_cons.mpr ⟨lw_p1, List.forall_mem_cons.mpr ⟨lw_p2, List.forall_mem_cons.mpr ⟨lw_p3, List.forall_mem_cons.mpr ⟨lw_p4, List.forall_mem_cons.mpr ⟨lw_p5, List.forall_mem_cons.mpr ⟨lw_p6, List.forall_mem_cons.mpr ⟨lw_p7, List.forall_mem_cons.mpr ⟨lw_p8, List.forall_mem_cons.mpr ⟨lw_p9, List.forall_mem_cons.mpr ⟨lw_p10, List.forall_mem_cons.mpr ⟨lw_p11, List.forall_mem_cons.mpr ⟨lw_p12, List.forall_mem_cons.mpr ⟨lw_p13, List.forall_mem_cons.mpr ⟨lw_p14, List.forall_mem_cons.mpr ⟨lw_p15, fun _ h => absurd h List.not_mem_nil⟩⟩⟩⟩⟩⟩⟩⟩⟩⟩⟩⟩⟩⟩⟩⟩
theorem lw_p16 : lw_okq (⟨"StairBowsModel", "lays", "(III)V"⟩, 9) := ⟨⟨by decide +kernel, by decide +kernel⟩, List.mem_of_getElem? (i := 410) (by decide +kernel), List.mem_of_getElem? (i := 501) (by decide +kernel), List.mem_of_getElem? (i := 502) (by decide +kernel)⟩
theorem lw_p17 : lw_okq (⟨"StairBowsModel", "isAllowed", "(I)Z"⟩, 9) := ⟨⟨by decide +kernel, by decide +kernel⟩, List.mem_of_getElem? (i := 410) (by decide +kernel), List.mem_of_getElem? (i := 513) (by decide +kernel), List.mem_of_getElem? (i := 514) (by decide +kernel)⟩
theorem lw_p18 : lw_okq (⟨"StairBowsModel", "isPerson", "(I)Z"⟩, 9) := ⟨⟨by decide +kernel, by decide +kernel⟩, List.mem_of_getElem? (i := 410) (by decide +kernel), List.mem_of_getElem? (i := 523) (by decide +kernel), List.mem_of_getElem? (i := 524) (by decide +kernel)⟩
theorem lw_p19 : lw_okq (⟨"StairBowsModel", "thatAre", "(I)I"⟩, 9) := ⟨⟨by decide +kernel, by decide +kernel⟩, List.mem_of_getElem? (i := 410) (by decide +kernel), List.mem_of_getElem? (i := 532) (by decide +kernel), List.mem_of_getElem? (i := 533) (by decide +kernel)⟩
theorem lw_p20 : lw_okq (⟨"StairBowsModel", "ticks", "()V"⟩, 9) := ⟨⟨by decide +kernel, by decide +kernel⟩, List.mem_of_getElem? (i := 410) (by decide +kernel), List.mem_of_getElem? (i := 536) (by decide +kernel), List.mem_of_getElem? (i := 537) (by decide +kernel)⟩
theorem lw_p21 : lw_okq (⟨"StairBowsModel", "acts", "(I)V"⟩, 9) := ⟨⟨by decide +kernel, by decide +kernel⟩, List.mem_of_getElem? (i := 410) (by decide +kernel), List.mem_of_getElem? (i := 540) (by decide +kernel), List.mem_of_getElem? (i := 541) (by decide +kernel)⟩
theorem lw_p22 : lw_okq (⟨"StairBowsModel", "nextOf", "(I)I"⟩, 9) := ⟨⟨by decide +kernel, by decide +kernel⟩, List.mem_of_getElem? (i := 410) (by decide +kernel), List.mem_of_getElem? (i := 544) (by decide +kernel), List.mem_of_getElem? (i := 545) (by decide +kernel)⟩
theorem lw_p23 : lw_okq (⟨"StairBowsModel", "way", "(I)I"⟩, 9) := ⟨⟨by decide +kernel, by decide +kernel⟩, List.mem_of_getElem? (i := 410) (by decide +kernel), List.mem_of_getElem? (i := 548) (by decide +kernel), List.mem_of_getElem? (i := 549) (by decide +kernel)⟩
theorem lw_p24 : lw_okq (⟨"StairBowsModel", "ends", "(II)V"⟩, 9) := ⟨⟨by decide +kernel, by decide +kernel⟩, List.mem_of_getElem? (i := 410) (by decide +kernel), List.mem_of_getElem? (i := 552) (by decide +kernel), List.mem_of_getElem? (i := 553) (by decide +kernel)⟩
theorem lw_p25 : lw_okq (⟨"StairBowsModel", "roomAt", "(I)I"⟩, 9) := ⟨⟨by decide +kernel, by decide +kernel⟩, List.mem_of_getElem? (i := 410) (by decide +kernel), List.mem_of_getElem? (i := 556) (by decide +kernel), List.mem_of_getElem? (i := 557) (by decide +kernel)⟩
theorem lw_p26 : lw_okq (⟨"StairBowsModel", "yielder", "(II)I"⟩, 9) := ⟨⟨by decide +kernel, by decide +kernel⟩, List.mem_of_getElem? (i := 410) (by decide +kernel), List.mem_of_getElem? (i := 560) (by decide +kernel), List.mem_of_getElem? (i := 561) (by decide +kernel)⟩
theorem lw_p27 : lw_okq (⟨"StairBowsModel", "yields", "(II)Z"⟩, 9) := ⟨⟨by decide +kernel, by decide +kernel⟩, List.mem_of_getElem? (i := 410) (by decide +kernel), List.mem_of_getElem? (i := 564) (by decide +kernel), List.mem_of_getElem? (i := 565) (by decide +kernel)⟩
theorem lw_p28 : lw_okq (⟨"StairBowsModel", "makesWay", "(II)Z"⟩, 9) := ⟨⟨by decide +kernel, by decide +kernel⟩, List.mem_of_getElem? (i := 410) (by decide +kernel), List.mem_of_getElem? (i := 568) (by decide +kernel), List.mem_of_getElem? (i := 569) (by decide +kernel)⟩
theorem lw_p29 : lw_okq (⟨"StairBowsModel", "adds", "(III)V"⟩, 9) := ⟨⟨by decide +kernel, by decide +kernel⟩, List.mem_of_getElem? (i := 410) (by decide +kernel), List.mem_of_getElem? (i := 572) (by decide +kernel), List.mem_of_getElem? (i := 573) (by decide +kernel)⟩
theorem lw_p30 : lw_okq (⟨"StairBowsModel", "goesTo", "(III)V"⟩, 9) := ⟨⟨by decide +kernel, by decide +kernel⟩, List.mem_of_getElem? (i := 410) (by decide +kernel), List.mem_of_getElem? (i := 576) (by decide +kernel), List.mem_of_getElem? (i := 577) (by decide +kernel)⟩
theorem lw_p31 : lw_okq (⟨"StairBowsModel", "highestAt", "(I)I"⟩, 9) := ⟨⟨by decide +kernel, by decide +kernel⟩, List.mem_of_getElem? (i := 410) (by decide +kernel), List.mem_of_getElem? (i := 589) (by decide +kernel), List.mem_of_getElem? (i := 590) (by decide +kernel)⟩
def lw_privs_2 : List (MethodName × Nat) := [(⟨"StairBowsModel", "lays", "(III)V"⟩, 9), (⟨"StairBowsModel", "isAllowed", "(I)Z"⟩, 9), (⟨"StairBowsModel", "isPerson", "(I)Z"⟩, 9), (⟨"StairBowsModel", "thatAre", "(I)I"⟩, 9), (⟨"StairBowsModel", "ticks", "()V"⟩, 9), (⟨"StairBowsModel", "acts", "(I)V"⟩, 9), (⟨"StairBowsModel", "nextOf", "(I)I"⟩, 9), (⟨"StairBowsModel", "way", "(I)I"⟩, 9), (⟨"StairBowsModel", "ends", "(II)V"⟩, 9), (⟨"StairBowsModel", "roomAt", "(I)I"⟩, 9), (⟨"StairBowsModel", "yielder", "(II)I"⟩, 9), (⟨"StairBowsModel", "yields", "(II)Z"⟩, 9), (⟨"StairBowsModel", "makesWay", "(II)Z"⟩, 9), (⟨"StairBowsModel", "adds", "(III)V"⟩, 9), (⟨"StairBowsModel", "goesTo", "(III)V"⟩, 9), (⟨"StairBowsModel", "highestAt", "(I)I"⟩, 9)]
theorem lw_r2 : ∀ q ∈ lw_privs_2, lw_okq q := List.forall_mem_cons.mpr ⟨lw_p16, List.forall_mem_cons.mpr ⟨lw_p17, List.forall_mem_cons.mpr ⟨lw_p18, List.forall_mem_cons.mpr ⟨lw_p19, List.forall_mem_cons.mpr ⟨lw_p20, List.forall_mem_cons.mpr ⟨lw_p21, List.forall_mem_cons.mpr ⟨lw_p22, List.forall_mem_cons.mpr ⟨lw_p23, List.forall_mem_cons.mpr ⟨lw_p24, List.forall_mem_cons.mpr ⟨lw_p25, List.forall_mem_cons.mpr ⟨lw_p26, List.forall_mem_cons.mpr ⟨lw_p27, List.forall_mem_cons.mpr ⟨lw_p28, List.forall_mem_cons.mpr ⟨lw_p29, List.forall_mem_cons.mpr ⟨lw_p30, List.forall_mem_cons.mpr ⟨lw_p31, fun _ h => absurd h List.not_mem_nil⟩⟩⟩⟩⟩⟩⟩⟩⟩⟩⟩⟩⟩⟩⟩⟩
theorem lw_p32 : lw_okq (⟨"StairBowsModel", "keeps", "()V"⟩, 9) := ⟨⟨by decide +kernel, by decide +kernel⟩, List.mem_of_getElem? (i := 410) (by decide +kernel), List.mem_of_getElem? (i := 597) (by decide +kernel), List.mem_of_getElem? (i := 598) (by decide +kernel)⟩
theorem lw_p33 : lw_okq (⟨"StairBowsModel", "comesBack", "()V"⟩, 9) := ⟨⟨by decide +kernel, by decide +kernel⟩, List.mem_of_getElem? (i := 410) (by decide +kernel), List.mem_of_getElem? (i := 601) (by decide +kernel), List.mem_of_getElem? (i := 602) (by decide +kernel)⟩
theorem lw_p34 : lw_okq (⟨"StairBowsModel", "until", "(I)I"⟩, 9) := ⟨⟨by decide +kernel, by decide +kernel⟩, List.mem_of_getElem? (i := 410) (by decide +kernel), List.mem_of_getElem? (i := 614) (by decide +kernel), List.mem_of_getElem? (i := 615) (by decide +kernel)⟩
theorem lw_p35 : lw_okq (⟨"StairBowsModel", "isEmpty", "()Z"⟩, 9) := ⟨⟨by decide +kernel, by decide +kernel⟩, List.mem_of_getElem? (i := 410) (by decide +kernel), List.mem_of_getElem? (i := 618) (by decide +kernel), List.mem_of_getElem? (i := 619) (by decide +kernel)⟩
def lw_privs_3 : List (MethodName × Nat) := [(⟨"StairBowsModel", "keeps", "()V"⟩, 9), (⟨"StairBowsModel", "comesBack", "()V"⟩, 9), (⟨"StairBowsModel", "until", "(I)I"⟩, 9), (⟨"StairBowsModel", "isEmpty", "()Z"⟩, 9)]
theorem lw_r3 : ∀ q ∈ lw_privs_3, lw_okq q := List.forall_mem_cons.mpr ⟨lw_p32, List.forall_mem_cons.mpr ⟨lw_p33, List.forall_mem_cons.mpr ⟨lw_p34, List.forall_mem_cons.mpr ⟨lw_p35, fun _ h => absurd h List.not_mem_nil⟩⟩⟩⟩
def lw_privs : List (MethodName × Nat) := lw_privs_1 ++ (lw_privs_2 ++ (lw_privs_3))
def lw_tbl : List Cond := k2_sels lw_privs ++ tables_1
theorem lw_privs_ok : ∀ q ∈ lw_privs, lw_okq q := by
  show ∀ q ∈ lw_privs_1 ++ (lw_privs_2 ++ (lw_privs_3)), lw_okq q
  exact List.forall_mem_append.mpr ⟨lw_r1, List.forall_mem_append.mpr ⟨lw_r2, lw_r3⟩⟩
-- ===== end of PART A; then your names; then what follows =====
/-- the words of the tables that hold in whatever state a call comes to -/
def tb_G : List Cond := lw_tbl.filter goodWord
theorem tb_in {w : Cond} (i : Nat) (h : lw_tbl[i]? = some w) (hg : goodWord w = true) : w ∈ tb_G := List.mem_filter.mpr ⟨List.mem_of_getElem? h, hg⟩
theorem tb_sub {w : Cond} (h : w ∈ tb_G) : w ∈ lw_tbl := (List.mem_filter.mp h).1
theorem tb_good {w : Cond} (h : w ∈ tb_G) : goodWord w = true := (List.mem_filter.mp h).2
/-- a method's words: its code, and all of the tables -/
abbrev wX (y : MethodName) (b : ByteArray) (n : Nat) (r : Option FieldType) : List Cond := Cond.code y b n r :: tb_G
theorem tb_gi {ws : List Cond} (h : ∀ w ∈ ws, w ∈ tb_G) : GoodIn tb_G ws := fun w hw => ⟨h w hw, good_of_word (tb_good (h w hw))⟩
theorem tb_wX {y : MethodName} {b : ByteArray} {n : Nat} {r : Option FieldType} (h : Cond.code y b n r ∈ tb_G) : ∀ w ∈ wX y b n r, w ∈ tb_G := fun w hw => (List.mem_cons.mp hw).elim (fun e => e ▸ h) id
end
section
/-! THE WORLD: 295 cells at fixed places; the numbers in them are one function μ of place and slot -/
abbrev Mem : Type := Nat → Nat → Int32
def up2 (μ : Mem) (i k : Nat) (v : Int32) : Mem := fun a => if a = i then upd (μ i) k v else μ a
def upR (μ : Mem) (i : Nat) (f : Nat → Int32) : Mem := fun a => if a = i then f else μ a
theorem up2_row (μ : Mem) (i k : Nat) (v : Int32) : up2 μ i k v i = upd (μ i) k v := by simp [up2]
theorem up2_ne (μ : Mem) (i k : Nat) (v : Int32) {a : Nat} (h : a ≠ i) : up2 μ i k v a = μ a := by simp [up2, h]
theorem upR_row (μ : Mem) (i : Nat) (f : Nat → Int32) : upR μ i f i = f := by simp [upR]
theorem upR_ne (μ : Mem) (i : Nat) (f : Nat → Int32) {a : Nat} (h : a ≠ i) : upR μ i f a = μ a := by simp [upR, h]
/-- the kind of a staircase's cell, by its place in it -/
def ks (o : Nat) : Nat := if o = 0 then 9 else if o = 1 then 10 else if o = 2 then 11 else if o = 3 then 12 else 13
/-- the kind of a cell -/
def kd (i : Nat) : Nat :=
  if i = 0 then 0
  else if i < 57 then ks ((i - 1) % 28)
  else if i = 57 then 1
  else if i = 58 then 2
  else if i < 227 then ks ((i - 59) % 28)
  else if i = 227 then 3
  else if i = 228 then 4
  else if i = 229 then 5
  else if i = 230 then 6
  else if i < 287 then ks ((i - 231) % 28)
  else if i = 287 then 7
  else if i < 295 then i - 268
  else 99
/-- a field that holds a reference, for good: the place that it refers to -/
def fr (K i k : Nat) : Option Nat :=
  if K = 9 then (if k < 3 then some (i + 1 + k) else none)
  else if K = 0 then some ([1, 29, 57, 227, 228, 229].getD k 0)
  else if K = 1 then (if k = 0 then some 58 else none)
  else if K = 5 then (if k = 0 then some 230 else none)
  else if K = 7 then [some 288, some 289, some 290, none, some 291, some 292, some 293, some 294, none].getD k none
  else none
def fvl (ad : Nat → Nat) (K i k : Nat) (v : Int32) : Value := match fr K i k with
  | some t => .ref (ad t)
  | none => .int v
def nfK (K : Nat) : Nat := if K = 13 then 10 else if K = 9 then 6 else if K = 0 then 6 else if K = 7 then 9 else 2
def ciK (K : Nat) : Nat := if K = 13 then 2 else if K = 9 then 3 else if K = 0 then 4 else if K = 7 then 5 else if K = 5 then 1 else 0
def fsK (ad : Nat → Nat) (K i : Nat) (f : Nat → Int32) : List Value := (List.range (nfK K)).map (fun k => fvl ad K i k (f k))
abbrev Gv : Type := va_G × (Nat → ClassId)
def rfs (f : Nat → Option Nat) : vp_A → vp_A := fun a => (a.1, .inr (.inr (.inr (.inr f))))
def alK (K : Nat) : Nat := if K = 10 then 3 else if K = 12 then 12 else if K = 20 then 225 else if K = 21 then 225 else if K = 22 then 1350 else if K = 23 then 450 else if K = 24 then 2 else if K = 25 then 24 else if K = 26 then 60 else 0
def cellK (g : Gv) (ad : Nat → Nat) (K i : Nat) (f : Nat → Int32) : va_E :=
  if K = 11 then .inl (g.2 3, 24, .inr (.inr (.inr (.inr (fun k => some (ad (i + 2 + k)))))))
  else if K = 2 then .inl (g.2 4, 6, .inr (.inr (.inr (.inr (fun k => some (ad (59 + 28 * (f k).toNatClampNeg)))))))
  else if K = 3 then .inl (g.2 4, 2, .inr (.inr (.inr (.inr (fun k => some (ad (231 + 28 * k)))))))
  else if K = 4 then .inl (g.2 1, 2, .inl f)
  else if K = 6 then .inl (g.2 2, 60, .inl f)
  else if alK K = 0 then .inr (ciK K, fsK ad K i f)
  else .inl (g.2 0, alK K, .inl f)
def lay (g : Gv) (ad : Nat → Nat) (μ : Mem) (i : Nat) : va_E := cellK g ad (kd i) i (μ i)
def wl (g : Gv) (ad : Nat → Nat) (μ : Mem) : va_W := (List.range 295).map (fun i => (ad i, lay g ad μ i))
theorem kd_lt {i K : Nat} (h : kd i = K) (hK : K < 99) : i < 295 := by
  rcases Nat.lt_or_ge i 295 with q | q
  · exact q
  · exfalso
    have : kd i = 99 := by
      unfold kd
      repeat rw [if_neg (by omega)]
    omega
theorem wl_at (g : Gv) (ad : Nat → Nat) (μ : Mem) {i K : Nat} (h : kd i = K) (hK : K < 99) : (wl g ad μ)[i]? = some (ad i, cellK g ad K i (μ i)) := by
  have hi := kd_lt h hK
  subst h
  simp [wl, hi, lay]
theorem wl_len (g : Gv) (ad : Nat → Nat) (μ : Mem) : (wl g ad μ).length = 295 := by simp [wl]
theorem wl_set (g : Gv) (ad : Nat → Nat) (μ μ' : Mem) {i : Nat} {e : va_E} (he : lay g ad μ' i = e) (hne : ∀ j, j ≠ i → μ' j = μ j) : (wl g ad μ).set i (ad i, e) = wl g ad μ' := by
  apply List.ext_getElem?
  intro j
  by_cases hj : j = i
  · subst hj
    by_cases hl : j < 295
    · rw [List.getElem?_set_self (by rw [wl_len]; exact hl)]
      simp [wl, hl, he]
    · simp [wl, hl]
  · rw [List.getElem?_set_ne (Ne.symm hj)]
    by_cases hl : j < 295
    · simp [wl, hl, lay, hne j hj]
    · simp [wl, hl]
/-- the addresses of the world, and what comes behind sz -/
def Aw (ad : Nat → Nat) (sz : Nat) : Nat → Prop := fun q => (∃ i, i < 295 ∧ q = ad i) ∨ sz ≤ q
def RX0 : String := "StairBows$History"
def TX0 : u_T := fun k => match k with
  | 0 => ("StairBows$History", "states", "[LStairBows$Staircase;", true)
  | _ => ("StairBows$History", "size", "I", false)
def RX1 : String := "StairBows$Pad"
def TX1 : u_T := fun k => match k with
  | 0 => ("StairBows$Pad", "signs", "[C", true)
  | _ => ("StairBows$Pad", "length", "I", false)
def RX2 : String := "StairBows$Person"
def TX2 : u_T := fun k => match k with
  | 0 => ("StairBows$Person", "rank", "I", false)
  | 1 => ("StairBows$Person", "goesUp", "Z", false)
  | 2 => ("StairBows$Person", "place", "I", false)
  | 3 => ("StairBows$Person", "at", "I", false)
  | 4 => ("StairBows$Person", "waits", "I", false)
  | 5 => ("StairBows$Person", "yields", "I", false)
  | 6 => ("StairBows$Person", "bows", "I", false)
  | 7 => ("StairBows$Person", "endedAt", "I", false)
  | 8 => ("StairBows$Person", "stayed", "I", false)
  | _ => ("StairBows$Person", "deed", "I", false)
def RX3 : String := "StairBows$Staircase"
def TX3 : u_T := fun k => match k with
  | 0 => ("StairBows$Staircase", "settings", "[I", true)
  | 1 => ("StairBows$Staircase", "people", "[LStairBows$Person;", true)
  | 2 => ("StairBows$Staircase", "crowds", "[I", true)
  | 3 => ("StairBows$Staircase", "landings", "I", false)
  | 4 => ("StairBows$Staircase", "size", "I", false)
  | _ => ("StairBows$Staircase", "ticks", "I", false)
def RX4 : String := "StairBows"
def TX4 : u_T := fun k => match k with
  | 0 => ("StairBows", "now", "LStairBows$Staircase;", true)
  | 1 => ("StairBows", "trial", "LStairBows$Staircase;", true)
  | 2 => ("StairBows", "history", "LStairBows$History;", true)
  | 3 => ("StairBows", "slots", "[LStairBows$Staircase;", true)
  | 4 => ("StairBows", "isSaved", "[Z", true)
  | _ => ("StairBows", "pad", "LStairBows$Pad;", true)
def RX5 : String := "StairBowsModel"
def TX5 : u_T := fun k => match k with
  | 0 => ("StairBowsModel", "all", "[I", true)
  | 1 => ("StairBowsModel", "kept", "[I", true)
  | 2 => ("StairBowsModel", "history", "[I", true)
  | 3 => ("StairBowsModel", "historyLong", "I", false)
  | 4 => ("StairBowsModel", "slots", "[I", true)
  | 5 => ("StairBowsModel", "isSaved", "[I", true)
  | 6 => ("StairBowsModel", "did", "[I", true)
  | 7 => ("StairBowsModel", "text", "[I", true)
  | _ => ("StairBowsModel", "textLong", "I", false)
def tyX0 : Nat → FieldType := fun k => match k with
  | 0 => .array (.object "StairBows$Staircase")
  | _ => .int
theorem nmX0 : ∀ a, a < 2 → ∀ b, b < 2 → a ≠ b → (TX0 a).2.1 ≠ (TX0 b).2.1 := by decide +kernel
theorem tyX0_ok : ∀ k, k < 2 → parseFieldDescriptor (TX0 k).2.2.1 = some (tyX0 k) := by decide +kernel
theorem iX0 : ∀ w ∈ u_ws RX0 TX0 2, w ∈ tb_G := fun w hw => List.mem_filter.mpr ((by decide +kernel : ∀ w ∈ u_ws RX0 TX0 2, w ∈ lw_tbl ∧ goodWord w = true) w hw)
def tyX1 : Nat → FieldType := fun k => match k with
  | 0 => .array .char
  | _ => .int
theorem nmX1 : ∀ a, a < 2 → ∀ b, b < 2 → a ≠ b → (TX1 a).2.1 ≠ (TX1 b).2.1 := by decide +kernel
theorem tyX1_ok : ∀ k, k < 2 → parseFieldDescriptor (TX1 k).2.2.1 = some (tyX1 k) := by decide +kernel
theorem iX1 : ∀ w ∈ u_ws RX1 TX1 2, w ∈ tb_G := fun w hw => List.mem_filter.mpr ((by decide +kernel : ∀ w ∈ u_ws RX1 TX1 2, w ∈ lw_tbl ∧ goodWord w = true) w hw)
def tyX2 : Nat → FieldType := fun k => match k with
  | 0 => .int
  | 1 => .boolean
  | 2 => .int
  | 3 => .int
  | 4 => .int
  | 5 => .int
  | 6 => .int
  | 7 => .int
  | 8 => .int
  | _ => .int
theorem nmX2 : ∀ a, a < 10 → ∀ b, b < 10 → a ≠ b → (TX2 a).2.1 ≠ (TX2 b).2.1 := by decide +kernel
theorem tyX2_ok : ∀ k, k < 10 → parseFieldDescriptor (TX2 k).2.2.1 = some (tyX2 k) := by decide +kernel
theorem iX2 : ∀ w ∈ u_ws RX2 TX2 10, w ∈ tb_G := fun w hw => List.mem_filter.mpr ((by decide +kernel : ∀ w ∈ u_ws RX2 TX2 10, w ∈ lw_tbl ∧ goodWord w = true) w hw)
def tyX3 : Nat → FieldType := fun k => match k with
  | 0 => .array .int
  | 1 => .array (.object "StairBows$Person")
  | 2 => .array .int
  | 3 => .int
  | 4 => .int
  | _ => .int
theorem nmX3 : ∀ a, a < 6 → ∀ b, b < 6 → a ≠ b → (TX3 a).2.1 ≠ (TX3 b).2.1 := by decide +kernel
theorem tyX3_ok : ∀ k, k < 6 → parseFieldDescriptor (TX3 k).2.2.1 = some (tyX3 k) := by decide +kernel
theorem iX3 : ∀ w ∈ u_ws RX3 TX3 6, w ∈ tb_G := fun w hw => List.mem_filter.mpr ((by decide +kernel : ∀ w ∈ u_ws RX3 TX3 6, w ∈ lw_tbl ∧ goodWord w = true) w hw)
def tyX4 : Nat → FieldType := fun k => match k with
  | 0 => .object "StairBows$Staircase"
  | 1 => .object "StairBows$Staircase"
  | 2 => .object "StairBows$History"
  | 3 => .array (.object "StairBows$Staircase")
  | 4 => .array .boolean
  | _ => .object "StairBows$Pad"
theorem nmX4 : ∀ a, a < 6 → ∀ b, b < 6 → a ≠ b → (TX4 a).2.1 ≠ (TX4 b).2.1 := by decide +kernel
theorem tyX4_ok : ∀ k, k < 6 → parseFieldDescriptor (TX4 k).2.2.1 = some (tyX4 k) := by decide +kernel
theorem iX4 : ∀ w ∈ u_ws RX4 TX4 6, w ∈ tb_G := fun w hw => List.mem_filter.mpr ((by decide +kernel : ∀ w ∈ u_ws RX4 TX4 6, w ∈ lw_tbl ∧ goodWord w = true) w hw)
def tyX5 : Nat → FieldType := fun k => match k with
  | 0 => .array .int
  | 1 => .array .int
  | 2 => .array .int
  | 3 => .int
  | 4 => .array .int
  | 5 => .array .int
  | 6 => .array .int
  | 7 => .array .int
  | _ => .int
theorem nmX5 : ∀ a, a < 9 → ∀ b, b < 9 → a ≠ b → (TX5 a).2.1 ≠ (TX5 b).2.1 := by decide +kernel
theorem tyX5_ok : ∀ k, k < 9 → parseFieldDescriptor (TX5 k).2.2.1 = some (tyX5 k) := by decide +kernel
theorem iX5 : ∀ w ∈ u_ws RX5 TX5 9, w ∈ tb_G := fun w hw => List.mem_filter.mpr ((by decide +kernel : ∀ w ∈ u_ws RX5 TX5 9, w ∈ lw_tbl ∧ goodWord w = true) w hw)
abbrev vwCl : List vw_C := [(RX0, TX0, 2), (RX1, TX1, 2), (RX2, TX2, 10), (RX3, TX3, 6), (RX4, TX4, 6), (RX5, TX5, 9)]
end
section
/-! THE ROWS over that world -/
abbrev tysG (g : Gv) : List (ClassId × FieldType) := [(g.2 0, .int), (g.2 1, .boolean), (g.2 2, .char), (g.2 3, .object "StairBows$Person"), (g.2 4, .object "StairBows$Staircase")]
abbrev nwS : Cond := .methodLinkNest "StairBows$Staircase" 52 ⟨"StairBows", "isStep", "(I)Z"⟩ "StairBows"
def bz (v : Int32) : Prop := v = 0 ∨ v = 1
theorem bz_narrow {v : Int32} (h : bz v) : narrow .boolean (.int v) = .int v := by rcases h with rfl | rfl <;> rfl
theorem bz_fits {v : Int32} (h : bz v) : fits .boolean (.int v) = true := by rcases h with rfl | rfl <;> rfl
theorem bz_nar {v : Int32} (h : bz v) : vp_nar .boolean v = v := by rcases h with rfl | rfl <;> rfl
def firstV (k : Nat) : Int32 := if k = 0 then 2 else if k = 1 then 1 else 0
def leastV (k : Nat) : Int32 := if k = 0 then 1 else if k = 1 then 1 else 0
def greatV (k : Nat) : Int32 := if k = 0 then 4 else if k = 1 then 5 else 9
def Stt (A : Nat → Prop) (U : State) (H : Heap) : Prop := ∃ tF tL tG : Nat,
  (va_Z "StairBows" "FIRST_VALUE" "[I" (.ref tF) A U H ∧ va_T .int tF 3 (fun k => .int (firstV k)) A U H) ∧
  (va_Z "StairBows" "LEAST_VALUE" "[I" (.ref tL) A U H ∧ va_T .int tL 3 (fun k => .int (leastV k)) A U H) ∧
  (va_Z "StairBows" "GREATEST_VALUE" "[I" (.ref tG) A U H ∧ va_T .int tG 3 (fun k => .int (greatV k)) A U H)
theorem Stt.moved {A : Nat → Prop} {u U : State} {H : Heap} (hvm : u.vm.Alike U.vm) (h : Stt A u H) : Stt A U H := by
  obtain ⟨a, b, c, ⟨h1, h2⟩, ⟨h3, h4⟩, ⟨h5, h6⟩⟩ := h
  exact ⟨a, b, c, ⟨h1.moved hvm, h2.moved hvm⟩, ⟨h3.moved hvm, h4.moved hvm⟩, ⟨h5.moved hvm, h6.moved hvm⟩⟩
theorem Stt.kept {A : Nat → Prop} {U : State} {H H1 : Heap} (h : Stt A U H) (hq : ∀ a : Nat, a < H.size → ¬ A a → H1[a]? = H[a]?) : Stt A U H1 := by
  obtain ⟨a, b, c, ⟨h1, h2⟩, ⟨h3, h4⟩, ⟨h5, h6⟩⟩ := h
  exact ⟨a, b, c, ⟨h1.kept hq, h2.kept hq⟩, ⟨h3.kept hq, h4.kept hq⟩, ⟨h5.kept hq, h6.kept hq⟩⟩
theorem Stt.narrow {A B : Nat → Prop} {U : State} {H : Heap} (h : Stt A U H) (hAB : ∀ q, B q → A q) : Stt B U H := by
  obtain ⟨a, b, c, ⟨h1, h2⟩, ⟨h3, h4⟩, ⟨h5, h6⟩⟩ := h
  exact ⟨a, b, c, ⟨h1.narrow hAB, h2.narrow hAB⟩, ⟨h3.narrow hAB, h4.narrow hAB⟩, ⟨h5.narrow hAB, h6.narrow hAB⟩⟩
def Pre (g : Gv) (ad : Nat → Nat) (μ : Mem) (sz : Nat) (av : List Value) : Array Value → State → Prop :=
  va_Pc av (fun U => U.heap.size = sz ∧ va_P g.1 vwCl (wl g ad μ) U.heap ∧ va_K g.1 vwCl (tysG g) U ∧ va_D (fun _ => True) (wl g ad μ) ∧ va_Nw nwS U ∧ Stt (Aw ad sz) U U.heap)
def PostI (g : Gv) (ad : Nat → Nat) (sz : Nat) (K : Int32 → Mem → Prop) : Array Value → State → Outcome → State → Prop :=
  va_Qi K (fun μ' t => va_P g.1 vwCl (wl g ad μ') t.heap) (Aw ad sz)
def PostV (g : Gv) (ad : Nat → Nat) (sz : Nat) (K : Mem → Prop) : Array Value → State → Outcome → State → Prop :=
  va_Qv K (fun μ' t => va_P g.1 vwCl (wl g ad μ') t.heap) (Aw ad sz)
def PostR (g : Gv) (ad : Nat → Nat) (sz : Nat) (K : Option Nat → Mem → Prop) : Array Value → State → Outcome → State → Prop :=
  va_Qe ad (fun r μ' => (∀ q, r = some q → kd q = 13) ∧ K r μ') (fun μ' t => va_P g.1 vwCl (wl g ad μ') t.heap) (Aw ad sz)
/-- what stays through a method -/
def Cx (g : Gv) (p : Program) (s : State) (m : MethodId) (args : Array Value) (meth : Method) (c : Code) (own : String) (cc : ByteArray) (nL : Nat) (ret : Option FieldType) : Prop :=
  p.tables.exec = Jvm.exec ∧ c.code = cc ∧ c.maxLocals = nL ∧ meth.sig.returnType = ret ∧ (∀ w ∈ tb_G, w.before args s = true) ∧ s.vm.findClass own = some m.cls ∧ meth.locks = false ∧ va_K g.1 vwCl (tysG g) s ∧ va_Nw nwS s
/-- the world at a heap -/
def Wd (g : Gv) (ad : Nat → Nat) (μ : Mem) (A : Nat → Prop) (s : State) (H : Heap) (locs : List Loc) : Prop :=
  va_P g.1 vwCl (wl g ad μ) H ∧ va_D A (wl g ad μ) ∧ va_S A s.heap H locs ∧ (∀ q, s.heap.size ≤ q → A q) ∧ Stt A s s.heap
theorem wl_ad {g : Gv} {ad : Nat → Nat} {μ : Mem} {k : Nat} {q : Nat × va_E} (h : (wl g ad μ)[k]? = some q) : k < 295 ∧ q = (ad k, lay g ad μ k) := by
  have hl := (List.getElem?_eq_some_iff.mp h).1
  rw [wl_len] at hl
  refine ⟨hl, ?_⟩
  simp [wl, hl] at h
  exact h.symm
theorem wl_get {g : Gv} {ad : Nat → Nat} {μ : Mem} {k : Nat} (h : k < 295) : (wl g ad μ)[k]? = some (ad k, lay g ad μ k) := by simp [wl, h]
theorem wl_D {g : Gv} {ad : Nat → Nat} {μ : Mem} {A : Nat → Prop} (μ' : Mem) (h : va_D A (wl g ad μ)) : va_D A (wl g ad μ') := by
  refine ⟨fun i j x y hi hj hxy => ?_, fun k q hk => ?_⟩
  · obtain ⟨a1, b1⟩ := wl_ad hi
    obtain ⟨a2, b2⟩ := wl_ad hj
    subst b1; subst b2
    exact h.1 i j _ _ (wl_get a1) (wl_get a2) hxy
  · obtain ⟨a1, b1⟩ := wl_ad hk
    subst b1
    exact h.2 k (ad k, lay g ad μ k) (wl_get a1)
theorem wl_A {g : Gv} {ad : Nat → Nat} {μ : Mem} {A : Nat → Prop} {s : State} {H : Heap} {locs : List Loc} (w : Wd g ad μ A s H locs) : ∀ q, Aw ad H.size q → A q := by
  intro q h
  rcases h with ⟨i, hi, rfl⟩ | h
  · exact w.2.1.2 i _ (wl_get hi)
  · exact w.2.2.2.1 q (Nat.le_trans w.2.2.1.1 h)
theorem pre_blind (g : Gv) (ad : Nat → Nat) (μ : Mem) (sz : Nat) (av : List Value) : FrameBlind (Pre g ad μ sz av) := by
  intro a U f mk h
  obtain ⟨h1, h2, h3, h4, h5, h6, h7⟩ := h
  exact ⟨h1, h2, h3, va_K.moved (u := U) (U := U.calling f mk a) (Vm.Alike.refl U.vm) h4, h5, va_Nw.same (u := U) (U := U.calling f mk a) rfl rfl h6, Stt.moved (u := U) (U := U.calling f mk a) (Vm.Alike.refl U.vm) h7⟩
theorem x_pre {g : Gv} {p : Program} {s : State} {m : MethodId} {args : Array Value} {meth : Method} {c : Code} {own : String} {cc : ByteArray} {nL : Nat} {ret : Option FieldType} {ad : Nat → Nat} {μ : Mem} {A : Nat → Prop} {H : Heap} {locs : List Loc} (C : Cx g p s m args meth c own cc nL ret) (w : Wd g ad μ A s H locs) (av : List Value) : ∀ U : State, U.heap = H → s.WarmedH U.vm → Pre g ad μ H.size av av.toArray U := by
  intro U hU hW
  obtain ⟨hx, hb, hml, hr, hts, hown, hlocks, hK, hN⟩ := C
  exact ⟨rfl, by rw [hU], by rw [hU]; exact w.1, va_K.moved hW.alike hK, w.2.1.weaken (fun _ _ _ _ => trivial), hN.warmM hW, by rw [hU]; exact ((w.2.2.2.2.kept (fun a h1 h2 => w.2.2.1.2.1 a h1 h2)).narrow (wl_A w)).moved hW.alike⟩
theorem x_start {g : Gv} {ad : Nat → Nat} {μ : Mem} {sz : Nat} {av : List Value} {p : Program} {l : Launch} {y : MethodName} {cc : ByteArray} {nL : Nat} {ret : Option FieldType} {rm : Room} {e : Env} {s : State} {m : MethodId} {args : Array Value} {below : List Frame} {meth : Method} {c : Code} {s₁ : State}
    (B : BodyLoose p l y (headSpec (wX y cc nL ret) rm) cc nL ret e s m args below meth c s₁) (hml : c.maxLocals = nL) (hv : Pre g ad μ sz av args s) : args = av.toArray ∧ s.heap.size = sz ∧ Cx g p s m args meth c y.cls cc nL ret ∧ Wd g ad μ (Aw ad s.heap.size) s s.heap [] := by
  obtain ⟨h1, h2, h3, h4, h5, h6, h7⟩ := hv
  have hts := atoms_spec (ws := wX y cc nL ret) B.pre
  refine ⟨h1, h2, ⟨B.exec, B.bytes, hml, B.returns, fun w hw => hts w (List.mem_cons_of_mem _ hw), findClass_of_methodNamed B.named, B.notSynchronized, h4, h6⟩, h3, ⟨h5.1, fun k q hk => ?_⟩, va_S.rf, fun q hq => Or.inr hq, by rw [h2]; exact h7⟩
  obtain ⟨a1, b1⟩ := wl_ad hk
  subst b1
  exact Or.inl ⟨k, a1, rfl⟩
theorem fsK_at (ad : Nat → Nat) (K i : Nat) (f : Nat → Int32) {k : Nat} (hk : k < nfK K) : (fsK ad K i f)[k]? = some (fvl ad K i k (f k)) := by simp [fsK, hk]
theorem fsK_len (ad : Nat → Nat) (K i : Nat) (f : Nat → Int32) : (fsK ad K i f).length = nfK K := by simp [fsK]
theorem fsK_set (ad : Nat → Nat) (K i : Nat) (f : Nat → Int32) {k : Nat} (v : Int32) (hr : fr K i k = none) : (fsK ad K i f).set k (.int v) = fsK ad K i (upd f k v) := by
  apply List.ext_getElem?
  intro j
  by_cases hj : j = k
  · subst hj
    by_cases hl : j < nfK K
    · rw [List.getElem?_set_self (by rw [fsK_len]; exact hl), fsK_at _ _ _ _ hl]
      simp [fvl, hr, upd]
    · simp [fsK, hl]
  · rw [List.getElem?_set_ne (Ne.symm hj)]
    by_cases hl : j < nfK K
    · rw [fsK_at _ _ _ _ hl, fsK_at _ _ _ _ hl]
      simp [upd, hj]
    · simp [fsK, hl]
theorem Wd_up {g : Gv} {ad : Nat → Nat} {μ μ' : Mem} {A : Nat → Prop} {s : State} {H1 : Heap} {locs1 : List Loc} {i : Nat} {e : va_E} (hA : (∀ q, s.heap.size ≤ q → A q) ∧ Stt A s s.heap) (he : lay g ad μ' i = e) (hne : ∀ j, j ≠ i → μ' j = μ j) (hP : va_P g.1 vwCl ((wl g ad μ).set i (ad i, e)) H1) (hD : va_D A ((wl g ad μ).set i (ad i, e))) (hS : va_S A s.heap H1 locs1) : Wd g ad μ' A s H1 locs1 := by
  rw [wl_set g ad μ μ' he hne] at hP hD
  exact ⟨hP, hD, hS, hA⟩
section XR
variable {g : Gv} {ad : Nat → Nat} {μ : Mem} {A : Nat → Prop} {own : String} {cc : ByteArray} {nL : Nat} {ret : Option FieldType}
variable {p : Program} {l : Launch} {e : Env} {R : Room} {s : State} {m : MethodId} {args : Array Value} {below : List Frame} {meth : Method} {c : Code} {H : Heap} {locs : List Loc} {cells slots : Nat} {Q : State → Prop}
variable {pc : Nat} {ls : Array Slot} {rest : List Value}
theorem x_get (C0 : Cx g p s m args meth c own cc nL ret) (w : Wd g ad μ A s H locs) {i K ci k N : Nat} {C ref : String} {T : u_T} {index : Nat} {v : Value} (hk : kd i = K) (hK : K < 99) (hal : cellK g ad K i (μ i) = .inr (ci, fsK ad K i (μ i))) (hin : ∀ w ∈ u_ws C T N, w ∈ tb_G) (hc : vwCl[ci]? = some (C, T, N)) (hkN : k < N) (hkK : k < nfK K) (hv : fvl ad K i k (μ i k) = v) (hlink : Cond.fieldLink own index ref (T k).2.1 (T k).2.2.1 ∈ tb_G) (hsame : (T k).1 = ref) (hdg : decode cc pc = .ok (.getfield index, 3))
    (kk : W p l e R s m args below meth c H locs cells slots Q (F0 m (pc + 3) ls (v :: rest))) : W p l e R s m args below meth c H locs cells slots Q (F0 m pc ls (.ref (ad i) :: rest)) := by
  obtain ⟨hx, hb, hml, hr, hts, hown, hlocks, hKK, hN⟩ := C0
  subst hv
  subst hsame
  exact va_get hx hb hts hin hown hKK w.1 i ((wl_at g ad μ hk hK).trans (congrArg (fun e => some (ad i, e)) hal)) hc k hkN (hts _ hlink) (fun _ h => h) (fsK_at ad K i (μ i) hkK) hdg kk
theorem x_put (C0 : Cx g p s m args meth c own cc nL ret) (w : Wd g ad μ A s H locs) {i K ci k N : Nat} {C ref : String} {T : u_T} {index : Nat} {v : Int32} {ty : FieldType} (hk : kd i = K) (hK : K < 99) (hal : ∀ f, cellK g ad K i f = .inr (ci, fsK ad K i f)) (hin : ∀ w ∈ u_ws C T N, w ∈ tb_G) (ty0 : Nat → FieldType) (hty : ∀ k, k < N → parseFieldDescriptor (T k).2.2.1 = some (ty0 k)) (hnm : ∀ a, a < N → ∀ b, b < N → a ≠ b → (T a).2.1 ≠ (T b).2.1) (hc : vwCl[ci]? = some (C, T, N)) (hkN : k < N) (hkK : k < nfK K) (hr0 : fr K i k = none) (hlink : Cond.fieldLink own index ref (T k).2.1 (T k).2.2.1 ∈ tb_G) (hsame : (T k).1 = ref) (hfin : (T k).2.2.2 = false) (hd : ty0 k = ty) (hn : narrow ty (.int v) = .int v) (hfit : fits ty (.int v) = true) (hdg : decode cc pc = .ok (.putfield index, 3))
    (kk : ∀ μ', μ' = up2 μ i k v → ∀ (H1 : Heap) (locs1 : List Loc), Wd g ad μ' A s H1 locs1 → W p l e R s m args below meth c H1 locs1 cells slots Q (F0 m (pc + 3) ls rest)) : W p l e R s m args below meth c H locs cells slots Q (F0 m pc ls (.int v :: .ref (ad i) :: rest)) := by
  obtain ⟨hx, hb, hml, hr, hts, hown, hlocks, hKK, hN⟩ := C0
  subst hsame
  refine va_put hx hb hts hin ty0 hty hnm hown hKK w.1 w.2.1 w.2.2.1 i ((wl_at g ad μ hk hK).trans (congrArg (fun e => some (ad i, e)) (hal _))) hc k hkN (hts _ hlink) (fun _ h => h) hfin ((hty k hkN).trans (congrArg some hd)) hn hfit (by rw [fsK_len]; exact hkK) hdg (fun H1 locs1 hP hD hS => kk _ rfl H1 locs1 ?_)
  refine Wd_up w.2.2.2 ?_ (fun j hj => up2_ne μ i k v hj) hP hD hS
  show cellK g ad (kd i) i (up2 μ i k v i) = _
  rw [hk, up2_row, hal, fsK_set ad K i (μ i) v hr0]
theorem x_getP (C0 : Cx g p s m args meth c own cc nL ret) (w : Wd g ad μ A s H locs) {i k : Nat} {index : Nat} (hk : kd i = 13) (hkN : k < 10) (hlink : Cond.fieldLink own index (TX2 k).1 (TX2 k).2.1 (TX2 k).2.2.1 ∈ tb_G) (hdg : decode cc pc = .ok (.getfield index, 3))
    (kk : W p l e R s m args below meth c H locs cells slots Q (F0 m (pc + 3) ls (.int (μ i k) :: rest))) : W p l e R s m args below meth c H locs cells slots Q (F0 m pc ls (.ref (ad i) :: rest)) :=
  x_get C0 w (C := RX2) (T := TX2) (N := 10) (ci := 2) hk (by decide) rfl iX2 rfl hkN hkN rfl hlink rfl hdg kk
theorem x_putP (C0 : Cx g p s m args meth c own cc nL ret) (w : Wd g ad μ A s H locs) {i k : Nat} {index : Nat} {v : Int32} {ty : FieldType} (hk : kd i = 13) (hkN : k < 10) (hlink : Cond.fieldLink own index (TX2 k).1 (TX2 k).2.1 (TX2 k).2.2.1 ∈ tb_G) (hfin : (TX2 k).2.2.2 = false) (hd : tyX2 k = ty) (hn : narrow ty (.int v) = .int v) (hfit : fits ty (.int v) = true) (hdg : decode cc pc = .ok (.putfield index, 3))
    (kk : ∀ μ', μ' = up2 μ i k v → ∀ (H1 : Heap) (locs1 : List Loc), Wd g ad μ' A s H1 locs1 → W p l e R s m args below meth c H1 locs1 cells slots Q (F0 m (pc + 3) ls rest)) : W p l e R s m args below meth c H locs cells slots Q (F0 m pc ls (.int v :: .ref (ad i) :: rest)) :=
  x_put C0 w (C := RX2) (T := TX2) (N := 10) (ci := 2) hk (by decide) (fun _ => rfl) iX2 tyX2 tyX2_ok nmX2 rfl hkN hkN rfl hlink rfl hfin hd hn hfit hdg kk
theorem x_getS (C0 : Cx g p s m args meth c own cc nL ret) (w : Wd g ad μ A s H locs) {i k : Nat} {index : Nat} {v : Value} (hk : kd i = 9) (hkN : k < 6) (hv : fvl ad 9 i k (μ i k) = v) (hlink : Cond.fieldLink own index (TX3 k).1 (TX3 k).2.1 (TX3 k).2.2.1 ∈ tb_G) (hdg : decode cc pc = .ok (.getfield index, 3))
    (kk : W p l e R s m args below meth c H locs cells slots Q (F0 m (pc + 3) ls (v :: rest))) : W p l e R s m args below meth c H locs cells slots Q (F0 m pc ls (.ref (ad i) :: rest)) :=
  x_get C0 w (C := RX3) (T := TX3) (N := 6) (ci := 3) hk (by decide) rfl iX3 rfl hkN hkN hv hlink rfl hdg kk
theorem x_putS (C0 : Cx g p s m args meth c own cc nL ret) (w : Wd g ad μ A s H locs) {i k : Nat} {index : Nat} {v : Int32} (hk : kd i = 9) (hkN : k < 6) (hr0 : fr 9 i k = none) (hlink : Cond.fieldLink own index (TX3 k).1 (TX3 k).2.1 (TX3 k).2.2.1 ∈ tb_G) (hfin : (TX3 k).2.2.2 = false) (hd : tyX3 k = .int) (hdg : decode cc pc = .ok (.putfield index, 3))
    (kk : ∀ μ', μ' = up2 μ i k v → ∀ (H1 : Heap) (locs1 : List Loc), Wd g ad μ' A s H1 locs1 → W p l e R s m args below meth c H1 locs1 cells slots Q (F0 m (pc + 3) ls rest)) : W p l e R s m args below meth c H locs cells slots Q (F0 m pc ls (.int v :: .ref (ad i) :: rest)) :=
  x_put C0 w (C := RX3) (T := TX3) (N := 6) (ci := 3) hk (by decide) (fun _ => rfl) iX3 tyX3 tyX3_ok nmX3 rfl hkN hkN hr0 hlink rfl hfin hd rfl rfl hdg kk
theorem x_getX (C0 : Cx g p s m args meth c own cc nL ret) (w : Wd g ad μ A s H locs) {k : Nat} {index : Nat} {v : Value} (hkN : k < 6) (hv : fvl ad 0 0 k (μ 0 k) = v) (hlink : Cond.fieldLink own index (TX4 k).1 (TX4 k).2.1 (TX4 k).2.2.1 ∈ tb_G) (hdg : decode cc pc = .ok (.getfield index, 3))
    (kk : W p l e R s m args below meth c H locs cells slots Q (F0 m (pc + 3) ls (v :: rest))) : W p l e R s m args below meth c H locs cells slots Q (F0 m pc ls (.ref (ad 0) :: rest)) :=
  x_get C0 w (C := RX4) (T := TX4) (N := 6) (ci := 4) (K := 0) rfl (by decide) rfl iX4 rfl hkN hkN hv hlink rfl hdg kk
theorem x_getH (C0 : Cx g p s m args meth c own cc nL ret) (w : Wd g ad μ A s H locs) {k : Nat} {index : Nat} {v : Value} (hkN : k < 2) (hv : fvl ad 1 57 k (μ 57 k) = v) (hlink : Cond.fieldLink own index (TX0 k).1 (TX0 k).2.1 (TX0 k).2.2.1 ∈ tb_G) (hdg : decode cc pc = .ok (.getfield index, 3))
    (kk : W p l e R s m args below meth c H locs cells slots Q (F0 m (pc + 3) ls (v :: rest))) : W p l e R s m args below meth c H locs cells slots Q (F0 m pc ls (.ref (ad 57) :: rest)) :=
  x_get C0 w (C := RX0) (T := TX0) (N := 2) (ci := 0) (K := 1) rfl (by decide) rfl iX0 rfl hkN hkN hv hlink rfl hdg kk
theorem x_putH (C0 : Cx g p s m args meth c own cc nL ret) (w : Wd g ad μ A s H locs) {index : Nat} {v : Int32} (hlink : Cond.fieldLink own index (TX0 1).1 (TX0 1).2.1 (TX0 1).2.2.1 ∈ tb_G) (hdg : decode cc pc = .ok (.putfield index, 3))
    (kk : ∀ μ', μ' = up2 μ 57 1 v → ∀ (H1 : Heap) (locs1 : List Loc), Wd g ad μ' A s H1 locs1 → W p l e R s m args below meth c H1 locs1 cells slots Q (F0 m (pc + 3) ls rest)) : W p l e R s m args below meth c H locs cells slots Q (F0 m pc ls (.int v :: .ref (ad 57) :: rest)) :=
  x_put C0 w (C := RX0) (T := TX0) (N := 2) (ci := 0) (k := 1) (ty := .int) (K := 1) rfl (by decide) (fun _ => rfl) iX0 tyX0 tyX0_ok nmX0 rfl (by decide) (by decide) rfl hlink rfl rfl rfl rfl rfl hdg kk
theorem x_getD (C0 : Cx g p s m args meth c own cc nL ret) (w : Wd g ad μ A s H locs) {k : Nat} {index : Nat} {v : Value} (hkN : k < 2) (hv : fvl ad 5 229 k (μ 229 k) = v) (hlink : Cond.fieldLink own index (TX1 k).1 (TX1 k).2.1 (TX1 k).2.2.1 ∈ tb_G) (hdg : decode cc pc = .ok (.getfield index, 3))
    (kk : W p l e R s m args below meth c H locs cells slots Q (F0 m (pc + 3) ls (v :: rest))) : W p l e R s m args below meth c H locs cells slots Q (F0 m pc ls (.ref (ad 229) :: rest)) :=
  x_get C0 w (C := RX1) (T := TX1) (N := 2) (ci := 1) (K := 5) rfl (by decide) rfl iX1 rfl hkN hkN hv hlink rfl hdg kk
theorem x_putD (C0 : Cx g p s m args meth c own cc nL ret) (w : Wd g ad μ A s H locs) {index : Nat} {v : Int32} (hlink : Cond.fieldLink own index (TX1 1).1 (TX1 1).2.1 (TX1 1).2.2.1 ∈ tb_G) (hdg : decode cc pc = .ok (.putfield index, 3))
    (kk : ∀ μ', μ' = up2 μ 229 1 v → ∀ (H1 : Heap) (locs1 : List Loc), Wd g ad μ' A s H1 locs1 → W p l e R s m args below meth c H1 locs1 cells slots Q (F0 m (pc + 3) ls rest)) : W p l e R s m args below meth c H locs cells slots Q (F0 m pc ls (.int v :: .ref (ad 229) :: rest)) :=
  x_put C0 w (C := RX1) (T := TX1) (N := 2) (ci := 1) (k := 1) (ty := .int) (K := 5) rfl (by decide) (fun _ => rfl) iX1 tyX1 tyX1_ok nmX1 rfl (by decide) (by decide) rfl hlink rfl rfl rfl rfl rfl hdg kk
theorem x_getM (C0 : Cx g p s m args meth c own cc nL ret) (w : Wd g ad μ A s H locs) {k : Nat} {index : Nat} {v : Value} (hkN : k < 9) (hv : fvl ad 7 287 k (μ 287 k) = v) (hlink : Cond.fieldLink own index (TX5 k).1 (TX5 k).2.1 (TX5 k).2.2.1 ∈ tb_G) (hdg : decode cc pc = .ok (.getfield index, 3))
    (kk : W p l e R s m args below meth c H locs cells slots Q (F0 m (pc + 3) ls (v :: rest))) : W p l e R s m args below meth c H locs cells slots Q (F0 m pc ls (.ref (ad 287) :: rest)) :=
  x_get C0 w (C := RX5) (T := TX5) (N := 9) (ci := 5) (K := 7) rfl (by decide) rfl iX5 rfl hkN hkN hv hlink rfl hdg kk
theorem x_putM (C0 : Cx g p s m args meth c own cc nL ret) (w : Wd g ad μ A s H locs) {k : Nat} {index : Nat} {v : Int32} (hkN : k < 9) (hr0 : fr 7 287 k = none) (hlink : Cond.fieldLink own index (TX5 k).1 (TX5 k).2.1 (TX5 k).2.2.1 ∈ tb_G) (hfin : (TX5 k).2.2.2 = false) (hd : tyX5 k = .int) (hdg : decode cc pc = .ok (.putfield index, 3))
    (kk : ∀ μ', μ' = up2 μ 287 k v → ∀ (H1 : Heap) (locs1 : List Loc), Wd g ad μ' A s H1 locs1 → W p l e R s m args below meth c H1 locs1 cells slots Q (F0 m (pc + 3) ls rest)) : W p l e R s m args below meth c H locs cells slots Q (F0 m pc ls (.int v :: .ref (ad 287) :: rest)) :=
  x_put C0 w (C := RX5) (T := TX5) (N := 9) (ci := 5) (K := 7) rfl (by decide) (fun _ => rfl) iX5 tyX5 tyX5_ok nmX5 rfl hkN hkN hr0 hlink rfl hfin hd rfl rfl hdg kk
theorem x_at (w : Wd g ad μ A s H locs) {i K : Nat} {e : va_E} (hk : kd i = K) (hK : K < 99) (hal : cellK g ad K i (μ i) = e) : (wl g ad μ)[i]? = some (ad i, e) := (wl_at g ad μ hk hK).trans (congrArg (fun e => some (ad i, e)) hal)
theorem x_iald (C0 : Cx g p s m args meth c own cc nL ret) (w : Wd g ad μ A s H locs) {i K n jn : Nat} {j : Int32} (hj : j.toNatClampNeg = jn) (hk : kd i = K) (hK : K < 99) (hal : cellK g ad K i (μ i) = .inl (g.2 0, n, .inl (μ i))) (hin : vp_in j n) (hdg : decode cc pc = .ok (.iaload, 1))
    (kk : W p l e R s m args below meth c H locs cells slots Q (F0 m (pc + 1) ls (.int (μ i jn) :: rest))) : W p l e R s m args below meth c H locs cells slots Q (F0 m pc ls (.int j :: .ref (ad i) :: rest)) := by
  subst hj
  obtain ⟨hx, hb, hml, hr, hts, hown, hlocks, hKK, hN⟩ := C0
  exact va_iald hx hb hKK w.1 i 0 (x_at w hk hK hal) rfl hin hdg kk
theorem x_zald (C0 : Cx g p s m args meth c own cc nL ret) (w : Wd g ad μ A s H locs) {j : Int32} (hin : vp_in j 2) (hdg : decode cc pc = .ok (.baload, 1))
    (kk : W p l e R s m args below meth c H locs cells slots Q (F0 m (pc + 1) ls (.int (μ 228 j.toNatClampNeg) :: rest))) : W p l e R s m args below meth c H locs cells slots Q (F0 m pc ls (.int j :: .ref (ad 228) :: rest)) := by
  obtain ⟨hx, hb, hml, hr, hts, hown, hlocks, hKK, hN⟩ := C0
  exact va_zald hx hb hKK w.1 228 1 (x_at w (K := 4) rfl (by decide) rfl) rfl hin hdg kk
theorem x_cald (C0 : Cx g p s m args meth c own cc nL ret) (w : Wd g ad μ A s H locs) {j : Int32} (hin : vp_in j 60) (hdg : decode cc pc = .ok (.caload, 1))
    (kk : W p l e R s m args below meth c H locs cells slots Q (F0 m (pc + 1) ls (.int (μ 230 j.toNatClampNeg) :: rest))) : W p l e R s m args below meth c H locs cells slots Q (F0 m pc ls (.int j :: .ref (ad 230) :: rest)) := by
  obtain ⟨hx, hb, hml, hr, hts, hown, hlocks, hKK, hN⟩ := C0
  exact va_cald hx hb hKK w.1 230 2 (x_at w (K := 6) rfl (by decide) rfl) rfl hin hdg kk
theorem x_iast (C0 : Cx g p s m args meth c own cc nL ret) (w : Wd g ad μ A s H locs) {i K n jn : Nat} {j v : Int32} (hj : j.toNatClampNeg = jn) (hk : kd i = K) (hK : K < 99) (hal : ∀ f, cellK g ad K i f = .inl (g.2 0, n, .inl f)) (hin : vp_in j n) (hdg : decode cc pc = .ok (.iastore, 1))
    (kk : ∀ μ', μ' = up2 μ i jn v → ∀ (H1 : Heap) (locs1 : List Loc), Wd g ad μ' A s H1 locs1 → W p l e R s m args below meth c H1 locs1 cells slots Q (F0 m (pc + 1) ls rest)) : W p l e R s m args below meth c H locs cells slots Q (F0 m pc ls (.int v :: .int j :: .ref (ad i) :: rest)) := by
  subst hj
  obtain ⟨hx, hb, hml, hr, hts, hown, hlocks, hKK, hN⟩ := C0
  refine va_iast hx hb hKK w.1 w.2.1 w.2.2.1 i 0 (x_at w hk hK (hal _)) rfl hin hdg (fun H1 locs1 hP hD hS => kk _ rfl H1 locs1 ?_)
  refine Wd_up w.2.2.2 ?_ (fun a ha => up2_ne μ i _ v ha) hP hD hS
  show cellK g ad (kd i) i (up2 μ i _ v i) = _
  rw [hk, up2_row, hal]
theorem x_zast (C0 : Cx g p s m args meth c own cc nL ret) (w : Wd g ad μ A s H locs) {j v : Int32} (hv : bz v) (hin : vp_in j 2) (hdg : decode cc pc = .ok (.bastore, 1))
    (kk : ∀ μ', μ' = up2 μ 228 j.toNatClampNeg v → ∀ (H1 : Heap) (locs1 : List Loc), Wd g ad μ' A s H1 locs1 → W p l e R s m args below meth c H1 locs1 cells slots Q (F0 m (pc + 1) ls rest)) : W p l e R s m args below meth c H locs cells slots Q (F0 m pc ls (.int v :: .int j :: .ref (ad 228) :: rest)) := by
  obtain ⟨hx, hb, hml, hr, hts, hown, hlocks, hKK, hN⟩ := C0
  refine va_zast hx hb hKK w.1 w.2.1 w.2.2.1 228 1 (x_at w (K := 4) rfl (by decide) rfl) rfl hin hdg (fun H1 locs1 hP hD hS => kk _ rfl H1 locs1 ?_)
  rw [bz_nar hv] at hP hD
  exact Wd_up w.2.2.2 (by show cellK g ad 4 228 (up2 μ 228 _ v 228) = _; rw [up2_row]; rfl) (fun a ha => up2_ne μ 228 _ v ha) hP hD hS
theorem x_cast (C0 : Cx g p s m args meth c own cc nL ret) (w : Wd g ad μ A s H locs) {j v : Int32} (hin : vp_in j 60) (hdg : decode cc pc = .ok (.castore, 1))
    (kk : ∀ μ', μ' = up2 μ 230 j.toNatClampNeg (vp_nar .char v) → ∀ (H1 : Heap) (locs1 : List Loc), Wd g ad μ' A s H1 locs1 → W p l e R s m args below meth c H1 locs1 cells slots Q (F0 m (pc + 1) ls rest)) : W p l e R s m args below meth c H locs cells slots Q (F0 m pc ls (.int v :: .int j :: .ref (ad 230) :: rest)) := by
  obtain ⟨hx, hb, hml, hr, hts, hown, hlocks, hKK, hN⟩ := C0
  refine va_cast hx hb hKK w.1 w.2.1 w.2.2.1 230 2 (x_at w (K := 6) rfl (by decide) rfl) rfl hin hdg (fun H1 locs1 hP hD hS => kk _ rfl H1 locs1 ?_)
  exact Wd_up w.2.2.2 (by show cellK g ad 6 230 (up2 μ 230 _ _ 230) = _; rw [up2_row]; rfl) (fun a ha => up2_ne μ 230 _ _ ha) hP hD hS
/-- a person out of a staircase's row -/
theorem x_aldP (C0 : Cx g p s m args meth c own cc nL ret) (w : Wd g ad μ A s H locs) {i : Nat} {j : Int32} (hk : kd i = 11) (hin : vp_in j 24) (hdg : decode cc pc = .ok (.aaload, 1))
    (kk : W p l e R s m args below meth c H locs cells slots Q (F0 m (pc + 1) ls (.ref (ad (i + 2 + j.toNatClampNeg)) :: rest))) : W p l e R s m args below meth c H locs cells slots Q (F0 m pc ls (.int j :: .ref (ad i) :: rest)) := by
  obtain ⟨hx, hb, hml, hr, hts, hown, hlocks, hKK, hN⟩ := C0
  exact va_aldq hx hb hKK w.1 i 3 (x_at w hk (by decide) rfl) rfl hin hdg kk
theorem x_aldH (C0 : Cx g p s m args meth c own cc nL ret) (w : Wd g ad μ A s H locs) {jn : Nat} {j : Int32} (hj : j.toNatClampNeg = jn) (hin : vp_in j 6) (hdg : decode cc pc = .ok (.aaload, 1))
    (kk : W p l e R s m args below meth c H locs cells slots Q (F0 m (pc + 1) ls (.ref (ad (59 + 28 * (μ 58 jn).toNatClampNeg)) :: rest))) : W p l e R s m args below meth c H locs cells slots Q (F0 m pc ls (.int j :: .ref (ad 58) :: rest)) := by
  subst hj
  obtain ⟨hx, hb, hml, hr, hts, hown, hlocks, hKK, hN⟩ := C0
  exact va_aldq hx hb hKK w.1 58 4 (x_at w (K := 2) rfl (by decide) rfl) rfl hin hdg kk
theorem x_aldL (C0 : Cx g p s m args meth c own cc nL ret) (w : Wd g ad μ A s H locs) {j : Int32} (hin : vp_in j 2) (hdg : decode cc pc = .ok (.aaload, 1))
    (kk : W p l e R s m args below meth c H locs cells slots Q (F0 m (pc + 1) ls (.ref (ad (231 + 28 * j.toNatClampNeg)) :: rest))) : W p l e R s m args below meth c H locs cells slots Q (F0 m pc ls (.int j :: .ref (ad 227) :: rest)) := by
  obtain ⟨hx, hb, hml, hr, hts, hown, hlocks, hKK, hN⟩ := C0
  exact va_aldq hx hb hKK w.1 227 4 (x_at w (K := 3) rfl (by decide) rfl) rfl hin hdg kk
theorem x_astH (C0 : Cx g p s m args meth c own cc nL ret) (w : Wd g ad μ A s H locs) {jn : Nat} {j v : Int32} (hj : j.toNatClampNeg = jn) (hin : vp_in j 6) (hv : kd (59 + 28 * v.toNatClampNeg) = 9) (hdg : decode cc pc = .ok (.aastore, 1))
    (kk : ∀ μ', μ' = up2 μ 58 jn v → ∀ (H1 : Heap) (locs1 : List Loc), Wd g ad μ' A s H1 locs1 → W p l e R s m args below meth c H1 locs1 cells slots Q (F0 m (pc + 1) ls rest)) : W p l e R s m args below meth c H locs cells slots Q (F0 m pc ls (.ref (ad (59 + 28 * v.toNatClampNeg)) :: .int j :: .ref (ad 58) :: rest)) := by
  subst hj
  obtain ⟨hx, hb, hml, hr, hts, hown, hlocks, hKK, hN⟩ := C0
  refine va_astq hx hb hKK w.1 w.2.1 w.2.2.1 58 4 (59 + 28 * v.toNatClampNeg) 3 (r := (RX3, TX3, 6)) (x_at w (K := 2) rfl (by decide) rfl) rfl (x_at w (e := .inr (3, fsK ad 9 _ (μ _))) hv (by decide) rfl) rfl hin hdg (fun H1 locs1 hP hD hS => kk _ rfl H1 locs1 ?_)
  refine Wd_up w.2.2.2 ?_ (fun a ha => up2_ne μ 58 _ v ha) hP hD hS
  show cellK g ad 2 58 (up2 μ 58 _ v 58) = _
  rw [up2_row]
  show Sum.inl (g.2 4, 6, Sum.inr (Sum.inr (Sum.inr (Sum.inr fun k => some (ad (59 + 28 * (upd (μ 58) j.toNatClampNeg v k).toNatClampNeg)))))) = _
  congr 7
  funext k
  by_cases h : k = j.toNatClampNeg <;> simp [upd, va_up, h]
theorem x_alen (C0 : Cx g p s m args meth c own cc nL ret) (w : Wd g ad μ A s H locs) {i K n : Nat} {v : Int32} (hk : kd i = K) (hK : K < 99) (hal : cellK g ad K i (μ i) = .inl (g.2 0, n, .inl (μ i))) (hv : Int32.ofNat n = v) (hdg : decode cc pc = .ok (.arraylength, 1))
    (kk : W p l e R s m args below meth c H locs cells slots Q (F0 m (pc + 1) ls (.int v :: rest))) : W p l e R s m args below meth c H locs cells slots Q (F0 m pc ls (.ref (ad i) :: rest)) := by
  obtain ⟨hx, hb, hml, hr, hts, hown, hlocks, hKK, hN⟩ := C0
  exact va_alen hx hb hKK w.1 i 0 (x_at w hk hK hal) (ty := .int) rfl hv hdg kk
theorem x_copy (C0 : Cx g p s m args meth c own cc nL ret) (w : Wd g ad μ A s H locs) {i0 i1 K n : Nat} {index : Nat} {v : Int32} (hk0 : kd i0 = K) (hk1 : kd i1 = K) (hK : K < 99) (hal : ∀ i f, cellK g ad K i f = .inl (g.2 0, n, .inl f)) (hv0 : ¬ v < 0) (hv : v.toNatClampNeg = n) (hls : ls.size = nL) (hlink : Cond.methodLink own index arraycopyName ∈ tb_G) (hR : 1 ≤ R.frames) (hlocals : (rest.map fun v => v.category).sum + (nativeFrameWords "java/lang/System" "arraycopy" 5 + 11) ≤ R.locals) (hdg : decode cc pc = .ok (.invokestatic index, 3))
    (kk : ∀ μ', μ' = upR μ i1 (va_cpy (μ i0) (μ i1) 0 0 n) → ∀ (H1 : Heap) (locs1 : List Loc), Wd g ad μ' A s H1 locs1 → W p l e R s m args below meth c H1 locs1 cells slots Q (F0 m (pc + 3) ls rest)) : W p l e R s m args below meth c H locs cells slots Q (F0 m pc ls (.int v :: .int 0 :: .ref (ad i1) :: .int 0 :: .ref (ad i0) :: rest)) := by
  obtain ⟨hx, hb, hml, hr, hts, hown, hlocks, hKK, hN⟩ := C0
  refine va_copyi hx hb (hml.trans hls.symm) hown (hts _ hlink) (hts _ (tb_in 218 (by decide +kernel) rfl)) (hts _ (tb_in 217 (by decide +kernel) rfl)) (hts _ (tb_in 44 (by decide +kernel) rfl)) hKK w.1 w.2.1 w.2.2.1 i0 i1 0 0 (ty := .int) (x_at w hk0 hK (hal _ _)) (x_at w hk1 hK (hal _ _)) rfl rfl rfl (by decide) (by decide) hv0 (by rw [hv]; exact Nat.le_of_eq (Nat.zero_add n)) (by rw [hv]; exact Nat.le_of_eq (Nat.zero_add n)) (fun _ _ => rfl) hR hlocals hdg (fun H1 locs1 hP hD hS => kk _ rfl H1 locs1 ?_)
  rw [hv] at hP hD
  refine Wd_up w.2.2.2 ?_ (fun a ha => upR_ne μ i1 _ ha) hP hD hS
  show cellK g ad (kd i1) i1 (upR μ i1 _ i1) = _
  rw [hk1, upR_row, hal]
  rfl
end XR
end
section
/-! CALLS AND RETURNS over that world -/
def MeV (y : MethodName) (b : ByteArray) (nL : Nat) (rt : Option FieldType) (n : Nat) : Prop :=
  (Cond.instanceMethod y ∈ tb_G ∧ Cond.selects y.cls y y ∈ tb_G ∧ Cond.initialized y.cls ∈ tb_G ∧ Cond.code y b nL rt ∈ tb_G) ∧ y.cls = y.cls ∧ y.cls ≠ "java/lang/invoke/MethodHandle" ∧ y.cls ≠ "java/lang/invoke/VarHandle" ∧ (parseMethodDescriptor y.desc).map (fun d => d.parameters.length) = some n
def MeS (y : MethodName) (b : ByteArray) (nL : Nat) (rt : Option FieldType) (n : Nat) : Prop :=
  (Cond.static y ∈ tb_G ∧ Cond.initialized y.cls ∈ tb_G ∧ Cond.code y b nL rt ∈ tb_G) ∧ y.cls = y.cls ∧ y.cls ≠ "java/lang/invoke/MethodHandle" ∧ y.cls ≠ "java/lang/invoke/VarHandle" ∧ (parseMethodDescriptor y.desc).map (fun d => d.parameters.length) = some n
section XC
variable {g : Gv} {ad : Nat → Nat} {μ : Mem} {A : Nat → Prop} {own : String} {cc : ByteArray} {nL : Nat} {ret : Option FieldType}
variable {p : Program} {l : Launch} {e : Env} {R : Room} {s : State} {m : MethodId} {args : Array Value} {below : List Frame} {meth : Method} {c : Code} {H : Heap} {locs : List Loc} {cells slots : Nat} {Q : State → Prop}
variable {pc : Nat} {ls : Array Slot} {rest st : List Value} {y : MethodName} {b : ByteArray} {nY n idx : Nat} {rt : Option FieldType} {rm : Room} {As : List Value}
theorem x_back (C0 : Cx g p s m args meth c own cc nL ret) (w : Wd g ad μ A s H locs) {μ' : Mem} {t : State} {H1 : Heap} {locs1 : List Loc} (ht : t.heap = H1) (hB : va_P g.1 vwCl (wl g ad μ') t.heap) (hS : va_S A s.heap H1 locs1) : Wd g ad μ' A s H1 locs1 := ⟨by rw [← ht]; exact hB, wl_D μ' w.2.1, hS, w.2.2.2⟩
theorem x_recv (C0 : Cx g p s m args meth c own cc nL ret) (w : Wd g ad μ A s H locs) {i K ci : Nat} {q : vw_C} (hk : kd i = K) (hK : K < 99) (hal : cellK g ad K i (μ i) = .inr (ci, fsK ad K i (μ i))) (hc : vwCl[ci]? = some q) : ∃ cell : Cell, H[ad i]? = some cell ∧ cell.vm.isStatics = false ∧ s.vm.findClass q.1 = some cell.cls := by
  obtain ⟨hx, hb, hml, hr, hts, hown, hlocks, hKK, hN⟩ := C0
  exact va_recv hKK w.1 hc (x_at w hk hK hal)
/-- a virtual call of a method of ours -/
theorem x_runV {Qc : Array Value → State → Outcome → State → Prop} (C0 : Cx g p s m args meth c own cc nL ret) (w : Wd g ad μ A s H locs) {i K ci : Nat} {q : vw_C} (hk : kd i = K) (hK : K < 99) (hal : cellK g ad K i (μ i) = .inr (ci, fsK ad K i (μ i))) (hc : vwCl[ci]? = some q) (hq : q.1 = y.cls) (me : MeV y b nY rt n) (hl : Cond.methodLink own idx y ∈ tb_G)
    (hM : Met l y (wX y b nY rt) rm (Pre g ad μ H.size (.ref (ad i) :: As)) Qc 0 0 (Aw ad H.size)) (hrm : rm.cells = 0 ∧ rm.slots = 0) (hR : rm.frames + 1 ≤ R.frames ∧ 8 + (nY + 11) + rm.locals ≤ R.locals)
    (hn : As.length = n) (hls : ls.size = nL) (hst : st = As.reverse ++ .ref (ad i) :: rest) (hW : (rest.map fun v => v.category).sum ≤ 8) (hdg : decode cc pc = .ok (.invokevirtual idx, 3)) (hcs : cells ≤ R.cells ∧ slots ≤ R.slots) :
    va_Run p l e R s m args below meth c H locs cells slots 0 0 (F0 m pc ls st) rest (Qc (Value.ref (ad i) :: As).toArray) (Aw ad H.size) := by
  have C1 := C0
  obtain ⟨hx, hb, hml, hr, hts, hown, hlocks, hKK, hN⟩ := C0
  have hg : GoodIn tb_G (wsV own idx y.cls y (wX y b nY rt)) := by
    refine tb_gi (fun w hw => ?_)
    obtain ⟨h1, h2, h3, h4⟩ := me.1
    rcases List.mem_append.mp hw with h | h
    · simp only [List.mem_cons, List.not_mem_nil, or_false] at h
      rcases h with rfl | rfl | rfl | rfl
      · exact hl
      · exact h1
      · exact h2
      · exact h3
    · exact tb_wX h4 w h
  exact va_runV ⟨hx, hb, hml, hown, hts⟩ hM (cwV n hts hg rfl hrm.1 hrm.2 me.2 hR) ⟨pre_blind g ad μ H.size _, by rw [← hq]; exact x_recv C1 w hk hK hal hc, x_pre C1 w _⟩ rfl hn hls hst (lv_room hW) hdg ⟨hcs.1, hcs.2⟩
theorem x_runS {Qc : Array Value → State → Outcome → State → Prop} (C0 : Cx g p s m args meth c own cc nL ret) (w : Wd g ad μ A s H locs) (me : MeS y b nY rt n) (hl : Cond.methodLink own idx y ∈ tb_G)
    (hM : Met l y (wX y b nY rt) rm (Pre g ad μ H.size As) Qc 0 0 (Aw ad H.size)) (hrm : rm.cells = 0 ∧ rm.slots = 0) (hR : rm.frames + 1 ≤ R.frames ∧ 8 + (nY + 11) + rm.locals ≤ R.locals)
    (hn : As.length = n) (hls : ls.size = nL) (hst : st = As.reverse ++ rest) (hW : (rest.map fun v => v.category).sum ≤ 8) (hdg : decode cc pc = .ok (.invokestatic idx, 3)) (hcs : cells ≤ R.cells ∧ slots ≤ R.slots) :
    va_Run p l e R s m args below meth c H locs cells slots 0 0 (F0 m pc ls st) rest (Qc As.toArray) (Aw ad H.size) := by
  have C1 := C0
  obtain ⟨hx, hb, hml, hr, hts, hown, hlocks, hKK, hN⟩ := C0
  have hg : GoodIn tb_G (va_wsS own idx y (wX y b nY rt)) := by
    refine tb_gi (fun w hw => ?_)
    obtain ⟨h1, h3, h4⟩ := me.1
    rcases List.mem_append.mp hw with h | h
    · simp only [List.mem_cons, List.not_mem_nil, or_false] at h
      rcases h with rfl | rfl | rfl
      · exact hl
      · exact h1
      · exact h3
    · exact tb_wX h4 w h
  exact va_runS ⟨hx, hb, hml, hown, hts⟩ hM (va_cwS n hts hg rfl hrm.1 hrm.2 me.2.2 hR) ⟨pre_blind g ad μ H.size _, x_pre C1 w _⟩ rfl hn hls hst (lv_room hW) hdg ⟨hcs.1, hcs.2⟩
theorem x_runSN {host : String} {Qc : Array Value → State → Outcome → State → Prop} (C0 : Cx g p s m args meth c own cc nL ret) (w : Wd g ad μ A s H locs) (me : MeS y b nY rt n) (hl : va_Nw (.methodLinkNest own idx y host) s)
    (hM : Met l y (wX y b nY rt) rm (Pre g ad μ H.size As) Qc 0 0 (Aw ad H.size)) (hrm : rm.cells = 0 ∧ rm.slots = 0) (hR : rm.frames + 1 ≤ R.frames ∧ 8 + (nY + 11) + rm.locals ≤ R.locals)
    (hn : As.length = n) (hls : ls.size = nL) (hst : st = As.reverse ++ rest) (hW : (rest.map fun v => v.category).sum ≤ 8) (hdg : decode cc pc = .ok (.invokestatic idx, 3)) (hcs : cells ≤ R.cells ∧ slots ≤ R.slots) :
    va_Run p l e R s m args below meth c H locs cells slots 0 0 (F0 m pc ls st) rest (Qc As.toArray) (Aw ad H.size) := by
  have C1 := C0
  obtain ⟨hx, hb, hml, hr, hts, hown, hlocks, hKK, hN⟩ := C0
  exact va_runSN ⟨hx, hb, hml, hown, hts⟩ hM ⟨va_cnB n hts (tb_gi (tb_wX me.1.2.2)) rfl hrm.1 hrm.2 hl (hts _ me.1.2.1) me.2.2 hR, hts _ me.1.1, trivial⟩ ⟨pre_blind g ad μ H.size _, x_pre C1 w _⟩ rfl hn hls hst (lv_room hW) hdg ⟨hcs.1, hcs.2⟩
theorem x_calli {a : Array Value} {K' : Int32 → Mem → Prop} (C0 : Cx g p s m args meth c own cc nL ret) (w : Wd g ad μ A s H locs) (hr : va_Run p l e R s m args below meth c H locs cells slots 0 0 (F0 m pc ls st) rest (PostI g ad H.size K' a) (Aw ad H.size))
    (kk : ∀ (r : Int32) (μ' : Mem), K' r μ' → ∀ (H1 : Heap) (locs1 : List Loc), Wd g ad μ' A s H1 locs1 → W p l e R s m args below meth c H1 locs1 cells slots Q (F0 m (pc + 3) ls (.int r :: rest))) : W p l e R s m args below meth c H locs cells slots Q (F0 m pc ls st) :=
  va_calli hr w.2.2.1 (fun q _ h => wl_A w q h) (wl_A w) (fun r u t H1 locs1 ht hvm hw hB hz1 hk1 hS => kk r u hw H1 locs1 (x_back C0 w ht hB hS))
theorem x_callv {a : Array Value} {K' : Mem → Prop} (C0 : Cx g p s m args meth c own cc nL ret) (w : Wd g ad μ A s H locs) (hr : va_Run p l e R s m args below meth c H locs cells slots 0 0 (F0 m pc ls st) rest (PostV g ad H.size K' a) (Aw ad H.size))
    (kk : ∀ (μ' : Mem), K' μ' → ∀ (H1 : Heap) (locs1 : List Loc), Wd g ad μ' A s H1 locs1 → W p l e R s m args below meth c H1 locs1 cells slots Q (F0 m (pc + 3) ls rest)) : W p l e R s m args below meth c H locs cells slots Q (F0 m pc ls st) :=
  va_callv hr w.2.2.1 (fun q _ h => wl_A w q h) (wl_A w) (fun u t H1 locs1 ht hvm hw hB hz1 hk1 hS => kk u hw H1 locs1 (x_back C0 w ht hB hS))
theorem x_callr {a : Array Value} {K' : Option Nat → Mem → Prop} (C0 : Cx g p s m args meth c own cc nL ret) (w : Wd g ad μ A s H locs) (hr : va_Run p l e R s m args below meth c H locs cells slots 0 0 (F0 m pc ls st) rest (PostR g ad H.size K' a) (Aw ad H.size))
    (kk : ∀ (r : Option Nat) (μ' : Mem), (∀ q, r = some q → kd q = 13) → K' r μ' → ∀ (H1 : Heap) (locs1 : List Loc), Wd g ad μ' A s H1 locs1 → W p l e R s m args below meth c H1 locs1 cells slots Q (F0 m (pc + 3) ls (va_re ad r :: rest))) : W p l e R s m args below meth c H locs cells slots Q (F0 m pc ls st) :=
  va_calle hr w.2.2.1 (fun q _ h => wl_A w q h) (wl_A w) (fun r u t H1 locs1 ht hvm hw hB hz1 hk1 hS => kk r u hw.1 hw.2 H1 locs1 (x_back C0 w ht hB hS))
theorem x_iret {K' : Int32 → Mem → Prop} {v : Int32} (C0 : Cx g p s m args meth c own cc nL (some .int)) (w : Wd g ad μ (Aw ad s.heap.size) s H locs) (h : K' v μ) (hdg : decode cc pc = .ok (.ireturn, 1)) : W p l e R s m args below meth c H locs cells slots (MQ below (PostI g ad s.heap.size K') args s cells slots (Aw ad s.heap.size)) (F0 m pc ls [.int v]) := by
  obtain ⟨hx, hb, hml, hr, hts, hown, hlocks, hKK, hN⟩ := C0
  exact W.iret (v := v) hx hb hr (fun t ht hW => ⟨⟨v, μ, rfl, h, by show va_P _ _ _ t.heap; rw [ht]; exact w.1⟩, w.2.2.1.F ht⟩) w.2.2.1.2.2 hdg
theorem x_zret {K' : Int32 → Mem → Prop} {v : Int32} (C0 : Cx g p s m args meth c own cc nL (some .boolean)) (w : Wd g ad μ (Aw ad s.heap.size) s H locs) (hv : bz v) (h : K' v μ) (hdg : decode cc pc = .ok (.ireturn, 1)) : W p l e R s m args below meth c H locs cells slots (MQ below (PostI g ad s.heap.size K') args s cells slots (Aw ad s.heap.size)) (F0 m pc ls [.int v]) := by
  obtain ⟨hx, hb, hml, hr, hts, hown, hlocks, hKK, hN⟩ := C0
  exact W.zret (v := v) hx hb hr (bz_narrow hv) (fun t ht hW => ⟨⟨v, μ, rfl, h, by show va_P _ _ _ t.heap; rw [ht]; exact w.1⟩, w.2.2.1.F ht⟩) w.2.2.1.2.2 hdg
theorem x_vret {K' : Mem → Prop} (C0 : Cx g p s m args meth c own cc nL none) (w : Wd g ad μ (Aw ad s.heap.size) s H locs) (h : K' μ) (hdg : decode cc pc = .ok (.return_, 1)) : W p l e R s m args below meth c H locs cells slots (MQ below (PostV g ad s.heap.size K') args s cells slots (Aw ad s.heap.size)) (F0 m pc ls []) := by
  obtain ⟨hx, hb, hml, hr, hts, hown, hlocks, hKK, hN⟩ := C0
  exact W.vret hx hb hr (fun t ht hW => ⟨⟨μ, rfl, h, by show va_P _ _ _ t.heap; rw [ht]; exact w.1⟩, w.2.2.1.F ht⟩) w.2.2.1.2.2 hdg
theorem x_aret {K' : Option Nat → Mem → Prop} {r : Option Nat} {nm : String} (C0 : Cx g p s m args meth c own cc nL (some (.object nm))) (w : Wd g ad μ (Aw ad s.heap.size) s H locs) (hk : ∀ q, r = some q → kd q = 13) (h : K' r μ) (hdg : decode cc pc = .ok (.areturn, 1)) : W p l e R s m args below meth c H locs cells slots (MQ below (PostR g ad s.heap.size K') args s cells slots (Aw ad s.heap.size)) (F0 m pc ls [va_re ad r]) := by
  obtain ⟨hx, hb, hml, hr, hts, hown, hlocks, hKK, hN⟩ := C0
  exact W.aret hx hb hr (Or.inl ⟨_, rfl⟩) (va_re_or ad r) (fun t ht hW => ⟨⟨r, μ, rfl, ⟨hk, h⟩, by show va_P _ _ _ t.heap; rw [ht]; exact w.1⟩, w.2.2.1.F ht⟩) w.2.2.1.2.2 hdg
end XC
/-! kinds -/
theorem kd_S1 : ∀ b, b < 295 → kd b = 9 → kd (b + 1) = 10 ∧ kd (b + 2) = 11 ∧ kd (b + 3) = 12 := by decide +kernel
theorem kd_S2 : ∀ b, b < 295 → kd b = 11 → ∀ j, j < 24 → kd (b + 2 + j) = 13 := by decide +kernel
theorem kS1 {b : Nat} (h : kd b = 9) : kd (b + 1) = 10 := (kd_S1 b (kd_lt h (by decide)) h).1
theorem kS2 {b : Nat} (h : kd b = 9) : kd (b + 2) = 11 := (kd_S1 b (kd_lt h (by decide)) h).2.1
theorem kS3 {b : Nat} (h : kd b = 9) : kd (b + 3) = 12 := (kd_S1 b (kd_lt h (by decide)) h).2.2
theorem vp_lt {j : Int32} {n : Nat} (h : vp_in j n) : j.toNatClampNeg < n := Nat.not_le.mp fun q => h (Or.inr q)
theorem kSP {b : Nat} {j : Int32} (h : kd b = 11) (hj : vp_in j 24) : kd (b + 2 + j.toNatClampNeg) = 13 := kd_S2 b (kd_lt h (by decide)) h _ (vp_lt hj)
theorem kd_H : ∀ j, j < 6 → kd (59 + 28 * j) = 9 := by decide +kernel
theorem kd_L : ∀ j, j < 2 → kd (231 + 28 * j) = 9 := by decide +kernel
section XO
variable {ad : Nat → Nat} {cc : ByteArray} {p : Program} {l : Launch} {e : Env} {R : Room} {s : State} {m : MethodId} {args : Array Value} {below : List Frame} {meth : Method} {c : Code} {H : Heap} {locs : List Loc} {cells slots : Nat} {Q : State → Prop}
variable {pc : Nat} {ls : Array Slot} {rest : List Value} {r : Option Nat}
theorem x_ifnullR (hx : p.tables.exec = Jvm.exec) (hb : c.code = cc) {off : Int} {tgt : Nat} (hdg : decode cc pc = .ok (.ifnull off, 3)) (ht : (pc : Int) + off = (tgt : Int)) (kt : r = none → W p l e R s m args below meth c H locs cells slots Q (F0 m tgt ls rest)) (kf : ∀ q, r = some q → W p l e R s m args below meth c H locs cells slots Q (F0 m (pc + 3) ls rest)) : W p l e R s m args below meth c H locs cells slots Q (F0 m pc ls (va_re ad r :: rest)) := by
  cases r with
  | none => exact lv_ifnullN hx hb hdg ht (kt rfl)
  | some q => exact lv_ifnull hx hb hdg (kf q rfl)
theorem x_ifnonnullR (hx : p.tables.exec = Jvm.exec) (hb : c.code = cc) {off : Int} {tgt : Nat} (hdg : decode cc pc = .ok (.ifnonnull off, 3)) (ht : (pc : Int) + off = (tgt : Int)) (kt : ∀ q, r = some q → W p l e R s m args below meth c H locs cells slots Q (F0 m tgt ls rest)) (kf : r = none → W p l e R s m args below meth c H locs cells slots Q (F0 m (pc + 3) ls rest)) : W p l e R s m args below meth c H locs cells slots Q (F0 m pc ls (va_re ad r :: rest)) := by
  cases r with
  | none => exact lv_ifnonnullN hx hb hdg (kf rfl)
  | some q => exact lv_ifnonnull hx hb hdg ht (kt q rfl)
theorem x_aload_nR (hx : p.tables.exec = Jvm.exec) (hb : c.code = cc) {k : Fin 4} {i : Nat} (hdg : decode cc pc = .ok (.aload_n k, 1)) (hi : (k : Nat) = i) (hl : ls[i]? = some (.val (va_re ad r))) (kk : W p l e R s m args below meth c H locs cells slots Q (F0 m (pc + 1) ls (va_re ad r :: rest))) : W p l e R s m args below meth c H locs cells slots Q (F0 m pc ls rest) := by
  cases r with
  | none => exact lv_aload_nN hx hb hdg hi hl kk
  | some q => exact lv_aload_n hx hb hdg hi hl kk
theorem x_aloadR (hx : p.tables.exec = Jvm.exec) (hb : c.code = cc) {i : Nat} (hdg : decode cc pc = .ok (.aload i, 2)) (hl : ls[i]? = some (.val (va_re ad r))) (kk : W p l e R s m args below meth c H locs cells slots Q (F0 m (pc + 2) ls (va_re ad r :: rest))) : W p l e R s m args below meth c H locs cells slots Q (F0 m pc ls rest) := by
  cases r with
  | none => exact lv_aloadN hx hb hdg hl kk
  | some q => exact lv_aload hx hb hdg hl kk
theorem x_astore_nR (hx : p.tables.exec = Jvm.exec) (hb : c.code = cc) {k : Fin 4} {i nL : Nat} {lv lv' : List (Nat × Value)} (hdg : decode cc pc = .ok (.astore_n k, 1)) (hi : (k : Nat) = i) (h : lv_has ls nL lv) (hn : i < nL) (hl : (i, va_re ad r) :: lv.filter (fun q => !(q.1 == i) && !(q.1 + 1 == i && q.2.category == 2)) = lv') (kk : ∀ ls' : Array Slot, lv_has ls' nL lv' → W p l e R s m args below meth c H locs cells slots Q (F0 m (pc + 1) ls' rest)) : W p l e R s m args below meth c H locs cells slots Q (F0 m pc ls (va_re ad r :: rest)) := by
  cases r with
  | none => exact lv_astore_nN hx hb hdg hi h hn hl kk
  | some q => exact lv_astore_n hx hb hdg hi h hn hl kk
theorem x_astoreR (hx : p.tables.exec = Jvm.exec) (hb : c.code = cc) {i nL : Nat} {lv lv' : List (Nat × Value)} (hdg : decode cc pc = .ok (.astore i, 2)) (h : lv_has ls nL lv) (hn : i < nL) (hl : (i, va_re ad r) :: lv.filter (fun q => !(q.1 == i) && !(q.1 + 1 == i && q.2.category == 2)) = lv') (kk : ∀ ls' : Array Slot, lv_has ls' nL lv' → W p l e R s m args below meth c H locs cells slots Q (F0 m (pc + 2) ls' rest)) : W p l e R s m args below meth c H locs cells slots Q (F0 m pc ls (va_re ad r :: rest)) := by
  cases r with
  | none => exact lv_astoreN hx hb hdg h hn hl kk
  | some q => exact lv_astore hx hb hdg h hn hl kk
end XO
def lsr (x : Int64) (y : Int32) : Int64 := (x.toUInt64 >>> (y.toInt64.toUInt64 &&& Int64.toUInt64 63)).toInt64
def isr (x : Int32) (y : Int32) : Int32 := (x.toUInt32 >>> (y.toUInt32 &&& Int32.toUInt32 31)).toInt32
theorem vp_lit {j : Int32} {n : Nat} (h1 : ¬ j < 0) (h2 : j.toNatClampNeg < n) : vp_in j n := fun h => h.elim h1 (fun q => absurd h2 (Nat.not_lt.mpr q))
theorem mx_static : Cond.static Lib.Math.max.name ∈ tb_G := tb_in 202 (by decide +kernel) rfl
theorem mx_init : Cond.initialized "java/lang/Math" ∈ tb_G := tb_in 43 (by decide +kernel) rfl
theorem mx_code : Cond.code Lib.Math.max.name Lib.Math.max.code 2 (some .int) ∈ tb_G := tb_in 203 (by decide +kernel) rfl
end
section
/-! NAMES: methods and words, by program (wip/whole/drive.py) -/
abbrev cX0_dropOldest : ByteArray := prog_2_method_3_code
abbrev yX0_dropOldest : MethodName := ⟨"StairBows$History", "dropOldest", "()V"⟩
abbrev cX2_takeFrom : ByteArray := prog_4_method_3_code
abbrev yX2_takeFrom : MethodName := ⟨"StairBows$Person", "takeFrom", "(LStairBows$Person;)V"⟩
abbrev cX3_takeFrom : ByteArray := prog_5_method_2_code
abbrev yX3_takeFrom : MethodName := ⟨"StairBows$Staircase", "takeFrom", "(LStairBows$Staircase;)V"⟩
abbrev cX0_keep : ByteArray := prog_2_method_2_code
abbrev yX0_keep : MethodName := ⟨"StairBows$History", "keep", "(LStairBows$Staircase;)V"⟩
abbrev cX0_bringBackInto : ByteArray := prog_2_method_4_code
abbrev yX0_bringBackInto : MethodName := ⟨"StairBows$History", "bringBackInto", "(LStairBows$Staircase;)V"⟩
abbrev cX1_charactersIn : ByteArray := prog_3_method_3_code
abbrev yX1_charactersIn : MethodName := ⟨"StairBows$Pad", "charactersIn", "(J)I"⟩
abbrev cX1_append : ByteArray := prog_3_method_2_code
abbrev yX1_append : MethodName := ⟨"StairBows$Pad", "append", "(J)I"⟩
abbrev cX1_canStandAt : ByteArray := prog_3_method_5_code
abbrev yX1_canStandAt : MethodName := ⟨"StairBows$Pad", "canStandAt", "(I)Z"⟩
abbrev cX1_firstFault : ByteArray := prog_3_method_4_code
abbrev yX1_firstFault : MethodName := ⟨"StairBows$Pad", "firstFault", "()I"⟩
abbrev cX1_isUp : ByteArray := prog_3_method_6_code
abbrev yX1_isUp : MethodName := ⟨"StairBows$Pad", "isUp", "(I)Z"⟩
abbrev cX1_rankOf : ByteArray := prog_3_method_7_code
abbrev yX1_rankOf : MethodName := ⟨"StairBows$Pad", "rankOf", "(I)I"⟩
abbrev cX2_enterHall : ByteArray := prog_4_method_2_code
abbrev yX2_enterHall : MethodName := ⟨"StairBows$Person", "enterHall", "(IZ)V"⟩
abbrev cX2_isOnWay : ByteArray := prog_4_method_4_code
abbrev yX2_isOnWay : MethodName := ⟨"StairBows$Person", "isOnWay", "()Z"⟩
abbrev cX2_standsOn : ByteArray := prog_4_method_5_code
abbrev yX2_standsOn : MethodName := ⟨"StairBows$Person", "standsOn", "(I)Z"⟩
abbrev cX2_nextStep : ByteArray := prog_4_method_6_code
abbrev yX2_nextStep : MethodName := ⟨"StairBows$Person", "nextStep", "()I"⟩
abbrev cX2_stepBehind : ByteArray := prog_4_method_7_code
abbrev yX2_stepBehind : MethodName := ⟨"StairBows$Person", "stepBehind", "()I"⟩
abbrev cX2_yieldsTo : ByteArray := prog_4_method_8_code
abbrev yX2_yieldsTo : MethodName := ⟨"StairBows$Person", "yieldsTo", "(LStairBows$Person;)Z"⟩
abbrev cX2_stay : ByteArray := prog_4_method_9_code
abbrev yX2_stay : MethodName := ⟨"StairBows$Person", "stay", "()V"⟩
abbrev cX2_bow : ByteArray := prog_4_method_10_code
abbrev yX2_bow : MethodName := ⟨"StairBows$Person", "bow", "(I)V"⟩
abbrev cX2_tell : ByteArray := prog_4_method_11_code
abbrev yX2_tell : MethodName := ⟨"StairBows$Person", "tell", "(I)I"⟩
abbrev cX3_admit : ByteArray := prog_5_method_3_code
abbrev yX3_admit : MethodName := ⟨"StairBows$Staircase", "admit", "(IZ)V"⟩
abbrev cX3_isLanding : ByteArray := prog_5_method_4_code
abbrev yX3_isLanding : MethodName := ⟨"StairBows$Staircase", "isLanding", "(I)Z"⟩
abbrev cX4_isStep : ByteArray := prog_1_method_23_code
abbrev yX4_isStep : MethodName := ⟨"StairBows", "isStep", "(I)Z"⟩
abbrev cX3_crowdOn : ByteArray := prog_5_method_5_code
abbrev yX3_crowdOn : MethodName := ⟨"StairBows$Staircase", "crowdOn", "(I)I"⟩
abbrev cX3_roomOn : ByteArray := prog_5_method_6_code
abbrev yX3_roomOn : MethodName := ⟨"StairBows$Staircase", "roomOn", "(I)I"⟩
abbrev cX3_greatestCrowd : ByteArray := prog_5_method_7_code
abbrev yX3_greatestCrowd : MethodName := ⟨"StairBows$Staircase", "greatestCrowd", "()I"⟩
abbrev cX3_highestOn : ByteArray := prog_5_method_8_code
abbrev yX3_highestOn : MethodName := ⟨"StairBows$Staircase", "highestOn", "(I)I"⟩
abbrev cX3_peopleWho : ByteArray := prog_5_method_9_code
abbrev yX3_peopleWho : MethodName := ⟨"StairBows$Staircase", "peopleWho", "(I)I"⟩
abbrev cX3_sumOf : ByteArray := prog_5_method_10_code
abbrev yX3_sumOf : MethodName := ⟨"StairBows$Staircase", "sumOf", "(I)I"⟩
abbrev cX3_isAnybodyOnWay : ByteArray := prog_5_method_11_code
abbrev yX3_isAnybodyOnWay : MethodName := ⟨"StairBows$Staircase", "isAnybodyOnWay", "()Z"⟩
abbrev cX3_bring : ByteArray := prog_5_method_16_code
abbrev yX3_bring : MethodName := ⟨"StairBows$Staircase", "bring", "(LStairBows$Person;III)V"⟩
abbrev cX3_yielderOn : ByteArray := prog_5_method_15_code
abbrev yX3_yielderOn : MethodName := ⟨"StairBows$Staircase", "yielderOn", "(ILStairBows$Person;)LStairBows$Person;"⟩
abbrev cX3_isCleared : ByteArray := prog_5_method_14_code
abbrev yX3_isCleared : MethodName := ⟨"StairBows$Staircase", "isCleared", "(ILStairBows$Person;)Z"⟩
abbrev cX3_move : ByteArray := prog_5_method_13_code
abbrev yX3_move : MethodName := ⟨"StairBows$Staircase", "move", "(LStairBows$Person;)V"⟩
abbrev cX3_tick : ByteArray := prog_5_method_12_code
abbrev yX3_tick : MethodName := ⟨"StairBows$Staircase", "tick", "()V"⟩
abbrev cX4_isSetting : ByteArray := prog_1_method_22_code
abbrev yX4_isSetting : MethodName := ⟨"StairBows", "isSetting", "(I)Z"⟩
abbrev cX4_set : ByteArray := prog_1_method_2_code
abbrev yX4_set : MethodName := ⟨"StairBows", "set", "(II)I"⟩
abbrev cJ6_bitCount_0f7a4 : ByteArray := prog_8_method_49_code
abbrev yJ6_bitCount_0f7a4 : MethodName := ⟨"java/lang/Integer", "bitCount", "(I)I"⟩
abbrev cX4_landing : ByteArray := prog_1_method_3_code
abbrev yX4_landing : MethodName := ⟨"StairBows", "landing", "(IZ)I"⟩
abbrev cX4_come : ByteArray := prog_1_method_4_code
abbrev yX4_come : MethodName := ⟨"StairBows", "come", "(IZ)I"⟩
abbrev cX4_read : ByteArray := prog_1_method_5_code
abbrev yX4_read : MethodName := ⟨"StairBows", "read", "()I"⟩
abbrev cX4_isPerson : ByteArray := prog_1_method_25_code
abbrev yX4_isPerson : MethodName := ⟨"StairBows", "isPerson", "(I)Z"⟩
abbrev cX4_turn : ByteArray := prog_1_method_6_code
abbrev yX4_turn : MethodName := ⟨"StairBows", "turn", "(I)I"⟩
abbrev cX4_pass : ByteArray := prog_1_method_7_code
abbrev yX4_pass : MethodName := ⟨"StairBows", "pass", "(I)I"⟩
abbrev cX4_person : ByteArray := prog_1_method_8_code
abbrev yX4_person : MethodName := ⟨"StairBows", "person", "(II)I"⟩
abbrev cX4_step : ByteArray := prog_1_method_9_code
abbrev yX4_step : MethodName := ⟨"StairBows", "step", "(II)I"⟩
abbrev cX4_does : ByteArray := prog_1_method_10_code
abbrev yX4_does : MethodName := ⟨"StairBows", "does", "(I)I"⟩
abbrev cX4_count : ByteArray := prog_1_method_11_code
abbrev yX4_count : MethodName := ⟨"StairBows", "count", "(I)I"⟩
abbrev cX4_untilArrived : ByteArray := prog_1_method_12_code
abbrev yX4_untilArrived : MethodName := ⟨"StairBows", "untilArrived", "(I)I"⟩
abbrev cX4_tryOut : ByteArray := prog_1_method_26_code
abbrev yX4_tryOut : MethodName := ⟨"StairBows", "tryOut", "(I)I"⟩
abbrev cX4_untilEmpty : ByteArray := prog_1_method_13_code
abbrev yX4_untilEmpty : MethodName := ⟨"StairBows", "untilEmpty", "()I"⟩
abbrev cX4_ifPassed : ByteArray := prog_1_method_14_code
abbrev yX4_ifPassed : MethodName := ⟨"StairBows", "ifPassed", "(II)I"⟩
abbrev cX4_bestLanding : ByteArray := prog_1_method_15_code
abbrev yX4_bestLanding : MethodName := ⟨"StairBows", "bestLanding", "()I"⟩
abbrev cX4_put : ByteArray := prog_1_method_16_code
abbrev yX4_put : MethodName := ⟨"StairBows", "put", "(J)I"⟩
abbrev cX4_wipe : ByteArray := prog_1_method_17_code
abbrev yX4_wipe : MethodName := ⟨"StairBows", "wipe", "()I"⟩
abbrev cX4_fault : ByteArray := prog_1_method_18_code
abbrev yX4_fault : MethodName := ⟨"StairBows", "fault", "()I"⟩
abbrev cX4_undo : ByteArray := prog_1_method_19_code
abbrev yX4_undo : MethodName := ⟨"StairBows", "undo", "()I"⟩
abbrev cX4_isSlot : ByteArray := prog_1_method_24_code
abbrev yX4_isSlot : MethodName := ⟨"StairBows", "isSlot", "(I)Z"⟩
abbrev cX4_save : ByteArray := prog_1_method_20_code
abbrev yX4_save : MethodName := ⟨"StairBows", "save", "(I)I"⟩
abbrev cX4_restore : ByteArray := prog_1_method_21_code
abbrev yX4_restore : MethodName := ⟨"StairBows", "restore", "(I)I"⟩
abbrev cX5_in : ByteArray := prog_7_method_3_code
abbrev yX5_in : MethodName := ⟨"StairBowsModel", "in", "(JJJ)Z"⟩
abbrev cX5_changes : ByteArray := prog_7_method_4_code
abbrev yX5_changes : MethodName := ⟨"StairBowsModel", "changes", "()V"⟩
abbrev cX5_keeps : ByteArray := prog_7_method_5_code
abbrev yX5_keeps : MethodName := ⟨"StairBowsModel", "keeps", "()V"⟩
abbrev cX5_comesBack : ByteArray := prog_7_method_6_code
abbrev yX5_comesBack : MethodName := ⟨"StairBowsModel", "comesBack", "()V"⟩
abbrev cX5_isPerson : ByteArray := prog_7_method_7_code
abbrev yX5_isPerson : MethodName := ⟨"StairBowsModel", "isPerson", "(I)Z"⟩
abbrev cX5_get : ByteArray := prog_7_method_8_code
abbrev yX5_get : MethodName := ⟨"StairBowsModel", "get", "(II)I"⟩
abbrev cX5_lays : ByteArray := prog_7_method_9_code
abbrev yX5_lays : MethodName := ⟨"StairBowsModel", "lays", "(III)V"⟩
abbrev cX5_adds : ByteArray := prog_7_method_10_code
abbrev yX5_adds : MethodName := ⟨"StairBowsModel", "adds", "(III)V"⟩
abbrev cX5_isStep : ByteArray := prog_7_method_11_code
abbrev yX5_isStep : MethodName := ⟨"StairBowsModel", "isStep", "(I)Z"⟩
abbrev cX5_isLanding : ByteArray := prog_7_method_12_code
abbrev yX5_isLanding : MethodName := ⟨"StairBowsModel", "isLanding", "(I)Z"⟩
abbrev cX5_isAt : ByteArray := prog_7_method_13_code
abbrev yX5_isAt : MethodName := ⟨"StairBowsModel", "isAt", "(II)Z"⟩
abbrev cX5_peopleAt : ByteArray := prog_7_method_14_code
abbrev yX5_peopleAt : MethodName := ⟨"StairBowsModel", "peopleAt", "(I)I"⟩
abbrev cX5_roomAt : ByteArray := prog_7_method_15_code
abbrev yX5_roomAt : MethodName := ⟨"StairBowsModel", "roomAt", "(I)I"⟩
abbrev cX5_way : ByteArray := prog_7_method_16_code
abbrev yX5_way : MethodName := ⟨"StairBowsModel", "way", "(I)I"⟩
abbrev cX5_nextOf : ByteArray := prog_7_method_17_code
abbrev yX5_nextOf : MethodName := ⟨"StairBowsModel", "nextOf", "(I)I"⟩
abbrev cX5_yields : ByteArray := prog_7_method_18_code
abbrev yX5_yields : MethodName := ⟨"StairBowsModel", "yields", "(II)Z"⟩
abbrev cX5_yielder : ByteArray := prog_7_method_19_code
abbrev yX5_yielder : MethodName := ⟨"StairBowsModel", "yielder", "(II)I"⟩
abbrev cX5_ends : ByteArray := prog_7_method_20_code
abbrev yX5_ends : MethodName := ⟨"StairBowsModel", "ends", "(II)V"⟩
abbrev cX5_goesTo : ByteArray := prog_7_method_21_code
abbrev yX5_goesTo : MethodName := ⟨"StairBowsModel", "goesTo", "(III)V"⟩
abbrev cX5_makesWay : ByteArray := prog_7_method_22_code
abbrev yX5_makesWay : MethodName := ⟨"StairBowsModel", "makesWay", "(II)Z"⟩
abbrev cX5_acts : ByteArray := prog_7_method_23_code
abbrev yX5_acts : MethodName := ⟨"StairBowsModel", "acts", "(I)V"⟩
abbrev cX5_ticks : ByteArray := prog_7_method_24_code
abbrev yX5_ticks : MethodName := ⟨"StairBowsModel", "ticks", "()V"⟩
abbrev cX5_thatAre : ByteArray := prog_7_method_25_code
abbrev yX5_thatAre : MethodName := ⟨"StairBowsModel", "thatAre", "(I)I"⟩
abbrev cX5_isSetting : ByteArray := prog_7_method_26_code
abbrev yX5_isSetting : MethodName := ⟨"StairBowsModel", "isSetting", "(II)Z"⟩
abbrev cX5_isTooFull : ByteArray := prog_7_method_27_code
abbrev yX5_isTooFull : MethodName := ⟨"StairBowsModel", "isTooFull", "(I)Z"⟩
abbrev cX5_set : ByteArray := prog_7_method_28_code
abbrev yX5_set : MethodName := ⟨"StairBowsModel", "set", "(II)I"⟩
abbrev cX5_landings : ByteArray := prog_7_method_29_code
abbrev yX5_landings : MethodName := ⟨"StairBowsModel", "landings", "()I"⟩
abbrev cX5_landing : ByteArray := prog_7_method_30_code
abbrev yX5_landing : MethodName := ⟨"StairBowsModel", "landing", "(IZ)I"⟩
abbrev cX5_comes : ByteArray := prog_7_method_31_code
abbrev yX5_comes : MethodName := ⟨"StairBowsModel", "comes", "(II)V"⟩
abbrev cX5_come : ByteArray := prog_7_method_32_code
abbrev yX5_come : MethodName := ⟨"StairBowsModel", "come", "(IZ)I"⟩
abbrev cX5_isAllowed : ByteArray := prog_7_method_50_code
abbrev yX5_isAllowed : MethodName := ⟨"StairBowsModel", "isAllowed", "(I)Z"⟩
abbrev cX5_fault : ByteArray := prog_7_method_51_code
abbrev yX5_fault : MethodName := ⟨"StairBowsModel", "fault", "()I"⟩
abbrev cX5_read : ByteArray := prog_7_method_33_code
abbrev yX5_read : MethodName := ⟨"StairBowsModel", "read", "()I"⟩
abbrev cX5_turn : ByteArray := prog_7_method_34_code
abbrev yX5_turn : MethodName := ⟨"StairBowsModel", "turn", "(I)I"⟩
abbrev cX5_pass : ByteArray := prog_7_method_35_code
abbrev yX5_pass : MethodName := ⟨"StairBowsModel", "pass", "(I)I"⟩
abbrev cX5_person : ByteArray := prog_7_method_36_code
abbrev yX5_person : MethodName := ⟨"StairBowsModel", "person", "(II)I"⟩
abbrev cX5_highestAt : ByteArray := prog_7_method_37_code
abbrev yX5_highestAt : MethodName := ⟨"StairBowsModel", "highestAt", "(I)I"⟩
abbrev cX5_step : ByteArray := prog_7_method_38_code
abbrev yX5_step : MethodName := ⟨"StairBowsModel", "step", "(II)I"⟩
abbrev cX5_does : ByteArray := prog_7_method_39_code
abbrev yX5_does : MethodName := ⟨"StairBowsModel", "does", "(I)I"⟩
abbrev cX5_count : ByteArray := prog_7_method_40_code
abbrev yX5_count : MethodName := ⟨"StairBowsModel", "count", "(I)I"⟩
abbrev cX5_isEmpty : ByteArray := prog_7_method_41_code
abbrev yX5_isEmpty : MethodName := ⟨"StairBowsModel", "isEmpty", "()Z"⟩
abbrev cX5_until : ByteArray := prog_7_method_42_code
abbrev yX5_until : MethodName := ⟨"StairBowsModel", "until", "(I)I"⟩
abbrev cX5_untilArrived : ByteArray := prog_7_method_43_code
abbrev yX5_untilArrived : MethodName := ⟨"StairBowsModel", "untilArrived", "(I)I"⟩
abbrev cX5_untilEmpty : ByteArray := prog_7_method_44_code
abbrev yX5_untilEmpty : MethodName := ⟨"StairBowsModel", "untilEmpty", "()I"⟩
abbrev cX5_ifPassed : ByteArray := prog_7_method_45_code
abbrev yX5_ifPassed : MethodName := ⟨"StairBowsModel", "ifPassed", "(II)I"⟩
abbrev cX5_bestLanding : ByteArray := prog_7_method_46_code
abbrev yX5_bestLanding : MethodName := ⟨"StairBowsModel", "bestLanding", "()I"⟩
abbrev cX5_charactersOf : ByteArray := prog_7_method_47_code
abbrev yX5_charactersOf : MethodName := ⟨"StairBowsModel", "charactersOf", "(J)I"⟩
abbrev cX5_put : ByteArray := prog_7_method_48_code
abbrev yX5_put : MethodName := ⟨"StairBowsModel", "put", "(J)I"⟩
abbrev cX5_wipe : ByteArray := prog_7_method_49_code
abbrev yX5_wipe : MethodName := ⟨"StairBowsModel", "wipe", "()I"⟩
abbrev cX5_undo : ByteArray := prog_7_method_52_code
abbrev yX5_undo : MethodName := ⟨"StairBowsModel", "undo", "()I"⟩
abbrev cX5_isSlot : ByteArray := prog_7_method_53_code
abbrev yX5_isSlot : MethodName := ⟨"StairBowsModel", "isSlot", "(I)Z"⟩
abbrev cX5_save : ByteArray := prog_7_method_54_code
abbrev yX5_save : MethodName := ⟨"StairBowsModel", "save", "(I)I"⟩
abbrev cX5_restore : ByteArray := prog_7_method_55_code
abbrev yX5_restore : MethodName := ⟨"StairBowsModel", "restore", "(I)I"⟩
theorem me_X0_dropOldest : MeV yX0_dropOldest cX0_dropOldest 3 none 0 := ⟨⟨tb_in 210 (by decide +kernel) rfl, tb_in 0 (by decide +kernel) rfl, tb_in 40 (by decide +kernel) rfl, tb_in 211 (by decide +kernel) rfl⟩, rfl, by decide +kernel, by decide +kernel, by decide +kernel⟩
theorem me_X2_takeFrom : MeV yX2_takeFrom cX2_takeFrom 2 none 1 := ⟨⟨tb_in 220 (by decide +kernel) rfl, tb_in 221 (by decide +kernel) rfl, tb_in 39 (by decide +kernel) rfl, tb_in 222 (by decide +kernel) rfl⟩, rfl, by decide +kernel, by decide +kernel, by decide +kernel⟩
theorem me_X3_takeFrom : MeV yX3_takeFrom cX3_takeFrom 3 none 1 := ⟨⟨tb_in 213 (by decide +kernel) rfl, tb_in 214 (by decide +kernel) rfl, tb_in 38 (by decide +kernel) rfl, tb_in 215 (by decide +kernel) rfl⟩, rfl, by decide +kernel, by decide +kernel, by decide +kernel⟩
theorem me_X0_keep : MeV yX0_keep cX0_keep 2 none 1 := ⟨⟨tb_in 205 (by decide +kernel) rfl, tb_in 206 (by decide +kernel) rfl, tb_in 40 (by decide +kernel) rfl, tb_in 207 (by decide +kernel) rfl⟩, rfl, by decide +kernel, by decide +kernel, by decide +kernel⟩
theorem me_X0_bringBackInto : MeV yX0_bringBackInto cX0_bringBackInto 2 none 1 := ⟨⟨tb_in 431 (by decide +kernel) rfl, tb_in 432 (by decide +kernel) rfl, tb_in 40 (by decide +kernel) rfl, tb_in 433 (by decide +kernel) rfl⟩, rfl, by decide +kernel, by decide +kernel, by decide +kernel⟩
theorem me_X1_charactersIn : MeS yX1_charactersIn cX1_charactersIn 7 (some .int) 1 := ⟨⟨tb_in 413 (by decide +kernel) rfl, tb_in 41 (by decide +kernel) rfl, tb_in 414 (by decide +kernel) rfl⟩, rfl, by decide +kernel, by decide +kernel, by decide +kernel⟩
theorem me_X1_append : MeV yX1_append cX1_append 5 (some .int) 1 := ⟨⟨tb_in 409 (by decide +kernel) rfl, tb_in 410 (by decide +kernel) rfl, tb_in 41 (by decide +kernel) rfl, tb_in 411 (by decide +kernel) rfl⟩, rfl, by decide +kernel, by decide +kernel, by decide +kernel⟩
theorem me_X1_canStandAt : MeV yX1_canStandAt cX1_canStandAt 3 (some .boolean) 1 := ⟨⟨tb_in 267 (by decide +kernel) rfl, tb_in 1 (by decide +kernel) rfl, tb_in 41 (by decide +kernel) rfl, tb_in 268 (by decide +kernel) rfl⟩, rfl, by decide +kernel, by decide +kernel, by decide +kernel⟩
theorem me_X1_firstFault : MeV yX1_firstFault cX1_firstFault 2 (some .int) 0 := ⟨⟨tb_in 262 (by decide +kernel) rfl, tb_in 263 (by decide +kernel) rfl, tb_in 41 (by decide +kernel) rfl, tb_in 264 (by decide +kernel) rfl⟩, rfl, by decide +kernel, by decide +kernel, by decide +kernel⟩
theorem me_X1_isUp : MeV yX1_isUp cX1_isUp 3 (some .boolean) 1 := ⟨⟨tb_in 274 (by decide +kernel) rfl, tb_in 275 (by decide +kernel) rfl, tb_in 41 (by decide +kernel) rfl, tb_in 276 (by decide +kernel) rfl⟩, rfl, by decide +kernel, by decide +kernel, by decide +kernel⟩
theorem me_X1_rankOf : MeV yX1_rankOf cX1_rankOf 3 (some .int) 1 := ⟨⟨tb_in 270 (by decide +kernel) rfl, tb_in 271 (by decide +kernel) rfl, tb_in 41 (by decide +kernel) rfl, tb_in 272 (by decide +kernel) rfl⟩, rfl, by decide +kernel, by decide +kernel, by decide +kernel⟩
theorem me_X2_enterHall : MeV yX2_enterHall cX2_enterHall 3 none 2 := ⟨⟨tb_in 254 (by decide +kernel) rfl, tb_in 255 (by decide +kernel) rfl, tb_in 39 (by decide +kernel) rfl, tb_in 256 (by decide +kernel) rfl⟩, rfl, by decide +kernel, by decide +kernel, by decide +kernel⟩
theorem me_X2_isOnWay : MeV yX2_isOnWay cX2_isOnWay 1 (some .boolean) 0 := ⟨⟨tb_in 298 (by decide +kernel) rfl, tb_in 299 (by decide +kernel) rfl, tb_in 39 (by decide +kernel) rfl, tb_in 300 (by decide +kernel) rfl⟩, rfl, by decide +kernel, by decide +kernel, by decide +kernel⟩
theorem me_X2_standsOn : MeV yX2_standsOn cX2_standsOn 2 (some .boolean) 1 := ⟨⟨tb_in 328 (by decide +kernel) rfl, tb_in 329 (by decide +kernel) rfl, tb_in 39 (by decide +kernel) rfl, tb_in 330 (by decide +kernel) rfl⟩, rfl, by decide +kernel, by decide +kernel, by decide +kernel⟩
theorem me_X2_nextStep : MeV yX2_nextStep cX2_nextStep 1 (some .int) 0 := ⟨⟨tb_in 306 (by decide +kernel) rfl, tb_in 307 (by decide +kernel) rfl, tb_in 39 (by decide +kernel) rfl, tb_in 308 (by decide +kernel) rfl⟩, rfl, by decide +kernel, by decide +kernel, by decide +kernel⟩
theorem me_X2_stepBehind : MeV yX2_stepBehind cX2_stepBehind 1 (some .int) 0 := ⟨⟨tb_in 336 (by decide +kernel) rfl, tb_in 337 (by decide +kernel) rfl, tb_in 39 (by decide +kernel) rfl, tb_in 338 (by decide +kernel) rfl⟩, rfl, by decide +kernel, by decide +kernel, by decide +kernel⟩
theorem me_X2_yieldsTo : MeV yX2_yieldsTo cX2_yieldsTo 2 (some .boolean) 1 := ⟨⟨tb_in 332 (by decide +kernel) rfl, tb_in 333 (by decide +kernel) rfl, tb_in 39 (by decide +kernel) rfl, tb_in 334 (by decide +kernel) rfl⟩, rfl, by decide +kernel, by decide +kernel, by decide +kernel⟩
theorem me_X2_stay : MeV yX2_stay cX2_stay 1 none 0 := ⟨⟨tb_in 344 (by decide +kernel) rfl, tb_in 345 (by decide +kernel) rfl, tb_in 39 (by decide +kernel) rfl, tb_in 346 (by decide +kernel) rfl⟩, rfl, by decide +kernel, by decide +kernel, by decide +kernel⟩
theorem me_X2_bow : MeV yX2_bow cX2_bow 2 none 1 := ⟨⟨tb_in 340 (by decide +kernel) rfl, tb_in 341 (by decide +kernel) rfl, tb_in 39 (by decide +kernel) rfl, tb_in 342 (by decide +kernel) rfl⟩, rfl, by decide +kernel, by decide +kernel, by decide +kernel⟩
theorem me_X2_tell : MeV yX2_tell cX2_tell 2 (some .int) 1 := ⟨⟨tb_in 352 (by decide +kernel) rfl, tb_in 353 (by decide +kernel) rfl, tb_in 39 (by decide +kernel) rfl, tb_in 354 (by decide +kernel) rfl⟩, rfl, by decide +kernel, by decide +kernel, by decide +kernel⟩
theorem me_X3_admit : MeV yX3_admit cX3_admit 3 none 2 := ⟨⟨tb_in 250 (by decide +kernel) rfl, tb_in 251 (by decide +kernel) rfl, tb_in 38 (by decide +kernel) rfl, tb_in 252 (by decide +kernel) rfl⟩, rfl, by decide +kernel, by decide +kernel, by decide +kernel⟩
theorem me_X3_isLanding : MeV yX3_isLanding cX3_isLanding 2 (some .boolean) 1 := ⟨⟨tb_in 231 (by decide +kernel) rfl, tb_in 232 (by decide +kernel) rfl, tb_in 38 (by decide +kernel) rfl, tb_in 233 (by decide +kernel) rfl⟩, rfl, by decide +kernel, by decide +kernel, by decide +kernel⟩
theorem me_X4_isStep : MeS yX4_isStep cX4_isStep 1 (some .boolean) 1 := ⟨⟨tb_in 228 (by decide +kernel) rfl, tb_in 37 (by decide +kernel) rfl, tb_in 229 (by decide +kernel) rfl⟩, rfl, by decide +kernel, by decide +kernel, by decide +kernel⟩
theorem me_X3_crowdOn : MeV yX3_crowdOn cX3_crowdOn 2 (some .int) 1 := ⟨⟨tb_in 235 (by decide +kernel) rfl, tb_in 236 (by decide +kernel) rfl, tb_in 38 (by decide +kernel) rfl, tb_in 237 (by decide +kernel) rfl⟩, rfl, by decide +kernel, by decide +kernel, by decide +kernel⟩
theorem me_X3_roomOn : MeV yX3_roomOn cX3_roomOn 2 (some .int) 1 := ⟨⟨tb_in 314 (by decide +kernel) rfl, tb_in 315 (by decide +kernel) rfl, tb_in 38 (by decide +kernel) rfl, tb_in 316 (by decide +kernel) rfl⟩, rfl, by decide +kernel, by decide +kernel, by decide +kernel⟩
theorem me_X3_greatestCrowd : MeV yX3_greatestCrowd cX3_greatestCrowd 3 (some .int) 0 := ⟨⟨tb_in 198 (by decide +kernel) rfl, tb_in 199 (by decide +kernel) rfl, tb_in 38 (by decide +kernel) rfl, tb_in 200 (by decide +kernel) rfl⟩, rfl, by decide +kernel, by decide +kernel, by decide +kernel⟩
theorem me_X3_highestOn : MeV yX3_highestOn cX3_highestOn 5 (some .int) 1 := ⟨⟨tb_in 362 (by decide +kernel) rfl, tb_in 363 (by decide +kernel) rfl, tb_in 38 (by decide +kernel) rfl, tb_in 364 (by decide +kernel) rfl⟩, rfl, by decide +kernel, by decide +kernel, by decide +kernel⟩
theorem me_X3_peopleWho : MeV yX3_peopleWho cX3_peopleWho 4 (some .int) 1 := ⟨⟨tb_in 290 (by decide +kernel) rfl, tb_in 291 (by decide +kernel) rfl, tb_in 38 (by decide +kernel) rfl, tb_in 292 (by decide +kernel) rfl⟩, rfl, by decide +kernel, by decide +kernel, by decide +kernel⟩
theorem me_X3_sumOf : MeV yX3_sumOf cX3_sumOf 4 (some .int) 1 := ⟨⟨tb_in 375 (by decide +kernel) rfl, tb_in 376 (by decide +kernel) rfl, tb_in 38 (by decide +kernel) rfl, tb_in 377 (by decide +kernel) rfl⟩, rfl, by decide +kernel, by decide +kernel, by decide +kernel⟩
theorem me_X3_isAnybodyOnWay : MeV yX3_isAnybodyOnWay cX3_isAnybodyOnWay 2 (some .boolean) 0 := ⟨⟨tb_in 393 (by decide +kernel) rfl, tb_in 394 (by decide +kernel) rfl, tb_in 38 (by decide +kernel) rfl, tb_in 395 (by decide +kernel) rfl⟩, rfl, by decide +kernel, by decide +kernel, by decide +kernel⟩
theorem me_X3_bring : MeV yX3_bring cX3_bring 5 none 4 := ⟨⟨tb_in 311 (by decide +kernel) rfl, tb_in 4 (by decide +kernel) rfl, tb_in 38 (by decide +kernel) rfl, tb_in 312 (by decide +kernel) rfl⟩, rfl, by decide +kernel, by decide +kernel, by decide +kernel⟩
theorem me_X3_yielderOn : MeV yX3_yielderOn cX3_yielderOn 6 (some (.object "StairBows$Person")) 2 := ⟨⟨tb_in 325 (by decide +kernel) rfl, tb_in 6 (by decide +kernel) rfl, tb_in 38 (by decide +kernel) rfl, tb_in 326 (by decide +kernel) rfl⟩, rfl, by decide +kernel, by decide +kernel, by decide +kernel⟩
theorem me_X3_isCleared : MeV yX3_isCleared cX3_isCleared 5 (some .boolean) 2 := ⟨⟨tb_in 321 (by decide +kernel) rfl, tb_in 5 (by decide +kernel) rfl, tb_in 38 (by decide +kernel) rfl, tb_in 322 (by decide +kernel) rfl⟩, rfl, by decide +kernel, by decide +kernel, by decide +kernel⟩
theorem me_X3_move : MeV yX3_move cX3_move 3 none 1 := ⟨⟨tb_in 303 (by decide +kernel) rfl, tb_in 3 (by decide +kernel) rfl, tb_in 38 (by decide +kernel) rfl, tb_in 304 (by decide +kernel) rfl⟩, rfl, by decide +kernel, by decide +kernel, by decide +kernel⟩
theorem me_X3_tick : MeV yX3_tick cX3_tick 4 none 0 := ⟨⟨tb_in 294 (by decide +kernel) rfl, tb_in 295 (by decide +kernel) rfl, tb_in 38 (by decide +kernel) rfl, tb_in 296 (by decide +kernel) rfl⟩, rfl, by decide +kernel, by decide +kernel, by decide +kernel⟩
theorem me_X4_isSetting : MeS yX4_isSetting cX4_isSetting 1 (some .boolean) 1 := ⟨⟨tb_in 191 (by decide +kernel) rfl, tb_in 37 (by decide +kernel) rfl, tb_in 192 (by decide +kernel) rfl⟩, rfl, by decide +kernel, by decide +kernel, by decide +kernel⟩
theorem me_X4_set : MeV yX4_set cX4_set 4 (some .int) 2 := ⟨⟨tb_in 187 (by decide +kernel) rfl, tb_in 188 (by decide +kernel) rfl, tb_in 37 (by decide +kernel) rfl, tb_in 189 (by decide +kernel) rfl⟩, rfl, by decide +kernel, by decide +kernel, by decide +kernel⟩
theorem me_J6_bitCount_0f7a4 : MeS yJ6_bitCount_0f7a4 cJ6_bitCount_0f7a4 1 (some .int) 1 := ⟨⟨tb_in 240 (by decide +kernel) rfl, tb_in 45 (by decide +kernel) rfl, tb_in 241 (by decide +kernel) rfl⟩, rfl, by decide +kernel, by decide +kernel, by decide +kernel⟩
theorem me_X4_landing : MeV yX4_landing cX4_landing 3 (some .int) 2 := ⟨⟨tb_in 224 (by decide +kernel) rfl, tb_in 225 (by decide +kernel) rfl, tb_in 37 (by decide +kernel) rfl, tb_in 226 (by decide +kernel) rfl⟩, rfl, by decide +kernel, by decide +kernel, by decide +kernel⟩
theorem me_X4_come : MeV yX4_come cX4_come 3 (some .int) 2 := ⟨⟨tb_in 246 (by decide +kernel) rfl, tb_in 247 (by decide +kernel) rfl, tb_in 37 (by decide +kernel) rfl, tb_in 248 (by decide +kernel) rfl⟩, rfl, by decide +kernel, by decide +kernel, by decide +kernel⟩
theorem me_X4_read : MeV yX4_read cX4_read 3 (some .int) 0 := ⟨⟨tb_in 258 (by decide +kernel) rfl, tb_in 259 (by decide +kernel) rfl, tb_in 37 (by decide +kernel) rfl, tb_in 260 (by decide +kernel) rfl⟩, rfl, by decide +kernel, by decide +kernel, by decide +kernel⟩
theorem me_X4_isPerson : MeV yX4_isPerson cX4_isPerson 2 (some .boolean) 1 := ⟨⟨tb_in 283 (by decide +kernel) rfl, tb_in 2 (by decide +kernel) rfl, tb_in 37 (by decide +kernel) rfl, tb_in 284 (by decide +kernel) rfl⟩, rfl, by decide +kernel, by decide +kernel, by decide +kernel⟩
theorem me_X4_turn : MeV yX4_turn cX4_turn 3 (some .int) 1 := ⟨⟨tb_in 278 (by decide +kernel) rfl, tb_in 279 (by decide +kernel) rfl, tb_in 37 (by decide +kernel) rfl, tb_in 280 (by decide +kernel) rfl⟩, rfl, by decide +kernel, by decide +kernel, by decide +kernel⟩
theorem me_X4_pass : MeV yX4_pass cX4_pass 4 (some .int) 1 := ⟨⟨tb_in 286 (by decide +kernel) rfl, tb_in 287 (by decide +kernel) rfl, tb_in 37 (by decide +kernel) rfl, tb_in 288 (by decide +kernel) rfl⟩, rfl, by decide +kernel, by decide +kernel, by decide +kernel⟩
theorem me_X4_person : MeV yX4_person cX4_person 3 (some .int) 2 := ⟨⟨tb_in 348 (by decide +kernel) rfl, tb_in 349 (by decide +kernel) rfl, tb_in 37 (by decide +kernel) rfl, tb_in 350 (by decide +kernel) rfl⟩, rfl, by decide +kernel, by decide +kernel, by decide +kernel⟩
theorem me_X4_step : MeV yX4_step cX4_step 3 (some .int) 2 := ⟨⟨tb_in 357 (by decide +kernel) rfl, tb_in 358 (by decide +kernel) rfl, tb_in 37 (by decide +kernel) rfl, tb_in 359 (by decide +kernel) rfl⟩, rfl, by decide +kernel, by decide +kernel, by decide +kernel⟩
theorem me_X4_does : MeV yX4_does cX4_does 2 (some .int) 1 := ⟨⟨tb_in 366 (by decide +kernel) rfl, tb_in 367 (by decide +kernel) rfl, tb_in 37 (by decide +kernel) rfl, tb_in 368 (by decide +kernel) rfl⟩, rfl, by decide +kernel, by decide +kernel, by decide +kernel⟩
theorem me_X4_count : MeV yX4_count cX4_count 2 (some .int) 1 := ⟨⟨tb_in 371 (by decide +kernel) rfl, tb_in 372 (by decide +kernel) rfl, tb_in 37 (by decide +kernel) rfl, tb_in 373 (by decide +kernel) rfl⟩, rfl, by decide +kernel, by decide +kernel, by decide +kernel⟩
theorem me_X4_untilArrived : MeV yX4_untilArrived cX4_untilArrived 4 (some .int) 1 := ⟨⟨tb_in 380 (by decide +kernel) rfl, tb_in 381 (by decide +kernel) rfl, tb_in 37 (by decide +kernel) rfl, tb_in 382 (by decide +kernel) rfl⟩, rfl, by decide +kernel, by decide +kernel, by decide +kernel⟩
theorem me_X4_tryOut : MeV yX4_tryOut cX4_tryOut 3 (some .int) 1 := ⟨⟨tb_in 390 (by decide +kernel) rfl, tb_in 7 (by decide +kernel) rfl, tb_in 37 (by decide +kernel) rfl, tb_in 391 (by decide +kernel) rfl⟩, rfl, by decide +kernel, by decide +kernel, by decide +kernel⟩
theorem me_X4_untilEmpty : MeV yX4_untilEmpty cX4_untilEmpty 2 (some .int) 0 := ⟨⟨tb_in 385 (by decide +kernel) rfl, tb_in 386 (by decide +kernel) rfl, tb_in 37 (by decide +kernel) rfl, tb_in 387 (by decide +kernel) rfl⟩, rfl, by decide +kernel, by decide +kernel, by decide +kernel⟩
theorem me_X4_ifPassed : MeV yX4_ifPassed cX4_ifPassed 3 (some .int) 2 := ⟨⟨tb_in 397 (by decide +kernel) rfl, tb_in 398 (by decide +kernel) rfl, tb_in 37 (by decide +kernel) rfl, tb_in 399 (by decide +kernel) rfl⟩, rfl, by decide +kernel, by decide +kernel, by decide +kernel⟩
theorem me_X4_bestLanding : MeV yX4_bestLanding cX4_bestLanding 5 (some .int) 0 := ⟨⟨tb_in 401 (by decide +kernel) rfl, tb_in 402 (by decide +kernel) rfl, tb_in 37 (by decide +kernel) rfl, tb_in 403 (by decide +kernel) rfl⟩, rfl, by decide +kernel, by decide +kernel, by decide +kernel⟩
theorem me_X4_put : MeV yX4_put cX4_put 3 (some .int) 1 := ⟨⟨tb_in 405 (by decide +kernel) rfl, tb_in 406 (by decide +kernel) rfl, tb_in 37 (by decide +kernel) rfl, tb_in 407 (by decide +kernel) rfl⟩, rfl, by decide +kernel, by decide +kernel, by decide +kernel⟩
theorem me_X4_wipe : MeV yX4_wipe cX4_wipe 2 (some .int) 0 := ⟨⟨tb_in 419 (by decide +kernel) rfl, tb_in 420 (by decide +kernel) rfl, tb_in 37 (by decide +kernel) rfl, tb_in 421 (by decide +kernel) rfl⟩, rfl, by decide +kernel, by decide +kernel, by decide +kernel⟩
theorem me_X4_fault : MeV yX4_fault cX4_fault 1 (some .int) 0 := ⟨⟨tb_in 423 (by decide +kernel) rfl, tb_in 424 (by decide +kernel) rfl, tb_in 37 (by decide +kernel) rfl, tb_in 425 (by decide +kernel) rfl⟩, rfl, by decide +kernel, by decide +kernel, by decide +kernel⟩
theorem me_X4_undo : MeV yX4_undo cX4_undo 1 (some .int) 0 := ⟨⟨tb_in 427 (by decide +kernel) rfl, tb_in 428 (by decide +kernel) rfl, tb_in 37 (by decide +kernel) rfl, tb_in 429 (by decide +kernel) rfl⟩, rfl, by decide +kernel, by decide +kernel, by decide +kernel⟩
theorem me_X4_isSlot : MeS yX4_isSlot cX4_isSlot 1 (some .boolean) 1 := ⟨⟨tb_in 439 (by decide +kernel) rfl, tb_in 37 (by decide +kernel) rfl, tb_in 440 (by decide +kernel) rfl⟩, rfl, by decide +kernel, by decide +kernel, by decide +kernel⟩
theorem me_X4_save : MeV yX4_save cX4_save 2 (some .int) 1 := ⟨⟨tb_in 435 (by decide +kernel) rfl, tb_in 436 (by decide +kernel) rfl, tb_in 37 (by decide +kernel) rfl, tb_in 437 (by decide +kernel) rfl⟩, rfl, by decide +kernel, by decide +kernel, by decide +kernel⟩
theorem me_X4_restore : MeV yX4_restore cX4_restore 2 (some .int) 1 := ⟨⟨tb_in 442 (by decide +kernel) rfl, tb_in 443 (by decide +kernel) rfl, tb_in 37 (by decide +kernel) rfl, tb_in 444 (by decide +kernel) rfl⟩, rfl, by decide +kernel, by decide +kernel, by decide +kernel⟩
theorem me_X5_in : MeS yX5_in cX5_in 6 (some .boolean) 3 := ⟨⟨tb_in 488 (by decide +kernel) rfl, tb_in 42 (by decide +kernel) rfl, tb_in 489 (by decide +kernel) rfl⟩, rfl, by decide +kernel, by decide +kernel, by decide +kernel⟩
theorem me_X5_changes : MeV yX5_changes cX5_changes 2 none 0 := ⟨⟨tb_in 514 (by decide +kernel) rfl, tb_in 13 (by decide +kernel) rfl, tb_in 42 (by decide +kernel) rfl, tb_in 515 (by decide +kernel) rfl⟩, rfl, by decide +kernel, by decide +kernel, by decide +kernel⟩
theorem me_X5_keeps : MeV yX5_keeps cX5_keeps 2 none 0 := ⟨⟨tb_in 634 (by decide +kernel) rfl, tb_in 32 (by decide +kernel) rfl, tb_in 42 (by decide +kernel) rfl, tb_in 635 (by decide +kernel) rfl⟩, rfl, by decide +kernel, by decide +kernel, by decide +kernel⟩
theorem me_X5_comesBack : MeV yX5_comesBack cX5_comesBack 2 none 0 := ⟨⟨tb_in 638 (by decide +kernel) rfl, tb_in 33 (by decide +kernel) rfl, tb_in 42 (by decide +kernel) rfl, tb_in 639 (by decide +kernel) rfl⟩, rfl, by decide +kernel, by decide +kernel, by decide +kernel⟩
theorem me_X5_isPerson : MeV yX5_isPerson cX5_isPerson 2 (some .boolean) 1 := ⟨⟨tb_in 560 (by decide +kernel) rfl, tb_in 18 (by decide +kernel) rfl, tb_in 42 (by decide +kernel) rfl, tb_in 561 (by decide +kernel) rfl⟩, rfl, by decide +kernel, by decide +kernel, by decide +kernel⟩
theorem me_X5_get : MeV yX5_get cX5_get 3 (some .int) 2 := ⟨⟨tb_in 510 (by decide +kernel) rfl, tb_in 12 (by decide +kernel) rfl, tb_in 42 (by decide +kernel) rfl, tb_in 511 (by decide +kernel) rfl⟩, rfl, by decide +kernel, by decide +kernel, by decide +kernel⟩
theorem me_X5_lays : MeV yX5_lays cX5_lays 4 none 3 := ⟨⟨tb_in 538 (by decide +kernel) rfl, tb_in 16 (by decide +kernel) rfl, tb_in 42 (by decide +kernel) rfl, tb_in 539 (by decide +kernel) rfl⟩, rfl, by decide +kernel, by decide +kernel, by decide +kernel⟩
theorem me_X5_adds : MeV yX5_adds cX5_adds 4 none 3 := ⟨⟨tb_in 609 (by decide +kernel) rfl, tb_in 29 (by decide +kernel) rfl, tb_in 42 (by decide +kernel) rfl, tb_in 610 (by decide +kernel) rfl⟩, rfl, by decide +kernel, by decide +kernel, by decide +kernel⟩
theorem me_X5_isStep : MeS yX5_isStep cX5_isStep 1 (some .boolean) 1 := ⟨⟨tb_in 521 (by decide +kernel) rfl, tb_in 42 (by decide +kernel) rfl, tb_in 522 (by decide +kernel) rfl⟩, rfl, by decide +kernel, by decide +kernel, by decide +kernel⟩
theorem me_X5_isLanding : MeV yX5_isLanding cX5_isLanding 2 (some .boolean) 1 := ⟨⟨tb_in 498 (by decide +kernel) rfl, tb_in 9 (by decide +kernel) rfl, tb_in 42 (by decide +kernel) rfl, tb_in 499 (by decide +kernel) rfl⟩, rfl, by decide +kernel, by decide +kernel, by decide +kernel⟩
theorem me_X5_isAt : MeV yX5_isAt cX5_isAt 3 (some .boolean) 2 := ⟨⟨tb_in 506 (by decide +kernel) rfl, tb_in 11 (by decide +kernel) rfl, tb_in 42 (by decide +kernel) rfl, tb_in 507 (by decide +kernel) rfl⟩, rfl, by decide +kernel, by decide +kernel, by decide +kernel⟩
theorem me_X5_peopleAt : MeV yX5_peopleAt cX5_peopleAt 4 (some .int) 1 := ⟨⟨tb_in 502 (by decide +kernel) rfl, tb_in 10 (by decide +kernel) rfl, tb_in 42 (by decide +kernel) rfl, tb_in 503 (by decide +kernel) rfl⟩, rfl, by decide +kernel, by decide +kernel, by decide +kernel⟩
theorem me_X5_roomAt : MeV yX5_roomAt cX5_roomAt 2 (some .int) 1 := ⟨⟨tb_in 593 (by decide +kernel) rfl, tb_in 25 (by decide +kernel) rfl, tb_in 42 (by decide +kernel) rfl, tb_in 594 (by decide +kernel) rfl⟩, rfl, by decide +kernel, by decide +kernel, by decide +kernel⟩
theorem me_X5_way : MeV yX5_way cX5_way 2 (some .int) 1 := ⟨⟨tb_in 585 (by decide +kernel) rfl, tb_in 23 (by decide +kernel) rfl, tb_in 42 (by decide +kernel) rfl, tb_in 586 (by decide +kernel) rfl⟩, rfl, by decide +kernel, by decide +kernel, by decide +kernel⟩
theorem me_X5_nextOf : MeV yX5_nextOf cX5_nextOf 2 (some .int) 1 := ⟨⟨tb_in 581 (by decide +kernel) rfl, tb_in 22 (by decide +kernel) rfl, tb_in 42 (by decide +kernel) rfl, tb_in 582 (by decide +kernel) rfl⟩, rfl, by decide +kernel, by decide +kernel, by decide +kernel⟩
theorem me_X5_yields : MeV yX5_yields cX5_yields 4 (some .boolean) 2 := ⟨⟨tb_in 601 (by decide +kernel) rfl, tb_in 27 (by decide +kernel) rfl, tb_in 42 (by decide +kernel) rfl, tb_in 602 (by decide +kernel) rfl⟩, rfl, by decide +kernel, by decide +kernel, by decide +kernel⟩
theorem me_X5_yielder : MeV yX5_yielder cX5_yielder 5 (some .int) 2 := ⟨⟨tb_in 597 (by decide +kernel) rfl, tb_in 26 (by decide +kernel) rfl, tb_in 42 (by decide +kernel) rfl, tb_in 598 (by decide +kernel) rfl⟩, rfl, by decide +kernel, by decide +kernel, by decide +kernel⟩
theorem me_X5_ends : MeV yX5_ends cX5_ends 3 none 2 := ⟨⟨tb_in 589 (by decide +kernel) rfl, tb_in 24 (by decide +kernel) rfl, tb_in 42 (by decide +kernel) rfl, tb_in 590 (by decide +kernel) rfl⟩, rfl, by decide +kernel, by decide +kernel, by decide +kernel⟩
theorem me_X5_goesTo : MeV yX5_goesTo cX5_goesTo 4 none 3 := ⟨⟨tb_in 613 (by decide +kernel) rfl, tb_in 30 (by decide +kernel) rfl, tb_in 42 (by decide +kernel) rfl, tb_in 614 (by decide +kernel) rfl⟩, rfl, by decide +kernel, by decide +kernel, by decide +kernel⟩
theorem me_X5_makesWay : MeV yX5_makesWay cX5_makesWay 5 (some .boolean) 2 := ⟨⟨tb_in 605 (by decide +kernel) rfl, tb_in 28 (by decide +kernel) rfl, tb_in 42 (by decide +kernel) rfl, tb_in 606 (by decide +kernel) rfl⟩, rfl, by decide +kernel, by decide +kernel, by decide +kernel⟩
theorem me_X5_acts : MeV yX5_acts cX5_acts 5 none 1 := ⟨⟨tb_in 577 (by decide +kernel) rfl, tb_in 21 (by decide +kernel) rfl, tb_in 42 (by decide +kernel) rfl, tb_in 578 (by decide +kernel) rfl⟩, rfl, by decide +kernel, by decide +kernel, by decide +kernel⟩
theorem me_X5_ticks : MeV yX5_ticks cX5_ticks 3 none 0 := ⟨⟨tb_in 573 (by decide +kernel) rfl, tb_in 20 (by decide +kernel) rfl, tb_in 42 (by decide +kernel) rfl, tb_in 574 (by decide +kernel) rfl⟩, rfl, by decide +kernel, by decide +kernel, by decide +kernel⟩
theorem me_X5_thatAre : MeV yX5_thatAre cX5_thatAre 4 (some .int) 1 := ⟨⟨tb_in 569 (by decide +kernel) rfl, tb_in 19 (by decide +kernel) rfl, tb_in 42 (by decide +kernel) rfl, tb_in 570 (by decide +kernel) rfl⟩, rfl, by decide +kernel, by decide +kernel, by decide +kernel⟩
theorem me_X5_isSetting : MeS yX5_isSetting cX5_isSetting 2 (some .boolean) 2 := ⟨⟨tb_in 484 (by decide +kernel) rfl, tb_in 42 (by decide +kernel) rfl, tb_in 485 (by decide +kernel) rfl⟩, rfl, by decide +kernel, by decide +kernel, by decide +kernel⟩
theorem me_X5_isTooFull : MeV yX5_isTooFull cX5_isTooFull 4 (some .boolean) 1 := ⟨⟨tb_in 494 (by decide +kernel) rfl, tb_in 8 (by decide +kernel) rfl, tb_in 42 (by decide +kernel) rfl, tb_in 495 (by decide +kernel) rfl⟩, rfl, by decide +kernel, by decide +kernel, by decide +kernel⟩
theorem me_X5_set : MeV yX5_set cX5_set 4 (some .int) 2 := ⟨⟨tb_in 480 (by decide +kernel) rfl, tb_in 481 (by decide +kernel) rfl, tb_in 42 (by decide +kernel) rfl, tb_in 482 (by decide +kernel) rfl⟩, rfl, by decide +kernel, by decide +kernel, by decide +kernel⟩
theorem me_X5_landings : MeV yX5_landings cX5_landings 3 (some .int) 0 := ⟨⟨tb_in 526 (by decide +kernel) rfl, tb_in 14 (by decide +kernel) rfl, tb_in 42 (by decide +kernel) rfl, tb_in 527 (by decide +kernel) rfl⟩, rfl, by decide +kernel, by decide +kernel, by decide +kernel⟩
theorem me_X5_landing : MeV yX5_landing cX5_landing 3 (some .int) 2 := ⟨⟨tb_in 517 (by decide +kernel) rfl, tb_in 518 (by decide +kernel) rfl, tb_in 42 (by decide +kernel) rfl, tb_in 519 (by decide +kernel) rfl⟩, rfl, by decide +kernel, by decide +kernel, by decide +kernel⟩
theorem me_X5_comes : MeV yX5_comes cX5_comes 5 none 2 := ⟨⟨tb_in 534 (by decide +kernel) rfl, tb_in 15 (by decide +kernel) rfl, tb_in 42 (by decide +kernel) rfl, tb_in 535 (by decide +kernel) rfl⟩, rfl, by decide +kernel, by decide +kernel, by decide +kernel⟩
theorem me_X5_come : MeV yX5_come cX5_come 3 (some .int) 2 := ⟨⟨tb_in 529 (by decide +kernel) rfl, tb_in 530 (by decide +kernel) rfl, tb_in 42 (by decide +kernel) rfl, tb_in 531 (by decide +kernel) rfl⟩, rfl, by decide +kernel, by decide +kernel, by decide +kernel⟩
theorem me_X5_isAllowed : MeV yX5_isAllowed cX5_isAllowed 2 (some .boolean) 1 := ⟨⟨tb_in 550 (by decide +kernel) rfl, tb_in 17 (by decide +kernel) rfl, tb_in 42 (by decide +kernel) rfl, tb_in 551 (by decide +kernel) rfl⟩, rfl, by decide +kernel, by decide +kernel, by decide +kernel⟩
theorem me_X5_fault : MeV yX5_fault cX5_fault 2 (some .int) 0 := ⟨⟨tb_in 545 (by decide +kernel) rfl, tb_in 546 (by decide +kernel) rfl, tb_in 42 (by decide +kernel) rfl, tb_in 547 (by decide +kernel) rfl⟩, rfl, by decide +kernel, by decide +kernel, by decide +kernel⟩
theorem me_X5_read : MeV yX5_read cX5_read 2 (some .int) 0 := ⟨⟨tb_in 541 (by decide +kernel) rfl, tb_in 542 (by decide +kernel) rfl, tb_in 42 (by decide +kernel) rfl, tb_in 543 (by decide +kernel) rfl⟩, rfl, by decide +kernel, by decide +kernel, by decide +kernel⟩
theorem me_X5_turn : MeV yX5_turn cX5_turn 2 (some .int) 1 := ⟨⟨tb_in 555 (by decide +kernel) rfl, tb_in 556 (by decide +kernel) rfl, tb_in 42 (by decide +kernel) rfl, tb_in 557 (by decide +kernel) rfl⟩, rfl, by decide +kernel, by decide +kernel, by decide +kernel⟩
theorem me_X5_pass : MeV yX5_pass cX5_pass 4 (some .int) 1 := ⟨⟨tb_in 563 (by decide +kernel) rfl, tb_in 564 (by decide +kernel) rfl, tb_in 42 (by decide +kernel) rfl, tb_in 565 (by decide +kernel) rfl⟩, rfl, by decide +kernel, by decide +kernel, by decide +kernel⟩
theorem me_X5_person : MeV yX5_person cX5_person 3 (some .int) 2 := ⟨⟨tb_in 616 (by decide +kernel) rfl, tb_in 617 (by decide +kernel) rfl, tb_in 42 (by decide +kernel) rfl, tb_in 618 (by decide +kernel) rfl⟩, rfl, by decide +kernel, by decide +kernel, by decide +kernel⟩
theorem me_X5_highestAt : MeV yX5_highestAt cX5_highestAt 4 (some .int) 1 := ⟨⟨tb_in 626 (by decide +kernel) rfl, tb_in 31 (by decide +kernel) rfl, tb_in 42 (by decide +kernel) rfl, tb_in 627 (by decide +kernel) rfl⟩, rfl, by decide +kernel, by decide +kernel, by decide +kernel⟩
theorem me_X5_step : MeV yX5_step cX5_step 3 (some .int) 2 := ⟨⟨tb_in 621 (by decide +kernel) rfl, tb_in 622 (by decide +kernel) rfl, tb_in 42 (by decide +kernel) rfl, tb_in 623 (by decide +kernel) rfl⟩, rfl, by decide +kernel, by decide +kernel, by decide +kernel⟩
theorem me_X5_does : MeV yX5_does cX5_does 3 (some .int) 1 := ⟨⟨tb_in 629 (by decide +kernel) rfl, tb_in 630 (by decide +kernel) rfl, tb_in 42 (by decide +kernel) rfl, tb_in 631 (by decide +kernel) rfl⟩, rfl, by decide +kernel, by decide +kernel, by decide +kernel⟩
theorem me_X5_count : MeV yX5_count cX5_count 2 (some .int) 1 := ⟨⟨tb_in 641 (by decide +kernel) rfl, tb_in 642 (by decide +kernel) rfl, tb_in 42 (by decide +kernel) rfl, tb_in 643 (by decide +kernel) rfl⟩, rfl, by decide +kernel, by decide +kernel, by decide +kernel⟩
theorem me_X5_isEmpty : MeV yX5_isEmpty cX5_isEmpty 1 (some .boolean) 0 := ⟨⟨tb_in 655 (by decide +kernel) rfl, tb_in 35 (by decide +kernel) rfl, tb_in 42 (by decide +kernel) rfl, tb_in 656 (by decide +kernel) rfl⟩, rfl, by decide +kernel, by decide +kernel, by decide +kernel⟩
theorem me_X5_until : MeV yX5_until cX5_until 3 (some .int) 1 := ⟨⟨tb_in 651 (by decide +kernel) rfl, tb_in 34 (by decide +kernel) rfl, tb_in 42 (by decide +kernel) rfl, tb_in 652 (by decide +kernel) rfl⟩, rfl, by decide +kernel, by decide +kernel, by decide +kernel⟩
theorem me_X5_untilArrived : MeV yX5_untilArrived cX5_untilArrived 2 (some .int) 1 := ⟨⟨tb_in 646 (by decide +kernel) rfl, tb_in 647 (by decide +kernel) rfl, tb_in 42 (by decide +kernel) rfl, tb_in 648 (by decide +kernel) rfl⟩, rfl, by decide +kernel, by decide +kernel, by decide +kernel⟩
theorem me_X5_untilEmpty : MeV yX5_untilEmpty cX5_untilEmpty 1 (some .int) 0 := ⟨⟨tb_in 658 (by decide +kernel) rfl, tb_in 659 (by decide +kernel) rfl, tb_in 42 (by decide +kernel) rfl, tb_in 660 (by decide +kernel) rfl⟩, rfl, by decide +kernel, by decide +kernel, by decide +kernel⟩
theorem me_X5_ifPassed : MeV yX5_ifPassed cX5_ifPassed 6 (some .int) 2 := ⟨⟨tb_in 662 (by decide +kernel) rfl, tb_in 663 (by decide +kernel) rfl, tb_in 42 (by decide +kernel) rfl, tb_in 664 (by decide +kernel) rfl⟩, rfl, by decide +kernel, by decide +kernel, by decide +kernel⟩
theorem me_X5_bestLanding : MeV yX5_bestLanding cX5_bestLanding 7 (some .int) 0 := ⟨⟨tb_in 668 (by decide +kernel) rfl, tb_in 669 (by decide +kernel) rfl, tb_in 42 (by decide +kernel) rfl, tb_in 670 (by decide +kernel) rfl⟩, rfl, by decide +kernel, by decide +kernel, by decide +kernel⟩
theorem me_X5_charactersOf : MeS yX5_charactersOf cX5_charactersOf 5 (some .int) 1 := ⟨⟨tb_in 677 (by decide +kernel) rfl, tb_in 42 (by decide +kernel) rfl, tb_in 678 (by decide +kernel) rfl⟩, rfl, by decide +kernel, by decide +kernel, by decide +kernel⟩
theorem me_X5_put : MeV yX5_put cX5_put 5 (some .int) 1 := ⟨⟨tb_in 673 (by decide +kernel) rfl, tb_in 674 (by decide +kernel) rfl, tb_in 42 (by decide +kernel) rfl, tb_in 675 (by decide +kernel) rfl⟩, rfl, by decide +kernel, by decide +kernel, by decide +kernel⟩
theorem me_X5_wipe : MeV yX5_wipe cX5_wipe 2 (some .int) 0 := ⟨⟨tb_in 683 (by decide +kernel) rfl, tb_in 684 (by decide +kernel) rfl, tb_in 42 (by decide +kernel) rfl, tb_in 685 (by decide +kernel) rfl⟩, rfl, by decide +kernel, by decide +kernel, by decide +kernel⟩
theorem me_X5_undo : MeV yX5_undo cX5_undo 2 (some .int) 0 := ⟨⟨tb_in 688 (by decide +kernel) rfl, tb_in 689 (by decide +kernel) rfl, tb_in 42 (by decide +kernel) rfl, tb_in 690 (by decide +kernel) rfl⟩, rfl, by decide +kernel, by decide +kernel, by decide +kernel⟩
theorem me_X5_isSlot : MeS yX5_isSlot cX5_isSlot 1 (some .boolean) 1 := ⟨⟨tb_in 696 (by decide +kernel) rfl, tb_in 42 (by decide +kernel) rfl, tb_in 697 (by decide +kernel) rfl⟩, rfl, by decide +kernel, by decide +kernel, by decide +kernel⟩
theorem me_X5_save : MeV yX5_save cX5_save 3 (some .int) 1 := ⟨⟨tb_in 692 (by decide +kernel) rfl, tb_in 693 (by decide +kernel) rfl, tb_in 42 (by decide +kernel) rfl, tb_in 694 (by decide +kernel) rfl⟩, rfl, by decide +kernel, by decide +kernel, by decide +kernel⟩
theorem me_X5_restore : MeV yX5_restore cX5_restore 3 (some .int) 1 := ⟨⟨tb_in 699 (by decide +kernel) rfl, tb_in 700 (by decide +kernel) rfl, tb_in 42 (by decide +kernel) rfl, tb_in 701 (by decide +kernel) rfl⟩, rfl, by decide +kernel, by decide +kernel, by decide +kernel⟩
theorem mf_History_11 : Cond.fieldLink "StairBows$History" 11 "StairBows$History" "states" "[LStairBows$Staircase;" ∈ tb_G := tb_in 143 (by decide +kernel) rfl
theorem mf_History_18 : Cond.fieldLink "StairBows$History" 18 "StairBows$History" "size" "I" ∈ tb_G := tb_in 144 (by decide +kernel) rfl
theorem mf_Person_9 : Cond.fieldLink "StairBows$Person" 9 "StairBows$Person" "rank" "I" ∈ tb_G := tb_in 69 (by decide +kernel) rfl
theorem mf_Person_15 : Cond.fieldLink "StairBows$Person" 15 "StairBows$Person" "goesUp" "Z" ∈ tb_G := tb_in 71 (by decide +kernel) rfl
theorem mf_Person_19 : Cond.fieldLink "StairBows$Person" 19 "StairBows$Person" "place" "I" ∈ tb_G := tb_in 73 (by decide +kernel) rfl
theorem mf_Person_22 : Cond.fieldLink "StairBows$Person" 22 "StairBows$Person" "at" "I" ∈ tb_G := tb_in 76 (by decide +kernel) rfl
theorem mf_Person_25 : Cond.fieldLink "StairBows$Person" 25 "StairBows$Person" "waits" "I" ∈ tb_G := tb_in 78 (by decide +kernel) rfl
theorem mf_Person_28 : Cond.fieldLink "StairBows$Person" 28 "StairBows$Person" "yields" "I" ∈ tb_G := tb_in 79 (by decide +kernel) rfl
theorem mf_Person_31 : Cond.fieldLink "StairBows$Person" 31 "StairBows$Person" "bows" "I" ∈ tb_G := tb_in 80 (by decide +kernel) rfl
theorem mf_Person_34 : Cond.fieldLink "StairBows$Person" 34 "StairBows$Person" "endedAt" "I" ∈ tb_G := tb_in 81 (by decide +kernel) rfl
theorem mf_Person_37 : Cond.fieldLink "StairBows$Person" 37 "StairBows$Person" "stayed" "I" ∈ tb_G := tb_in 83 (by decide +kernel) rfl
theorem mf_Staircase_13 : Cond.fieldLink "StairBows$Staircase" 13 "StairBows$Staircase" "settings" "[I" ∈ tb_G := tb_in 110 (by decide +kernel) rfl
theorem ml_Staircase_32 : Cond.methodLink "StairBows$Staircase" 32 ⟨"java/lang/System", "arraycopy", "(Ljava/lang/Object;ILjava/lang/Object;II)V"⟩ ∈ tb_G := tb_in 216 (by decide +kernel) rfl
theorem mf_Staircase_24 : Cond.fieldLink "StairBows$Staircase" 24 "StairBows$Staircase" "crowds" "[I" ∈ tb_G := tb_in 114 (by decide +kernel) rfl
theorem mf_Staircase_27 : Cond.fieldLink "StairBows$Staircase" 27 "StairBows$Staircase" "landings" "I" ∈ tb_G := tb_in 115 (by decide +kernel) rfl
theorem mf_Staircase_38 : Cond.fieldLink "StairBows$Staircase" 38 "StairBows$Staircase" "size" "I" ∈ tb_G := tb_in 117 (by decide +kernel) rfl
theorem mf_Staircase_41 : Cond.fieldLink "StairBows$Staircase" 41 "StairBows$Staircase" "ticks" "I" ∈ tb_G := tb_in 119 (by decide +kernel) rfl
theorem mf_Staircase_20 : Cond.fieldLink "StairBows$Staircase" 20 "StairBows$Staircase" "people" "[LStairBows$Person;" ∈ tb_G := tb_in 112 (by decide +kernel) rfl
theorem ml_Staircase_44 : Cond.methodLink "StairBows$Staircase" 44 yX2_takeFrom ∈ tb_G := tb_in 219 (by decide +kernel) rfl
theorem ml_History_25 : Cond.methodLink "StairBows$History" 25 yX3_takeFrom ∈ tb_G := tb_in 212 (by decide +kernel) rfl
theorem ml_History_22 : Cond.methodLink "StairBows$History" 22 yX0_dropOldest ∈ tb_G := tb_in 208 (by decide +kernel) rfl
theorem mk_Pad_23 : Cond.constantLong "StairBows$Pad" 23 (255) ∈ tb_G := tb_in 415 (by decide +kernel) rfl
theorem mk_Pad_25 : Cond.constantLong "StairBows$Pad" 25 (33) ∈ tb_G := tb_in 416 (by decide +kernel) rfl
theorem mk_Pad_27 : Cond.constantLong "StairBows$Pad" 27 (126) ∈ tb_G := tb_in 417 (by decide +kernel) rfl
theorem ml_Pad_15 : Cond.methodLink "StairBows$Pad" 15 yX1_charactersIn ∈ tb_G := tb_in 412 (by decide +kernel) rfl
theorem mf_Pad_19 : Cond.fieldLink "StairBows$Pad" 19 "StairBows$Pad" "length" "I" ∈ tb_G := tb_in 158 (by decide +kernel) rfl
theorem mf_Pad_9 : Cond.fieldLink "StairBows$Pad" 9 "StairBows$Pad" "signs" "[C" ∈ tb_G := tb_in 157 (by decide +kernel) rfl
theorem ml_Pad_29 : Cond.methodLink "StairBows$Pad" 29 yX1_canStandAt ∈ tb_G := tb_in 265 (by decide +kernel) rfl
theorem mf_Person_40 : Cond.fieldLink "StairBows$Person" 40 "StairBows$Person" "deed" "I" ∈ tb_G := tb_in 85 (by decide +kernel) rfl
theorem ml_Person_43 : Cond.methodLink "StairBows$Person" 43 yX2_isOnWay ∈ tb_G := tb_in 355 (by decide +kernel) rfl
theorem ml_Staircase_48 : Cond.methodLink "StairBows$Staircase" 48 yX2_enterHall ∈ tb_G := tb_in 253 (by decide +kernel) rfl
theorem ml_Staircase_56 : Cond.methodLink "StairBows$Staircase" 56 yX3_isLanding ∈ tb_G := tb_in 317 (by decide +kernel) rfl
theorem ml_Staircase_59 : Cond.methodLink "StairBows$Staircase" 59 yX3_crowdOn ∈ tb_G := tb_in 318 (by decide +kernel) rfl
theorem ml_Staircase_63 : Cond.methodLink "StairBows$Staircase" 63 ⟨"java/lang/Math", "max", "(II)I"⟩ ∈ tb_G := tb_in 201 (by decide +kernel) rfl
theorem ml_Staircase_69 : Cond.methodLink "StairBows$Staircase" 69 yX2_standsOn ∈ tb_G := tb_in 327 (by decide +kernel) rfl
theorem mf_Staircase_72 : Cond.fieldLink "StairBows$Staircase" 72 "StairBows$Person" "rank" "I" ∈ tb_G := tb_in 70 (by decide +kernel) rfl
theorem mf_Staircase_75 : Cond.fieldLink "StairBows$Staircase" 75 "StairBows$Person" "place" "I" ∈ tb_G := tb_in 75 (by decide +kernel) rfl
theorem ml_Staircase_78 : Cond.methodLink "StairBows$Staircase" 78 yX2_tell ∈ tb_G := tb_in 378 (by decide +kernel) rfl
theorem ml_Staircase_81 : Cond.methodLink "StairBows$Staircase" 81 yX2_isOnWay ∈ tb_G := tb_in 297 (by decide +kernel) rfl
theorem mf_Staircase_127 : Cond.fieldLink "StairBows$Staircase" 127 "StairBows$Person" "at" "I" ∈ tb_G := tb_in 77 (by decide +kernel) rfl
theorem mf_Staircase_130 : Cond.fieldLink "StairBows$Staircase" 130 "StairBows$Person" "endedAt" "I" ∈ tb_G := tb_in 82 (by decide +kernel) rfl
theorem mf_Staircase_85 : Cond.fieldLink "StairBows$Staircase" 85 "StairBows$Person" "deed" "I" ∈ tb_G := tb_in 87 (by decide +kernel) rfl
theorem mf_Staircase_109 : Cond.fieldLink "StairBows$Staircase" 109 "StairBows$Person" "stayed" "I" ∈ tb_G := tb_in 84 (by decide +kernel) rfl
theorem ml_Staircase_123 : Cond.methodLink "StairBows$Staircase" 123 yX2_yieldsTo ∈ tb_G := tb_in 331 (by decide +kernel) rfl
theorem ml_Staircase_112 : Cond.methodLink "StairBows$Staircase" 112 yX3_yielderOn ∈ tb_G := tb_in 323 (by decide +kernel) rfl
theorem ml_Staircase_116 : Cond.methodLink "StairBows$Staircase" 116 yX2_stepBehind ∈ tb_G := tb_in 335 (by decide +kernel) rfl
theorem ml_Staircase_95 : Cond.methodLink "StairBows$Staircase" 95 yX3_bring ∈ tb_G := tb_in 309 (by decide +kernel) rfl
theorem ml_Staircase_119 : Cond.methodLink "StairBows$Staircase" 119 yX2_bow ∈ tb_G := tb_in 339 (by decide +kernel) rfl
theorem ml_Staircase_99 : Cond.methodLink "StairBows$Staircase" 99 yX3_roomOn ∈ tb_G := tb_in 313 (by decide +kernel) rfl
theorem ml_Staircase_91 : Cond.methodLink "StairBows$Staircase" 91 yX2_nextStep ∈ tb_G := tb_in 305 (by decide +kernel) rfl
theorem ml_Staircase_102 : Cond.methodLink "StairBows$Staircase" 102 yX3_isCleared ∈ tb_G := tb_in 319 (by decide +kernel) rfl
theorem ml_Staircase_106 : Cond.methodLink "StairBows$Staircase" 106 yX2_stay ∈ tb_G := tb_in 343 (by decide +kernel) rfl
theorem ml_Staircase_88 : Cond.methodLink "StairBows$Staircase" 88 yX3_move ∈ tb_G := tb_in 301 (by decide +kernel) rfl
theorem ml_StairBows_41 : Cond.methodLink "StairBows" 41 yX4_isSetting ∈ tb_G := tb_in 190 (by decide +kernel) rfl
theorem mf_StairBows_45 : Cond.fieldLink "StairBows" 45 "StairBows" "LEAST_VALUE" "[I" ∈ tb_G := tb_in 193 (by decide +kernel) rfl
theorem mf_StairBows_49 : Cond.fieldLink "StairBows" 49 "StairBows" "GREATEST_VALUE" "[I" ∈ tb_G := tb_in 195 (by decide +kernel) rfl
theorem mf_StairBows_22 : Cond.fieldLink "StairBows" 22 "StairBows" "history" "LStairBows$History;" ∈ tb_G := tb_in 169 (by decide +kernel) rfl
theorem mf_StairBows_10 : Cond.fieldLink "StairBows" 10 "StairBows" "now" "LStairBows$Staircase;" ∈ tb_G := tb_in 167 (by decide +kernel) rfl
theorem ml_StairBows_56 : Cond.methodLink "StairBows" 56 yX0_keep ∈ tb_G := tb_in 204 (by decide +kernel) rfl
theorem mf_StairBows_60 : Cond.fieldLink "StairBows" 60 "StairBows$Staircase" "settings" "[I" ∈ tb_G := tb_in 111 (by decide +kernel) rfl
theorem ml_StairBows_52 : Cond.methodLink "StairBows" 52 yX3_greatestCrowd ∈ tb_G := tb_in 197 (by decide +kernel) rfl
theorem mk_Integer_265 : Cond.constant "java/lang/Integer" 265 (1431655765) ∈ tb_G := tb_in 242 (by decide +kernel) rfl
theorem mk_Integer_266 : Cond.constant "java/lang/Integer" 266 (858993459) ∈ tb_G := tb_in 243 (by decide +kernel) rfl
theorem mk_Integer_267 : Cond.constant "java/lang/Integer" 267 (252645135) ∈ tb_G := tb_in 244 (by decide +kernel) rfl
theorem ml_StairBows_63 : Cond.methodLink "StairBows" 63 yX4_isStep ∈ tb_G := tb_in 227 (by decide +kernel) rfl
theorem ml_StairBows_66 : Cond.methodLink "StairBows" 66 yX3_isLanding ∈ tb_G := tb_in 230 (by decide +kernel) rfl
theorem ml_StairBows_69 : Cond.methodLink "StairBows" 69 yX3_crowdOn ∈ tb_G := tb_in 234 (by decide +kernel) rfl
theorem mf_StairBows_73 : Cond.fieldLink "StairBows" 73 "StairBows$Staircase" "landings" "I" ∈ tb_G := tb_in 116 (by decide +kernel) rfl
theorem ml_StairBows_77 : Cond.methodLink "StairBows" 77 yJ6_bitCount_0f7a4 ∈ tb_G := tb_in 239 (by decide +kernel) rfl
theorem mf_StairBows_82 : Cond.fieldLink "StairBows" 82 "StairBows$Staircase" "size" "I" ∈ tb_G := tb_in 118 (by decide +kernel) rfl
theorem ml_StairBows_85 : Cond.methodLink "StairBows" 85 yX3_admit ∈ tb_G := tb_in 249 (by decide +kernel) rfl
theorem mf_StairBows_37 : Cond.fieldLink "StairBows" 37 "StairBows" "pad" "LStairBows$Pad;" ∈ tb_G := tb_in 172 (by decide +kernel) rfl
theorem ml_StairBows_89 : Cond.methodLink "StairBows" 89 yX1_firstFault ∈ tb_G := tb_in 261 (by decide +kernel) rfl
theorem mf_StairBows_92 : Cond.fieldLink "StairBows" 92 "StairBows$Pad" "length" "I" ∈ tb_G := tb_in 159 (by decide +kernel) rfl
theorem ml_StairBows_95 : Cond.methodLink "StairBows" 95 yX1_rankOf ∈ tb_G := tb_in 269 (by decide +kernel) rfl
theorem ml_StairBows_98 : Cond.methodLink "StairBows" 98 yX1_isUp ∈ tb_G := tb_in 273 (by decide +kernel) rfl
theorem ml_StairBows_101 : Cond.methodLink "StairBows" 101 yX4_isPerson ∈ tb_G := tb_in 281 (by decide +kernel) rfl
theorem mf_StairBows_104 : Cond.fieldLink "StairBows" 104 "StairBows$Staircase" "people" "[LStairBows$Person;" ∈ tb_G := tb_in 113 (by decide +kernel) rfl
theorem mf_StairBows_108 : Cond.fieldLink "StairBows" 108 "StairBows$Person" "place" "I" ∈ tb_G := tb_in 74 (by decide +kernel) rfl
theorem mf_StairBows_113 : Cond.fieldLink "StairBows" 113 "StairBows$Person" "goesUp" "Z" ∈ tb_G := tb_in 72 (by decide +kernel) rfl
theorem mf_StairBows_117 : Cond.fieldLink "StairBows" 117 "StairBows$Staircase" "ticks" "I" ∈ tb_G := tb_in 120 (by decide +kernel) rfl
theorem ml_StairBows_120 : Cond.methodLink "StairBows" 120 yX3_peopleWho ∈ tb_G := tb_in 289 (by decide +kernel) rfl
theorem ml_StairBows_123 : Cond.methodLink "StairBows" 123 yX3_tick ∈ tb_G := tb_in 293 (by decide +kernel) rfl
theorem ml_StairBows_126 : Cond.methodLink "StairBows" 126 yX2_tell ∈ tb_G := tb_in 351 (by decide +kernel) rfl
theorem ml_StairBows_129 : Cond.methodLink "StairBows" 129 yX3_roomOn ∈ tb_G := tb_in 360 (by decide +kernel) rfl
theorem ml_StairBows_132 : Cond.methodLink "StairBows" 132 yX3_highestOn ∈ tb_G := tb_in 361 (by decide +kernel) rfl
theorem mf_StairBows_16 : Cond.fieldLink "StairBows" 16 "StairBows" "trial" "LStairBows$Staircase;" ∈ tb_G := tb_in 168 (by decide +kernel) rfl
theorem ml_StairBows_135 : Cond.methodLink "StairBows" 135 yX3_takeFrom ∈ tb_G := tb_in 369 (by decide +kernel) rfl
theorem mf_StairBows_138 : Cond.fieldLink "StairBows" 138 "StairBows$Person" "deed" "I" ∈ tb_G := tb_in 86 (by decide +kernel) rfl
theorem ml_StairBows_141 : Cond.methodLink "StairBows" 141 yX3_sumOf ∈ tb_G := tb_in 374 (by decide +kernel) rfl
theorem mf_StairBows_144 : Cond.fieldLink "StairBows" 144 "StairBows$History" "size" "I" ∈ tb_G := tb_in 145 (by decide +kernel) rfl
theorem ml_StairBows_145 : Cond.methodLink "StairBows" 145 yX2_isOnWay ∈ tb_G := tb_in 383 (by decide +kernel) rfl
theorem ml_StairBows_152 : Cond.methodLink "StairBows" 152 yX3_isAnybodyOnWay ∈ tb_G := tb_in 392 (by decide +kernel) rfl
theorem ml_StairBows_149 : Cond.methodLink "StairBows" 149 yX4_tryOut ∈ tb_G := tb_in 388 (by decide +kernel) rfl
theorem ml_StairBows_155 : Cond.methodLink "StairBows" 155 yX1_append ∈ tb_G := tb_in 408 (by decide +kernel) rfl
theorem ml_StairBows_159 : Cond.methodLink "StairBows" 159 yX0_bringBackInto ∈ tb_G := tb_in 430 (by decide +kernel) rfl
theorem ml_StairBows_162 : Cond.methodLink "StairBows" 162 yX4_isSlot ∈ tb_G := tb_in 438 (by decide +kernel) rfl
theorem mf_StairBows_26 : Cond.fieldLink "StairBows" 26 "StairBows" "slots" "[LStairBows$Staircase;" ∈ tb_G := tb_in 170 (by decide +kernel) rfl
theorem mf_StairBows_30 : Cond.fieldLink "StairBows" 30 "StairBows" "isSaved" "[Z" ∈ tb_G := tb_in 171 (by decide +kernel) rfl
theorem mf_StairBowsModel_31 : Cond.fieldLink "StairBowsModel" 31 "StairBowsModel" "historyLong" "I" ∈ tb_G := tb_in 454 (by decide +kernel) rfl
theorem mf_StairBowsModel_16 : Cond.fieldLink "StairBowsModel" 16 "StairBowsModel" "history" "[I" ∈ tb_G := tb_in 453 (by decide +kernel) rfl
theorem mf_StairBowsModel_7 : Cond.fieldLink "StairBowsModel" 7 "StairBowsModel" "all" "[I" ∈ tb_G := tb_in 451 (by decide +kernel) rfl
theorem mf_StairBowsModel_13 : Cond.fieldLink "StairBowsModel" 13 "StairBowsModel" "kept" "[I" ∈ tb_G := tb_in 452 (by decide +kernel) rfl
theorem ml_StairBowsModel_35 : Cond.methodLink "StairBowsModel" 35 yX5_in ∈ tb_G := tb_in 487 (by decide +kernel) rfl
theorem mk_StairBowsModel_39 : Cond.constantLong "StairBowsModel" 39 (11) ∈ tb_G := tb_in 523 (by decide +kernel) rfl
theorem ml_StairBowsModel_41 : Cond.methodLink "StairBowsModel" 41 yX5_get ∈ tb_G := tb_in 508 (by decide +kernel) rfl
theorem ml_StairBowsModel_45 : Cond.methodLink "StairBowsModel" 45 yX5_isAt ∈ tb_G := tb_in 504 (by decide +kernel) rfl
theorem ml_StairBowsModel_49 : Cond.methodLink "StairBowsModel" 49 yX5_isLanding ∈ tb_G := tb_in 496 (by decide +kernel) rfl
theorem ml_StairBowsModel_53 : Cond.methodLink "StairBowsModel" 53 yX5_peopleAt ∈ tb_G := tb_in 500 (by decide +kernel) rfl
theorem ml_StairBowsModel_57 : Cond.methodLink "StairBowsModel" 57 yX5_way ∈ tb_G := tb_in 583 (by decide +kernel) rfl
theorem ml_StairBowsModel_60 : Cond.methodLink "StairBowsModel" 60 yX5_yields ∈ tb_G := tb_in 599 (by decide +kernel) rfl
theorem ml_StairBowsModel_63 : Cond.methodLink "StairBowsModel" 63 yX5_lays ∈ tb_G := tb_in 536 (by decide +kernel) rfl
theorem mf_StairBowsModel_25 : Cond.fieldLink "StairBowsModel" 25 "StairBowsModel" "did" "[I" ∈ tb_G := tb_in 457 (by decide +kernel) rfl
theorem ml_StairBowsModel_67 : Cond.methodLink "StairBowsModel" 67 yX5_isStep ∈ tb_G := tb_in 520 (by decide +kernel) rfl
theorem ml_StairBowsModel_73 : Cond.methodLink "StairBowsModel" 73 yX5_adds ∈ tb_G := tb_in 607 (by decide +kernel) rfl
theorem ml_StairBowsModel_79 : Cond.methodLink "StairBowsModel" 79 yX5_ends ∈ tb_G := tb_in 587 (by decide +kernel) rfl
theorem ml_StairBowsModel_76 : Cond.methodLink "StairBowsModel" 76 yX5_goesTo ∈ tb_G := tb_in 611 (by decide +kernel) rfl
theorem ml_StairBowsModel_70 : Cond.methodLink "StairBowsModel" 70 yX5_roomAt ∈ tb_G := tb_in 591 (by decide +kernel) rfl
theorem ml_StairBowsModel_83 : Cond.methodLink "StairBowsModel" 83 yX5_nextOf ∈ tb_G := tb_in 579 (by decide +kernel) rfl
theorem ml_StairBowsModel_86 : Cond.methodLink "StairBowsModel" 86 yX5_yielder ∈ tb_G := tb_in 595 (by decide +kernel) rfl
theorem ml_StairBowsModel_89 : Cond.methodLink "StairBowsModel" 89 yX5_makesWay ∈ tb_G := tb_in 603 (by decide +kernel) rfl
theorem ml_StairBowsModel_92 : Cond.methodLink "StairBowsModel" 92 yX5_acts ∈ tb_G := tb_in 575 (by decide +kernel) rfl
theorem mk_StairBowsModel_96 : Cond.constantLong "StairBowsModel" 96 (4) ∈ tb_G := tb_in 486 (by decide +kernel) rfl
theorem mk_StairBowsModel_98 : Cond.constantLong "StairBowsModel" 98 (5) ∈ tb_G := tb_in 490 (by decide +kernel) rfl
theorem mk_StairBowsModel_100 : Cond.constantLong "StairBowsModel" 100 (9) ∈ tb_G := tb_in 491 (by decide +kernel) rfl
theorem ml_StairBowsModel_102 : Cond.methodLink "StairBowsModel" 102 yX5_isSetting ∈ tb_G := tb_in 483 (by decide +kernel) rfl
theorem ml_StairBowsModel_108 : Cond.methodLink "StairBowsModel" 108 yX5_changes ∈ tb_G := tb_in 512 (by decide +kernel) rfl
theorem ml_StairBowsModel_105 : Cond.methodLink "StairBowsModel" 105 yX5_isTooFull ∈ tb_G := tb_in 492 (by decide +kernel) rfl
theorem ml_StairBowsModel_111 : Cond.methodLink "StairBowsModel" 111 yX5_landings ∈ tb_G := tb_in 524 (by decide +kernel) rfl
theorem ml_StairBowsModel_115 : Cond.methodLink "StairBowsModel" 115 yX5_comes ∈ tb_G := tb_in 532 (by decide +kernel) rfl
theorem mf_StairBowsModel_28 : Cond.fieldLink "StairBowsModel" 28 "StairBowsModel" "text" "[I" ∈ tb_G := tb_in 458 (by decide +kernel) rfl
theorem mk_StairBowsModel_172 : Cond.constantLong "StairBowsModel" 172 (49) ∈ tb_G := tb_in 552 (by decide +kernel) rfl
theorem mk_StairBowsModel_174 : Cond.constantLong "StairBowsModel" 174 (57) ∈ tb_G := tb_in 553 (by decide +kernel) rfl
theorem mf_StairBowsModel_121 : Cond.fieldLink "StairBowsModel" 121 "StairBowsModel" "textLong" "I" ∈ tb_G := tb_in 459 (by decide +kernel) rfl
theorem ml_StairBowsModel_176 : Cond.methodLink "StairBowsModel" 176 yX5_isAllowed ∈ tb_G := tb_in 548 (by decide +kernel) rfl
theorem ml_StairBowsModel_118 : Cond.methodLink "StairBowsModel" 118 yX5_fault ∈ tb_G := tb_in 544 (by decide +kernel) rfl
theorem ml_StairBowsModel_124 : Cond.methodLink "StairBowsModel" 124 yX5_isPerson ∈ tb_G := tb_in 558 (by decide +kernel) rfl
theorem mk_StairBowsModel_127 : Cond.constantLong "StairBowsModel" 127 (99) ∈ tb_G := tb_in 566 (by decide +kernel) rfl
theorem ml_StairBowsModel_129 : Cond.methodLink "StairBowsModel" 129 yX5_thatAre ∈ tb_G := tb_in 567 (by decide +kernel) rfl
theorem ml_StairBowsModel_132 : Cond.methodLink "StairBowsModel" 132 yX5_ticks ∈ tb_G := tb_in 571 (by decide +kernel) rfl
theorem mk_StairBowsModel_135 : Cond.constantLong "StairBowsModel" 135 (8) ∈ tb_G := tb_in 619 (by decide +kernel) rfl
theorem ml_StairBowsModel_137 : Cond.methodLink "StairBowsModel" 137 yX5_highestAt ∈ tb_G := tb_in 624 (by decide +kernel) rfl
theorem ml_StairBowsModel_140 : Cond.methodLink "StairBowsModel" 140 yX5_keeps ∈ tb_G := tb_in 632 (by decide +kernel) rfl
theorem ml_StairBowsModel_143 : Cond.methodLink "StairBowsModel" 143 yX5_comesBack ∈ tb_G := tb_in 636 (by decide +kernel) rfl
theorem mk_StairBowsModel_146 : Cond.constantLong "StairBowsModel" 146 (2) ∈ tb_G := tb_in 644 (by decide +kernel) rfl
theorem ml_StairBowsModel_148 : Cond.methodLink "StairBowsModel" 148 yX5_isEmpty ∈ tb_G := tb_in 653 (by decide +kernel) rfl
theorem ml_StairBowsModel_152 : Cond.methodLink "StairBowsModel" 152 yX5_until ∈ tb_G := tb_in 649 (by decide +kernel) rfl
theorem mk_StairBowsModel_155 : Cond.constantLong "StairBowsModel" 155 (200) ∈ tb_G := tb_in 665 (by decide +kernel) rfl
theorem mk_StairBowsModel_157 : Cond.constantLong "StairBowsModel" 157 (3) ∈ tb_G := tb_in 666 (by decide +kernel) rfl
theorem ml_StairBowsModel_159 : Cond.methodLink "StairBowsModel" 159 yX5_ifPassed ∈ tb_G := tb_in 671 (by decide +kernel) rfl
theorem mk_StairBowsModel_162 : Cond.constantLong "StairBowsModel" 162 (255) ∈ tb_G := tb_in 679 (by decide +kernel) rfl
theorem mk_StairBowsModel_164 : Cond.constantLong "StairBowsModel" 164 (33) ∈ tb_G := tb_in 680 (by decide +kernel) rfl
theorem mk_StairBowsModel_166 : Cond.constantLong "StairBowsModel" 166 (126) ∈ tb_G := tb_in 681 (by decide +kernel) rfl
theorem ml_StairBowsModel_168 : Cond.methodLink "StairBowsModel" 168 yX5_charactersOf ∈ tb_G := tb_in 676 (by decide +kernel) rfl
theorem ml_StairBowsModel_179 : Cond.methodLink "StairBowsModel" 179 yX5_isSlot ∈ tb_G := tb_in 695 (by decide +kernel) rfl
theorem mf_StairBowsModel_22 : Cond.fieldLink "StairBowsModel" 22 "StairBowsModel" "isSaved" "[I" ∈ tb_G := tb_in 456 (by decide +kernel) rfl
theorem mf_StairBowsModel_19 : Cond.fieldLink "StairBowsModel" 19 "StairBowsModel" "slots" "[I" ∈ tb_G := tb_in 455 (by decide +kernel) rfl
end
section
/-! DECODE ROWS -/
theorem dX0_dropOldest_0 : decode cX0_dropOldest 0 = .ok (.aload_n 0, 1) := by decide +kernel
theorem dX0_dropOldest_1 : decode cX0_dropOldest 1 = .ok (.getfield 11, 3) := by decide +kernel
theorem dX0_dropOldest_4 : decode cX0_dropOldest 4 = .ok (.iconst 0, 1) := by decide +kernel
theorem dX0_dropOldest_5 : decode cX0_dropOldest 5 = .ok (.aaload, 1) := by decide +kernel
theorem dX0_dropOldest_6 : decode cX0_dropOldest 6 = .ok (.astore_n 1, 1) := by decide +kernel
theorem dX0_dropOldest_7 : decode cX0_dropOldest 7 = .ok (.iconst 1, 1) := by decide +kernel
theorem dX0_dropOldest_8 : decode cX0_dropOldest 8 = .ok (.istore_n 2, 1) := by decide +kernel
theorem dX0_dropOldest_9 : decode cX0_dropOldest 9 = .ok (.iload_n 2, 1) := by decide +kernel
theorem dX0_dropOldest_10 : decode cX0_dropOldest 10 = .ok (.bipush 6, 2) := by decide +kernel
theorem dX0_dropOldest_12 : decode cX0_dropOldest 12 = .ok (.if_icmp .ge 23, 3) := by decide +kernel
theorem dX0_dropOldest_15 : decode cX0_dropOldest 15 = .ok (.aload_n 0, 1) := by decide +kernel
theorem dX0_dropOldest_16 : decode cX0_dropOldest 16 = .ok (.getfield 11, 3) := by decide +kernel
theorem dX0_dropOldest_19 : decode cX0_dropOldest 19 = .ok (.iload_n 2, 1) := by decide +kernel
theorem dX0_dropOldest_20 : decode cX0_dropOldest 20 = .ok (.iconst 1, 1) := by decide +kernel
theorem dX0_dropOldest_21 : decode cX0_dropOldest 21 = .ok (.isub, 1) := by decide +kernel
theorem dX0_dropOldest_22 : decode cX0_dropOldest 22 = .ok (.aload_n 0, 1) := by decide +kernel
theorem dX0_dropOldest_23 : decode cX0_dropOldest 23 = .ok (.getfield 11, 3) := by decide +kernel
theorem dX0_dropOldest_26 : decode cX0_dropOldest 26 = .ok (.iload_n 2, 1) := by decide +kernel
theorem dX0_dropOldest_27 : decode cX0_dropOldest 27 = .ok (.aaload, 1) := by decide +kernel
theorem dX0_dropOldest_28 : decode cX0_dropOldest 28 = .ok (.aastore, 1) := by decide +kernel
theorem dX0_dropOldest_29 : decode cX0_dropOldest 29 = .ok (.iinc 2 1, 3) := by decide +kernel
theorem dX0_dropOldest_32 : decode cX0_dropOldest 32 = .ok (.goto (-23), 3) := by decide +kernel
theorem dX0_dropOldest_35 : decode cX0_dropOldest 35 = .ok (.aload_n 0, 1) := by decide +kernel
theorem dX0_dropOldest_36 : decode cX0_dropOldest 36 = .ok (.getfield 11, 3) := by decide +kernel
theorem dX0_dropOldest_39 : decode cX0_dropOldest 39 = .ok (.iconst 5, 1) := by decide +kernel
theorem dX0_dropOldest_40 : decode cX0_dropOldest 40 = .ok (.aload_n 1, 1) := by decide +kernel
theorem dX0_dropOldest_41 : decode cX0_dropOldest 41 = .ok (.aastore, 1) := by decide +kernel
theorem dX0_dropOldest_42 : decode cX0_dropOldest 42 = .ok (.aload_n 0, 1) := by decide +kernel
theorem dX0_dropOldest_43 : decode cX0_dropOldest 43 = .ok (.dup, 1) := by decide +kernel
theorem dX0_dropOldest_44 : decode cX0_dropOldest 44 = .ok (.getfield 18, 3) := by decide +kernel
theorem dX0_dropOldest_47 : decode cX0_dropOldest 47 = .ok (.iconst 1, 1) := by decide +kernel
theorem dX0_dropOldest_48 : decode cX0_dropOldest 48 = .ok (.isub, 1) := by decide +kernel
theorem dX0_dropOldest_49 : decode cX0_dropOldest 49 = .ok (.putfield 18, 3) := by decide +kernel
theorem dX0_dropOldest_52 : decode cX0_dropOldest 52 = .ok (.return_, 1) := by decide +kernel
theorem dX2_takeFrom_0 : decode cX2_takeFrom 0 = .ok (.aload_n 0, 1) := by decide +kernel
theorem dX2_takeFrom_1 : decode cX2_takeFrom 1 = .ok (.aload_n 1, 1) := by decide +kernel
theorem dX2_takeFrom_2 : decode cX2_takeFrom 2 = .ok (.getfield 9, 3) := by decide +kernel
theorem dX2_takeFrom_5 : decode cX2_takeFrom 5 = .ok (.putfield 9, 3) := by decide +kernel
theorem dX2_takeFrom_8 : decode cX2_takeFrom 8 = .ok (.aload_n 0, 1) := by decide +kernel
theorem dX2_takeFrom_9 : decode cX2_takeFrom 9 = .ok (.aload_n 1, 1) := by decide +kernel
theorem dX2_takeFrom_10 : decode cX2_takeFrom 10 = .ok (.getfield 15, 3) := by decide +kernel
theorem dX2_takeFrom_13 : decode cX2_takeFrom 13 = .ok (.putfield 15, 3) := by decide +kernel
theorem dX2_takeFrom_16 : decode cX2_takeFrom 16 = .ok (.aload_n 0, 1) := by decide +kernel
theorem dX2_takeFrom_17 : decode cX2_takeFrom 17 = .ok (.aload_n 1, 1) := by decide +kernel
theorem dX2_takeFrom_18 : decode cX2_takeFrom 18 = .ok (.getfield 19, 3) := by decide +kernel
theorem dX2_takeFrom_21 : decode cX2_takeFrom 21 = .ok (.putfield 19, 3) := by decide +kernel
theorem dX2_takeFrom_24 : decode cX2_takeFrom 24 = .ok (.aload_n 0, 1) := by decide +kernel
theorem dX2_takeFrom_25 : decode cX2_takeFrom 25 = .ok (.aload_n 1, 1) := by decide +kernel
theorem dX2_takeFrom_26 : decode cX2_takeFrom 26 = .ok (.getfield 22, 3) := by decide +kernel
theorem dX2_takeFrom_29 : decode cX2_takeFrom 29 = .ok (.putfield 22, 3) := by decide +kernel
theorem dX2_takeFrom_32 : decode cX2_takeFrom 32 = .ok (.aload_n 0, 1) := by decide +kernel
theorem dX2_takeFrom_33 : decode cX2_takeFrom 33 = .ok (.aload_n 1, 1) := by decide +kernel
theorem dX2_takeFrom_34 : decode cX2_takeFrom 34 = .ok (.getfield 25, 3) := by decide +kernel
theorem dX2_takeFrom_37 : decode cX2_takeFrom 37 = .ok (.putfield 25, 3) := by decide +kernel
theorem dX2_takeFrom_40 : decode cX2_takeFrom 40 = .ok (.aload_n 0, 1) := by decide +kernel
theorem dX2_takeFrom_41 : decode cX2_takeFrom 41 = .ok (.aload_n 1, 1) := by decide +kernel
theorem dX2_takeFrom_42 : decode cX2_takeFrom 42 = .ok (.getfield 28, 3) := by decide +kernel
theorem dX2_takeFrom_45 : decode cX2_takeFrom 45 = .ok (.putfield 28, 3) := by decide +kernel
theorem dX2_takeFrom_48 : decode cX2_takeFrom 48 = .ok (.aload_n 0, 1) := by decide +kernel
theorem dX2_takeFrom_49 : decode cX2_takeFrom 49 = .ok (.aload_n 1, 1) := by decide +kernel
theorem dX2_takeFrom_50 : decode cX2_takeFrom 50 = .ok (.getfield 31, 3) := by decide +kernel
theorem dX2_takeFrom_53 : decode cX2_takeFrom 53 = .ok (.putfield 31, 3) := by decide +kernel
theorem dX2_takeFrom_56 : decode cX2_takeFrom 56 = .ok (.aload_n 0, 1) := by decide +kernel
theorem dX2_takeFrom_57 : decode cX2_takeFrom 57 = .ok (.aload_n 1, 1) := by decide +kernel
theorem dX2_takeFrom_58 : decode cX2_takeFrom 58 = .ok (.getfield 34, 3) := by decide +kernel
theorem dX2_takeFrom_61 : decode cX2_takeFrom 61 = .ok (.putfield 34, 3) := by decide +kernel
theorem dX2_takeFrom_64 : decode cX2_takeFrom 64 = .ok (.aload_n 0, 1) := by decide +kernel
theorem dX2_takeFrom_65 : decode cX2_takeFrom 65 = .ok (.aload_n 1, 1) := by decide +kernel
theorem dX2_takeFrom_66 : decode cX2_takeFrom 66 = .ok (.getfield 37, 3) := by decide +kernel
theorem dX2_takeFrom_69 : decode cX2_takeFrom 69 = .ok (.putfield 37, 3) := by decide +kernel
theorem dX2_takeFrom_72 : decode cX2_takeFrom 72 = .ok (.return_, 1) := by decide +kernel
theorem dX3_takeFrom_0 : decode cX3_takeFrom 0 = .ok (.aload_n 1, 1) := by decide +kernel
theorem dX3_takeFrom_1 : decode cX3_takeFrom 1 = .ok (.getfield 13, 3) := by decide +kernel
theorem dX3_takeFrom_4 : decode cX3_takeFrom 4 = .ok (.iconst 0, 1) := by decide +kernel
theorem dX3_takeFrom_5 : decode cX3_takeFrom 5 = .ok (.aload_n 0, 1) := by decide +kernel
theorem dX3_takeFrom_6 : decode cX3_takeFrom 6 = .ok (.getfield 13, 3) := by decide +kernel
theorem dX3_takeFrom_9 : decode cX3_takeFrom 9 = .ok (.iconst 0, 1) := by decide +kernel
theorem dX3_takeFrom_10 : decode cX3_takeFrom 10 = .ok (.aload_n 0, 1) := by decide +kernel
theorem dX3_takeFrom_11 : decode cX3_takeFrom 11 = .ok (.getfield 13, 3) := by decide +kernel
theorem dX3_takeFrom_14 : decode cX3_takeFrom 14 = .ok (.arraylength, 1) := by decide +kernel
theorem dX3_takeFrom_15 : decode cX3_takeFrom 15 = .ok (.invokestatic 32, 3) := by decide +kernel
theorem dX3_takeFrom_18 : decode cX3_takeFrom 18 = .ok (.aload_n 1, 1) := by decide +kernel
theorem dX3_takeFrom_19 : decode cX3_takeFrom 19 = .ok (.getfield 24, 3) := by decide +kernel
theorem dX3_takeFrom_22 : decode cX3_takeFrom 22 = .ok (.iconst 0, 1) := by decide +kernel
theorem dX3_takeFrom_23 : decode cX3_takeFrom 23 = .ok (.aload_n 0, 1) := by decide +kernel
theorem dX3_takeFrom_24 : decode cX3_takeFrom 24 = .ok (.getfield 24, 3) := by decide +kernel
theorem dX3_takeFrom_27 : decode cX3_takeFrom 27 = .ok (.iconst 0, 1) := by decide +kernel
theorem dX3_takeFrom_28 : decode cX3_takeFrom 28 = .ok (.aload_n 0, 1) := by decide +kernel
theorem dX3_takeFrom_29 : decode cX3_takeFrom 29 = .ok (.getfield 24, 3) := by decide +kernel
theorem dX3_takeFrom_32 : decode cX3_takeFrom 32 = .ok (.arraylength, 1) := by decide +kernel
theorem dX3_takeFrom_33 : decode cX3_takeFrom 33 = .ok (.invokestatic 32, 3) := by decide +kernel
theorem dX3_takeFrom_36 : decode cX3_takeFrom 36 = .ok (.aload_n 0, 1) := by decide +kernel
theorem dX3_takeFrom_37 : decode cX3_takeFrom 37 = .ok (.aload_n 1, 1) := by decide +kernel
theorem dX3_takeFrom_38 : decode cX3_takeFrom 38 = .ok (.getfield 27, 3) := by decide +kernel
theorem dX3_takeFrom_41 : decode cX3_takeFrom 41 = .ok (.putfield 27, 3) := by decide +kernel
theorem dX3_takeFrom_44 : decode cX3_takeFrom 44 = .ok (.aload_n 0, 1) := by decide +kernel
theorem dX3_takeFrom_45 : decode cX3_takeFrom 45 = .ok (.aload_n 1, 1) := by decide +kernel
theorem dX3_takeFrom_46 : decode cX3_takeFrom 46 = .ok (.getfield 38, 3) := by decide +kernel
theorem dX3_takeFrom_49 : decode cX3_takeFrom 49 = .ok (.putfield 38, 3) := by decide +kernel
theorem dX3_takeFrom_52 : decode cX3_takeFrom 52 = .ok (.aload_n 0, 1) := by decide +kernel
theorem dX3_takeFrom_53 : decode cX3_takeFrom 53 = .ok (.aload_n 1, 1) := by decide +kernel
theorem dX3_takeFrom_54 : decode cX3_takeFrom 54 = .ok (.getfield 41, 3) := by decide +kernel
theorem dX3_takeFrom_57 : decode cX3_takeFrom 57 = .ok (.putfield 41, 3) := by decide +kernel
theorem dX3_takeFrom_60 : decode cX3_takeFrom 60 = .ok (.iconst 0, 1) := by decide +kernel
theorem dX3_takeFrom_61 : decode cX3_takeFrom 61 = .ok (.istore_n 2, 1) := by decide +kernel
theorem dX3_takeFrom_62 : decode cX3_takeFrom 62 = .ok (.iload_n 2, 1) := by decide +kernel
theorem dX3_takeFrom_63 : decode cX3_takeFrom 63 = .ok (.aload_n 0, 1) := by decide +kernel
theorem dX3_takeFrom_64 : decode cX3_takeFrom 64 = .ok (.getfield 38, 3) := by decide +kernel
theorem dX3_takeFrom_67 : decode cX3_takeFrom 67 = .ok (.if_icmp .ge 24, 3) := by decide +kernel
theorem dX3_takeFrom_70 : decode cX3_takeFrom 70 = .ok (.aload_n 0, 1) := by decide +kernel
theorem dX3_takeFrom_71 : decode cX3_takeFrom 71 = .ok (.getfield 20, 3) := by decide +kernel
theorem dX3_takeFrom_74 : decode cX3_takeFrom 74 = .ok (.iload_n 2, 1) := by decide +kernel
theorem dX3_takeFrom_75 : decode cX3_takeFrom 75 = .ok (.aaload, 1) := by decide +kernel
theorem dX3_takeFrom_76 : decode cX3_takeFrom 76 = .ok (.aload_n 1, 1) := by decide +kernel
theorem dX3_takeFrom_77 : decode cX3_takeFrom 77 = .ok (.getfield 20, 3) := by decide +kernel
theorem dX3_takeFrom_80 : decode cX3_takeFrom 80 = .ok (.iload_n 2, 1) := by decide +kernel
theorem dX3_takeFrom_81 : decode cX3_takeFrom 81 = .ok (.aaload, 1) := by decide +kernel
theorem dX3_takeFrom_82 : decode cX3_takeFrom 82 = .ok (.invokevirtual 44, 3) := by decide +kernel
theorem dX3_takeFrom_85 : decode cX3_takeFrom 85 = .ok (.iinc 2 1, 3) := by decide +kernel
theorem dX3_takeFrom_88 : decode cX3_takeFrom 88 = .ok (.goto (-26), 3) := by decide +kernel
theorem dX3_takeFrom_91 : decode cX3_takeFrom 91 = .ok (.return_, 1) := by decide +kernel
theorem dX0_keep_0 : decode cX0_keep 0 = .ok (.aload_n 0, 1) := by decide +kernel
theorem dX0_keep_1 : decode cX0_keep 1 = .ok (.getfield 18, 3) := by decide +kernel
theorem dX0_keep_4 : decode cX0_keep 4 = .ok (.bipush 6, 2) := by decide +kernel
theorem dX0_keep_6 : decode cX0_keep 6 = .ok (.if_icmp .ne 7, 3) := by decide +kernel
theorem dX0_keep_9 : decode cX0_keep 9 = .ok (.aload_n 0, 1) := by decide +kernel
theorem dX0_keep_10 : decode cX0_keep 10 = .ok (.invokevirtual 22, 3) := by decide +kernel
theorem dX0_keep_13 : decode cX0_keep 13 = .ok (.aload_n 0, 1) := by decide +kernel
theorem dX0_keep_14 : decode cX0_keep 14 = .ok (.getfield 18, 3) := by decide +kernel
theorem dX0_keep_17 : decode cX0_keep 17 = .ok (.ifCond .lt 35, 3) := by decide +kernel
theorem dX0_keep_20 : decode cX0_keep 20 = .ok (.aload_n 0, 1) := by decide +kernel
theorem dX0_keep_21 : decode cX0_keep 21 = .ok (.getfield 18, 3) := by decide +kernel
theorem dX0_keep_24 : decode cX0_keep 24 = .ok (.bipush 6, 2) := by decide +kernel
theorem dX0_keep_26 : decode cX0_keep 26 = .ok (.if_icmp .ge 26, 3) := by decide +kernel
theorem dX0_keep_29 : decode cX0_keep 29 = .ok (.aload_n 0, 1) := by decide +kernel
theorem dX0_keep_30 : decode cX0_keep 30 = .ok (.getfield 11, 3) := by decide +kernel
theorem dX0_keep_33 : decode cX0_keep 33 = .ok (.aload_n 0, 1) := by decide +kernel
theorem dX0_keep_34 : decode cX0_keep 34 = .ok (.getfield 18, 3) := by decide +kernel
theorem dX0_keep_37 : decode cX0_keep 37 = .ok (.aaload, 1) := by decide +kernel
theorem dX0_keep_38 : decode cX0_keep 38 = .ok (.aload_n 1, 1) := by decide +kernel
theorem dX0_keep_39 : decode cX0_keep 39 = .ok (.invokevirtual 25, 3) := by decide +kernel
theorem dX0_keep_42 : decode cX0_keep 42 = .ok (.aload_n 0, 1) := by decide +kernel
theorem dX0_keep_43 : decode cX0_keep 43 = .ok (.dup, 1) := by decide +kernel
theorem dX0_keep_44 : decode cX0_keep 44 = .ok (.getfield 18, 3) := by decide +kernel
theorem dX0_keep_47 : decode cX0_keep 47 = .ok (.iconst 1, 1) := by decide +kernel
theorem dX0_keep_48 : decode cX0_keep 48 = .ok (.iadd, 1) := by decide +kernel
theorem dX0_keep_49 : decode cX0_keep 49 = .ok (.putfield 18, 3) := by decide +kernel
theorem dX0_keep_52 : decode cX0_keep 52 = .ok (.return_, 1) := by decide +kernel
theorem dX0_bringBackInto_0 : decode cX0_bringBackInto 0 = .ok (.aload_n 0, 1) := by decide +kernel
theorem dX0_bringBackInto_1 : decode cX0_bringBackInto 1 = .ok (.getfield 18, 3) := by decide +kernel
theorem dX0_bringBackInto_4 : decode cX0_bringBackInto 4 = .ok (.ifCond .le 35, 3) := by decide +kernel
theorem dX0_bringBackInto_7 : decode cX0_bringBackInto 7 = .ok (.aload_n 0, 1) := by decide +kernel
theorem dX0_bringBackInto_8 : decode cX0_bringBackInto 8 = .ok (.getfield 18, 3) := by decide +kernel
theorem dX0_bringBackInto_11 : decode cX0_bringBackInto 11 = .ok (.bipush 6, 2) := by decide +kernel
theorem dX0_bringBackInto_13 : decode cX0_bringBackInto 13 = .ok (.if_icmp .gt 26, 3) := by decide +kernel
theorem dX0_bringBackInto_16 : decode cX0_bringBackInto 16 = .ok (.aload_n 0, 1) := by decide +kernel
theorem dX0_bringBackInto_17 : decode cX0_bringBackInto 17 = .ok (.dup, 1) := by decide +kernel
theorem dX0_bringBackInto_18 : decode cX0_bringBackInto 18 = .ok (.getfield 18, 3) := by decide +kernel
theorem dX0_bringBackInto_21 : decode cX0_bringBackInto 21 = .ok (.iconst 1, 1) := by decide +kernel
theorem dX0_bringBackInto_22 : decode cX0_bringBackInto 22 = .ok (.isub, 1) := by decide +kernel
theorem dX0_bringBackInto_23 : decode cX0_bringBackInto 23 = .ok (.putfield 18, 3) := by decide +kernel
theorem dX0_bringBackInto_26 : decode cX0_bringBackInto 26 = .ok (.aload_n 1, 1) := by decide +kernel
theorem dX0_bringBackInto_27 : decode cX0_bringBackInto 27 = .ok (.aload_n 0, 1) := by decide +kernel
theorem dX0_bringBackInto_28 : decode cX0_bringBackInto 28 = .ok (.getfield 11, 3) := by decide +kernel
theorem dX0_bringBackInto_31 : decode cX0_bringBackInto 31 = .ok (.aload_n 0, 1) := by decide +kernel
theorem dX0_bringBackInto_32 : decode cX0_bringBackInto 32 = .ok (.getfield 18, 3) := by decide +kernel
theorem dX0_bringBackInto_35 : decode cX0_bringBackInto 35 = .ok (.aaload, 1) := by decide +kernel
theorem dX0_bringBackInto_36 : decode cX0_bringBackInto 36 = .ok (.invokevirtual 25, 3) := by decide +kernel
theorem dX0_bringBackInto_39 : decode cX0_bringBackInto 39 = .ok (.return_, 1) := by decide +kernel
theorem dX1_charactersIn_0 : decode cX1_charactersIn 0 = .ok (.iconst 0, 1) := by decide +kernel
theorem dX1_charactersIn_1 : decode cX1_charactersIn 1 = .ok (.istore_n 2, 1) := by decide +kernel
theorem dX1_charactersIn_2 : decode cX1_charactersIn 2 = .ok (.lload_n 0, 1) := by decide +kernel
theorem dX1_charactersIn_3 : decode cX1_charactersIn 3 = .ok (.lstore_n 3, 1) := by decide +kernel
theorem dX1_charactersIn_4 : decode cX1_charactersIn 4 = .ok (.lload_n 3, 1) := by decide +kernel
theorem dX1_charactersIn_5 : decode cX1_charactersIn 5 = .ok (.lconst 0, 1) := by decide +kernel
theorem dX1_charactersIn_6 : decode cX1_charactersIn 6 = .ok (.lcmp, 1) := by decide +kernel
theorem dX1_charactersIn_7 : decode cX1_charactersIn 7 = .ok (.ifCond .eq 47, 3) := by decide +kernel
theorem dX1_charactersIn_10 : decode cX1_charactersIn 10 = .ok (.iload_n 2, 1) := by decide +kernel
theorem dX1_charactersIn_11 : decode cX1_charactersIn 11 = .ok (.bipush 8, 2) := by decide +kernel
theorem dX1_charactersIn_13 : decode cX1_charactersIn 13 = .ok (.if_icmp .ge 41, 3) := by decide +kernel
theorem dX1_charactersIn_16 : decode cX1_charactersIn 16 = .ok (.lload_n 3, 1) := by decide +kernel
theorem dX1_charactersIn_17 : decode cX1_charactersIn 17 = .ok (.ldc2_w 23, 3) := by decide +kernel
theorem dX1_charactersIn_20 : decode cX1_charactersIn 20 = .ok (.land, 1) := by decide +kernel
theorem dX1_charactersIn_21 : decode cX1_charactersIn 21 = .ok (.lstore 5, 2) := by decide +kernel
theorem dX1_charactersIn_23 : decode cX1_charactersIn 23 = .ok (.lload 5, 2) := by decide +kernel
theorem dX1_charactersIn_25 : decode cX1_charactersIn 25 = .ok (.ldc2_w 25, 3) := by decide +kernel
theorem dX1_charactersIn_28 : decode cX1_charactersIn 28 = .ok (.lcmp, 1) := by decide +kernel
theorem dX1_charactersIn_29 : decode cX1_charactersIn 29 = .ok (.ifCond .lt 12, 3) := by decide +kernel
theorem dX1_charactersIn_32 : decode cX1_charactersIn 32 = .ok (.lload 5, 2) := by decide +kernel
theorem dX1_charactersIn_34 : decode cX1_charactersIn 34 = .ok (.ldc2_w 27, 3) := by decide +kernel
theorem dX1_charactersIn_37 : decode cX1_charactersIn 37 = .ok (.lcmp, 1) := by decide +kernel
theorem dX1_charactersIn_38 : decode cX1_charactersIn 38 = .ok (.ifCond .le 5, 3) := by decide +kernel
theorem dX1_charactersIn_41 : decode cX1_charactersIn 41 = .ok (.iconst 0, 1) := by decide +kernel
theorem dX1_charactersIn_42 : decode cX1_charactersIn 42 = .ok (.ireturn, 1) := by decide +kernel
theorem dX1_charactersIn_43 : decode cX1_charactersIn 43 = .ok (.lload_n 3, 1) := by decide +kernel
theorem dX1_charactersIn_44 : decode cX1_charactersIn 44 = .ok (.bipush 8, 2) := by decide +kernel
theorem dX1_charactersIn_46 : decode cX1_charactersIn 46 = .ok (.lushr, 1) := by decide +kernel
theorem dX1_charactersIn_47 : decode cX1_charactersIn 47 = .ok (.lstore_n 3, 1) := by decide +kernel
theorem dX1_charactersIn_48 : decode cX1_charactersIn 48 = .ok (.iinc 2 1, 3) := by decide +kernel
theorem dX1_charactersIn_51 : decode cX1_charactersIn 51 = .ok (.goto (-47), 3) := by decide +kernel
theorem dX1_charactersIn_54 : decode cX1_charactersIn 54 = .ok (.iload_n 2, 1) := by decide +kernel
theorem dX1_charactersIn_55 : decode cX1_charactersIn 55 = .ok (.ireturn, 1) := by decide +kernel
theorem dX1_append_0 : decode cX1_append 0 = .ok (.lload_n 1, 1) := by decide +kernel
theorem dX1_append_1 : decode cX1_append 1 = .ok (.invokestatic 15, 3) := by decide +kernel
theorem dX1_append_4 : decode cX1_append 4 = .ok (.istore_n 3, 1) := by decide +kernel
theorem dX1_append_5 : decode cX1_append 5 = .ok (.iload_n 3, 1) := by decide +kernel
theorem dX1_append_6 : decode cX1_append 6 = .ok (.ifCond .ne 6, 3) := by decide +kernel
theorem dX1_append_9 : decode cX1_append 9 = .ok (.bipush (-2), 2) := by decide +kernel
theorem dX1_append_11 : decode cX1_append 11 = .ok (.ireturn, 1) := by decide +kernel
theorem dX1_append_12 : decode cX1_append 12 = .ok (.aload_n 0, 1) := by decide +kernel
theorem dX1_append_13 : decode cX1_append 13 = .ok (.getfield 19, 3) := by decide +kernel
theorem dX1_append_16 : decode cX1_append 16 = .ok (.iload_n 3, 1) := by decide +kernel
theorem dX1_append_17 : decode cX1_append 17 = .ok (.iadd, 1) := by decide +kernel
theorem dX1_append_18 : decode cX1_append 18 = .ok (.bipush 60, 2) := by decide +kernel
theorem dX1_append_20 : decode cX1_append 20 = .ok (.if_icmp .le 6, 3) := by decide +kernel
theorem dX1_append_23 : decode cX1_append 23 = .ok (.bipush (-4), 2) := by decide +kernel
theorem dX1_append_25 : decode cX1_append 25 = .ok (.ireturn, 1) := by decide +kernel
theorem dX1_append_26 : decode cX1_append 26 = .ok (.iconst 0, 1) := by decide +kernel
theorem dX1_append_27 : decode cX1_append 27 = .ok (.istore 4, 2) := by decide +kernel
theorem dX1_append_29 : decode cX1_append 29 = .ok (.iload 4, 2) := by decide +kernel
theorem dX1_append_31 : decode cX1_append 31 = .ok (.iload_n 3, 1) := by decide +kernel
theorem dX1_append_32 : decode cX1_append 32 = .ok (.if_icmp .ge 38, 3) := by decide +kernel
theorem dX1_append_35 : decode cX1_append 35 = .ok (.aload_n 0, 1) := by decide +kernel
theorem dX1_append_36 : decode cX1_append 36 = .ok (.getfield 9, 3) := by decide +kernel
theorem dX1_append_39 : decode cX1_append 39 = .ok (.aload_n 0, 1) := by decide +kernel
theorem dX1_append_40 : decode cX1_append 40 = .ok (.getfield 19, 3) := by decide +kernel
theorem dX1_append_43 : decode cX1_append 43 = .ok (.iload_n 3, 1) := by decide +kernel
theorem dX1_append_44 : decode cX1_append 44 = .ok (.iadd, 1) := by decide +kernel
theorem dX1_append_45 : decode cX1_append 45 = .ok (.iconst 1, 1) := by decide +kernel
theorem dX1_append_46 : decode cX1_append 46 = .ok (.isub, 1) := by decide +kernel
theorem dX1_append_47 : decode cX1_append 47 = .ok (.iload 4, 2) := by decide +kernel
theorem dX1_append_49 : decode cX1_append 49 = .ok (.isub, 1) := by decide +kernel
theorem dX1_append_50 : decode cX1_append 50 = .ok (.lload_n 1, 1) := by decide +kernel
theorem dX1_append_51 : decode cX1_append 51 = .ok (.bipush 8, 2) := by decide +kernel
theorem dX1_append_53 : decode cX1_append 53 = .ok (.iload 4, 2) := by decide +kernel
theorem dX1_append_55 : decode cX1_append 55 = .ok (.imul, 1) := by decide +kernel
theorem dX1_append_56 : decode cX1_append 56 = .ok (.lushr, 1) := by decide +kernel
theorem dX1_append_57 : decode cX1_append 57 = .ok (.ldc2_w 23, 3) := by decide +kernel
theorem dX1_append_60 : decode cX1_append 60 = .ok (.land, 1) := by decide +kernel
theorem dX1_append_61 : decode cX1_append 61 = .ok (.l2i, 1) := by decide +kernel
theorem dX1_append_62 : decode cX1_append 62 = .ok (.i2c, 1) := by decide +kernel
theorem dX1_append_63 : decode cX1_append 63 = .ok (.castore, 1) := by decide +kernel
theorem dX1_append_64 : decode cX1_append 64 = .ok (.iinc 4 1, 3) := by decide +kernel
theorem dX1_append_67 : decode cX1_append 67 = .ok (.goto (-38), 3) := by decide +kernel
theorem dX1_append_70 : decode cX1_append 70 = .ok (.aload_n 0, 1) := by decide +kernel
theorem dX1_append_71 : decode cX1_append 71 = .ok (.dup, 1) := by decide +kernel
theorem dX1_append_72 : decode cX1_append 72 = .ok (.getfield 19, 3) := by decide +kernel
theorem dX1_append_75 : decode cX1_append 75 = .ok (.iload_n 3, 1) := by decide +kernel
theorem dX1_append_76 : decode cX1_append 76 = .ok (.iadd, 1) := by decide +kernel
theorem dX1_append_77 : decode cX1_append 77 = .ok (.putfield 19, 3) := by decide +kernel
theorem dX1_append_80 : decode cX1_append 80 = .ok (.aload_n 0, 1) := by decide +kernel
theorem dX1_append_81 : decode cX1_append 81 = .ok (.getfield 19, 3) := by decide +kernel
theorem dX1_append_84 : decode cX1_append 84 = .ok (.ireturn, 1) := by decide +kernel
theorem dX1_canStandAt_0 : decode cX1_canStandAt 0 = .ok (.aload_n 0, 1) := by decide +kernel
theorem dX1_canStandAt_1 : decode cX1_canStandAt 1 = .ok (.getfield 9, 3) := by decide +kernel
theorem dX1_canStandAt_4 : decode cX1_canStandAt 4 = .ok (.iload_n 1, 1) := by decide +kernel
theorem dX1_canStandAt_5 : decode cX1_canStandAt 5 = .ok (.caload, 1) := by decide +kernel
theorem dX1_canStandAt_6 : decode cX1_canStandAt 6 = .ok (.istore_n 2, 1) := by decide +kernel
theorem dX1_canStandAt_7 : decode cX1_canStandAt 7 = .ok (.iload_n 1, 1) := by decide +kernel
theorem dX1_canStandAt_8 : decode cX1_canStandAt 8 = .ok (.iconst 2, 1) := by decide +kernel
theorem dX1_canStandAt_9 : decode cX1_canStandAt 9 = .ok (.irem, 1) := by decide +kernel
theorem dX1_canStandAt_10 : decode cX1_canStandAt 10 = .ok (.ifCond .ne 21, 3) := by decide +kernel
theorem dX1_canStandAt_13 : decode cX1_canStandAt 13 = .ok (.iload_n 2, 1) := by decide +kernel
theorem dX1_canStandAt_14 : decode cX1_canStandAt 14 = .ok (.bipush 117, 2) := by decide +kernel
theorem dX1_canStandAt_16 : decode cX1_canStandAt 16 = .ok (.if_icmp .eq 9, 3) := by decide +kernel
theorem dX1_canStandAt_19 : decode cX1_canStandAt 19 = .ok (.iload_n 2, 1) := by decide +kernel
theorem dX1_canStandAt_20 : decode cX1_canStandAt 20 = .ok (.bipush 100, 2) := by decide +kernel
theorem dX1_canStandAt_22 : decode cX1_canStandAt 22 = .ok (.if_icmp .ne 7, 3) := by decide +kernel
theorem dX1_canStandAt_25 : decode cX1_canStandAt 25 = .ok (.iconst 1, 1) := by decide +kernel
theorem dX1_canStandAt_26 : decode cX1_canStandAt 26 = .ok (.goto 4, 3) := by decide +kernel
theorem dX1_canStandAt_29 : decode cX1_canStandAt 29 = .ok (.iconst 0, 1) := by decide +kernel
theorem dX1_canStandAt_30 : decode cX1_canStandAt 30 = .ok (.ireturn, 1) := by decide +kernel
theorem dX1_canStandAt_31 : decode cX1_canStandAt 31 = .ok (.iload_n 2, 1) := by decide +kernel
theorem dX1_canStandAt_32 : decode cX1_canStandAt 32 = .ok (.bipush 49, 2) := by decide +kernel
theorem dX1_canStandAt_34 : decode cX1_canStandAt 34 = .ok (.if_icmp .lt 13, 3) := by decide +kernel
theorem dX1_canStandAt_37 : decode cX1_canStandAt 37 = .ok (.iload_n 2, 1) := by decide +kernel
theorem dX1_canStandAt_38 : decode cX1_canStandAt 38 = .ok (.bipush 57, 2) := by decide +kernel
theorem dX1_canStandAt_40 : decode cX1_canStandAt 40 = .ok (.if_icmp .gt 7, 3) := by decide +kernel
theorem dX1_canStandAt_43 : decode cX1_canStandAt 43 = .ok (.iconst 1, 1) := by decide +kernel
theorem dX1_canStandAt_44 : decode cX1_canStandAt 44 = .ok (.goto 4, 3) := by decide +kernel
theorem dX1_canStandAt_47 : decode cX1_canStandAt 47 = .ok (.iconst 0, 1) := by decide +kernel
theorem dX1_canStandAt_48 : decode cX1_canStandAt 48 = .ok (.ireturn, 1) := by decide +kernel
theorem dX1_firstFault_0 : decode cX1_firstFault 0 = .ok (.iconst 0, 1) := by decide +kernel
theorem dX1_firstFault_1 : decode cX1_firstFault 1 = .ok (.istore_n 1, 1) := by decide +kernel
theorem dX1_firstFault_2 : decode cX1_firstFault 2 = .ok (.iload_n 1, 1) := by decide +kernel
theorem dX1_firstFault_3 : decode cX1_firstFault 3 = .ok (.aload_n 0, 1) := by decide +kernel
theorem dX1_firstFault_4 : decode cX1_firstFault 4 = .ok (.getfield 19, 3) := by decide +kernel
theorem dX1_firstFault_7 : decode cX1_firstFault 7 = .ok (.if_icmp .ge 19, 3) := by decide +kernel
theorem dX1_firstFault_10 : decode cX1_firstFault 10 = .ok (.aload_n 0, 1) := by decide +kernel
theorem dX1_firstFault_11 : decode cX1_firstFault 11 = .ok (.iload_n 1, 1) := by decide +kernel
theorem dX1_firstFault_12 : decode cX1_firstFault 12 = .ok (.invokevirtual 29, 3) := by decide +kernel
theorem dX1_firstFault_15 : decode cX1_firstFault 15 = .ok (.ifCond .ne 5, 3) := by decide +kernel
theorem dX1_firstFault_18 : decode cX1_firstFault 18 = .ok (.iload_n 1, 1) := by decide +kernel
theorem dX1_firstFault_19 : decode cX1_firstFault 19 = .ok (.ireturn, 1) := by decide +kernel
theorem dX1_firstFault_20 : decode cX1_firstFault 20 = .ok (.iinc 1 1, 3) := by decide +kernel
theorem dX1_firstFault_23 : decode cX1_firstFault 23 = .ok (.goto (-21), 3) := by decide +kernel
theorem dX1_firstFault_26 : decode cX1_firstFault 26 = .ok (.aload_n 0, 1) := by decide +kernel
theorem dX1_firstFault_27 : decode cX1_firstFault 27 = .ok (.getfield 19, 3) := by decide +kernel
theorem dX1_firstFault_30 : decode cX1_firstFault 30 = .ok (.ifCond .eq 13, 3) := by decide +kernel
theorem dX1_firstFault_33 : decode cX1_firstFault 33 = .ok (.aload_n 0, 1) := by decide +kernel
theorem dX1_firstFault_34 : decode cX1_firstFault 34 = .ok (.getfield 19, 3) := by decide +kernel
theorem dX1_firstFault_37 : decode cX1_firstFault 37 = .ok (.iconst 2, 1) := by decide +kernel
theorem dX1_firstFault_38 : decode cX1_firstFault 38 = .ok (.irem, 1) := by decide +kernel
theorem dX1_firstFault_39 : decode cX1_firstFault 39 = .ok (.iconst 1, 1) := by decide +kernel
theorem dX1_firstFault_40 : decode cX1_firstFault 40 = .ok (.if_icmp .ne 10, 3) := by decide +kernel
theorem dX1_firstFault_43 : decode cX1_firstFault 43 = .ok (.aload_n 0, 1) := by decide +kernel
theorem dX1_firstFault_44 : decode cX1_firstFault 44 = .ok (.getfield 19, 3) := by decide +kernel
theorem dX1_firstFault_47 : decode cX1_firstFault 47 = .ok (.goto 5, 3) := by decide +kernel
theorem dX1_firstFault_50 : decode cX1_firstFault 50 = .ok (.bipush (-6), 2) := by decide +kernel
theorem dX1_firstFault_52 : decode cX1_firstFault 52 = .ok (.ireturn, 1) := by decide +kernel
theorem dX1_isUp_0 : decode cX1_isUp 0 = .ok (.iconst 2, 1) := by decide +kernel
theorem dX1_isUp_1 : decode cX1_isUp 1 = .ok (.iload_n 1, 1) := by decide +kernel
theorem dX1_isUp_2 : decode cX1_isUp 2 = .ok (.imul, 1) := by decide +kernel
theorem dX1_isUp_3 : decode cX1_isUp 3 = .ok (.istore_n 2, 1) := by decide +kernel
theorem dX1_isUp_4 : decode cX1_isUp 4 = .ok (.iload_n 2, 1) := by decide +kernel
theorem dX1_isUp_5 : decode cX1_isUp 5 = .ok (.ifCond .lt 26, 3) := by decide +kernel
theorem dX1_isUp_8 : decode cX1_isUp 8 = .ok (.iload_n 2, 1) := by decide +kernel
theorem dX1_isUp_9 : decode cX1_isUp 9 = .ok (.aload_n 0, 1) := by decide +kernel
theorem dX1_isUp_10 : decode cX1_isUp 10 = .ok (.getfield 19, 3) := by decide +kernel
theorem dX1_isUp_13 : decode cX1_isUp 13 = .ok (.if_icmp .ge 18, 3) := by decide +kernel
theorem dX1_isUp_16 : decode cX1_isUp 16 = .ok (.aload_n 0, 1) := by decide +kernel
theorem dX1_isUp_17 : decode cX1_isUp 17 = .ok (.getfield 9, 3) := by decide +kernel
theorem dX1_isUp_20 : decode cX1_isUp 20 = .ok (.iload_n 2, 1) := by decide +kernel
theorem dX1_isUp_21 : decode cX1_isUp 21 = .ok (.caload, 1) := by decide +kernel
theorem dX1_isUp_22 : decode cX1_isUp 22 = .ok (.bipush 117, 2) := by decide +kernel
theorem dX1_isUp_24 : decode cX1_isUp 24 = .ok (.if_icmp .ne 7, 3) := by decide +kernel
theorem dX1_isUp_27 : decode cX1_isUp 27 = .ok (.iconst 1, 1) := by decide +kernel
theorem dX1_isUp_28 : decode cX1_isUp 28 = .ok (.goto 4, 3) := by decide +kernel
theorem dX1_isUp_31 : decode cX1_isUp 31 = .ok (.iconst 0, 1) := by decide +kernel
theorem dX1_isUp_32 : decode cX1_isUp 32 = .ok (.ireturn, 1) := by decide +kernel
theorem dX1_rankOf_0 : decode cX1_rankOf 0 = .ok (.iconst 2, 1) := by decide +kernel
theorem dX1_rankOf_1 : decode cX1_rankOf 1 = .ok (.iload_n 1, 1) := by decide +kernel
theorem dX1_rankOf_2 : decode cX1_rankOf 2 = .ok (.imul, 1) := by decide +kernel
theorem dX1_rankOf_3 : decode cX1_rankOf 3 = .ok (.iconst 1, 1) := by decide +kernel
theorem dX1_rankOf_4 : decode cX1_rankOf 4 = .ok (.iadd, 1) := by decide +kernel
theorem dX1_rankOf_5 : decode cX1_rankOf 5 = .ok (.istore_n 2, 1) := by decide +kernel
theorem dX1_rankOf_6 : decode cX1_rankOf 6 = .ok (.iload_n 2, 1) := by decide +kernel
theorem dX1_rankOf_7 : decode cX1_rankOf 7 = .ok (.iconst 1, 1) := by decide +kernel
theorem dX1_rankOf_8 : decode cX1_rankOf 8 = .ok (.if_icmp .lt 23, 3) := by decide +kernel
theorem dX1_rankOf_11 : decode cX1_rankOf 11 = .ok (.iload_n 2, 1) := by decide +kernel
theorem dX1_rankOf_12 : decode cX1_rankOf 12 = .ok (.aload_n 0, 1) := by decide +kernel
theorem dX1_rankOf_13 : decode cX1_rankOf 13 = .ok (.getfield 19, 3) := by decide +kernel
theorem dX1_rankOf_16 : decode cX1_rankOf 16 = .ok (.if_icmp .ge 15, 3) := by decide +kernel
theorem dX1_rankOf_19 : decode cX1_rankOf 19 = .ok (.aload_n 0, 1) := by decide +kernel
theorem dX1_rankOf_20 : decode cX1_rankOf 20 = .ok (.getfield 9, 3) := by decide +kernel
theorem dX1_rankOf_23 : decode cX1_rankOf 23 = .ok (.iload_n 2, 1) := by decide +kernel
theorem dX1_rankOf_24 : decode cX1_rankOf 24 = .ok (.caload, 1) := by decide +kernel
theorem dX1_rankOf_25 : decode cX1_rankOf 25 = .ok (.bipush 48, 2) := by decide +kernel
theorem dX1_rankOf_27 : decode cX1_rankOf 27 = .ok (.isub, 1) := by decide +kernel
theorem dX1_rankOf_28 : decode cX1_rankOf 28 = .ok (.goto 4, 3) := by decide +kernel
theorem dX1_rankOf_31 : decode cX1_rankOf 31 = .ok (.iconst 1, 1) := by decide +kernel
theorem dX1_rankOf_32 : decode cX1_rankOf 32 = .ok (.ireturn, 1) := by decide +kernel
theorem dX2_enterHall_0 : decode cX2_enterHall 0 = .ok (.aload_n 0, 1) := by decide +kernel
theorem dX2_enterHall_1 : decode cX2_enterHall 1 = .ok (.iload_n 1, 1) := by decide +kernel
theorem dX2_enterHall_2 : decode cX2_enterHall 2 = .ok (.putfield 9, 3) := by decide +kernel
theorem dX2_enterHall_5 : decode cX2_enterHall 5 = .ok (.aload_n 0, 1) := by decide +kernel
theorem dX2_enterHall_6 : decode cX2_enterHall 6 = .ok (.iload_n 2, 1) := by decide +kernel
theorem dX2_enterHall_7 : decode cX2_enterHall 7 = .ok (.putfield 15, 3) := by decide +kernel
theorem dX2_enterHall_10 : decode cX2_enterHall 10 = .ok (.aload_n 0, 1) := by decide +kernel
theorem dX2_enterHall_11 : decode cX2_enterHall 11 = .ok (.iconst 0, 1) := by decide +kernel
theorem dX2_enterHall_12 : decode cX2_enterHall 12 = .ok (.putfield 19, 3) := by decide +kernel
theorem dX2_enterHall_15 : decode cX2_enterHall 15 = .ok (.aload_n 0, 1) := by decide +kernel
theorem dX2_enterHall_16 : decode cX2_enterHall 16 = .ok (.iload_n 2, 1) := by decide +kernel
theorem dX2_enterHall_17 : decode cX2_enterHall 17 = .ok (.ifCond .eq 7, 3) := by decide +kernel
theorem dX2_enterHall_20 : decode cX2_enterHall 20 = .ok (.iconst (-1), 1) := by decide +kernel
theorem dX2_enterHall_21 : decode cX2_enterHall 21 = .ok (.goto 5, 3) := by decide +kernel
theorem dX2_enterHall_24 : decode cX2_enterHall 24 = .ok (.bipush 12, 2) := by decide +kernel
theorem dX2_enterHall_26 : decode cX2_enterHall 26 = .ok (.putfield 22, 3) := by decide +kernel
theorem dX2_enterHall_29 : decode cX2_enterHall 29 = .ok (.aload_n 0, 1) := by decide +kernel
theorem dX2_enterHall_30 : decode cX2_enterHall 30 = .ok (.iconst 0, 1) := by decide +kernel
theorem dX2_enterHall_31 : decode cX2_enterHall 31 = .ok (.putfield 25, 3) := by decide +kernel
theorem dX2_enterHall_34 : decode cX2_enterHall 34 = .ok (.aload_n 0, 1) := by decide +kernel
theorem dX2_enterHall_35 : decode cX2_enterHall 35 = .ok (.iconst 0, 1) := by decide +kernel
theorem dX2_enterHall_36 : decode cX2_enterHall 36 = .ok (.putfield 28, 3) := by decide +kernel
theorem dX2_enterHall_39 : decode cX2_enterHall 39 = .ok (.aload_n 0, 1) := by decide +kernel
theorem dX2_enterHall_40 : decode cX2_enterHall 40 = .ok (.iconst 0, 1) := by decide +kernel
theorem dX2_enterHall_41 : decode cX2_enterHall 41 = .ok (.putfield 31, 3) := by decide +kernel
theorem dX2_enterHall_44 : decode cX2_enterHall 44 = .ok (.aload_n 0, 1) := by decide +kernel
theorem dX2_enterHall_45 : decode cX2_enterHall 45 = .ok (.iconst 0, 1) := by decide +kernel
theorem dX2_enterHall_46 : decode cX2_enterHall 46 = .ok (.putfield 34, 3) := by decide +kernel
theorem dX2_enterHall_49 : decode cX2_enterHall 49 = .ok (.aload_n 0, 1) := by decide +kernel
theorem dX2_enterHall_50 : decode cX2_enterHall 50 = .ok (.iconst 0, 1) := by decide +kernel
theorem dX2_enterHall_51 : decode cX2_enterHall 51 = .ok (.putfield 37, 3) := by decide +kernel
theorem dX2_enterHall_54 : decode cX2_enterHall 54 = .ok (.return_, 1) := by decide +kernel
theorem dX2_isOnWay_0 : decode cX2_isOnWay 0 = .ok (.aload_n 0, 1) := by decide +kernel
theorem dX2_isOnWay_1 : decode cX2_isOnWay 1 = .ok (.getfield 19, 3) := by decide +kernel
theorem dX2_isOnWay_4 : decode cX2_isOnWay 4 = .ok (.ifCond .eq 11, 3) := by decide +kernel
theorem dX2_isOnWay_7 : decode cX2_isOnWay 7 = .ok (.aload_n 0, 1) := by decide +kernel
theorem dX2_isOnWay_8 : decode cX2_isOnWay 8 = .ok (.getfield 19, 3) := by decide +kernel
theorem dX2_isOnWay_11 : decode cX2_isOnWay 11 = .ok (.iconst 1, 1) := by decide +kernel
theorem dX2_isOnWay_12 : decode cX2_isOnWay 12 = .ok (.if_icmp .ne 7, 3) := by decide +kernel
theorem dX2_isOnWay_15 : decode cX2_isOnWay 15 = .ok (.iconst 1, 1) := by decide +kernel
theorem dX2_isOnWay_16 : decode cX2_isOnWay 16 = .ok (.goto 4, 3) := by decide +kernel
theorem dX2_isOnWay_19 : decode cX2_isOnWay 19 = .ok (.iconst 0, 1) := by decide +kernel
theorem dX2_isOnWay_20 : decode cX2_isOnWay 20 = .ok (.ireturn, 1) := by decide +kernel
theorem dX2_standsOn_0 : decode cX2_standsOn 0 = .ok (.aload_n 0, 1) := by decide +kernel
theorem dX2_standsOn_1 : decode cX2_standsOn 1 = .ok (.getfield 19, 3) := by decide +kernel
theorem dX2_standsOn_4 : decode cX2_standsOn 4 = .ok (.iconst 1, 1) := by decide +kernel
theorem dX2_standsOn_5 : decode cX2_standsOn 5 = .ok (.if_icmp .ne 15, 3) := by decide +kernel
theorem dX2_standsOn_8 : decode cX2_standsOn 8 = .ok (.aload_n 0, 1) := by decide +kernel
theorem dX2_standsOn_9 : decode cX2_standsOn 9 = .ok (.getfield 22, 3) := by decide +kernel
theorem dX2_standsOn_12 : decode cX2_standsOn 12 = .ok (.iload_n 1, 1) := by decide +kernel
theorem dX2_standsOn_13 : decode cX2_standsOn 13 = .ok (.if_icmp .ne 7, 3) := by decide +kernel
theorem dX2_standsOn_16 : decode cX2_standsOn 16 = .ok (.iconst 1, 1) := by decide +kernel
theorem dX2_standsOn_17 : decode cX2_standsOn 17 = .ok (.goto 4, 3) := by decide +kernel
theorem dX2_standsOn_20 : decode cX2_standsOn 20 = .ok (.iconst 0, 1) := by decide +kernel
theorem dX2_standsOn_21 : decode cX2_standsOn 21 = .ok (.ireturn, 1) := by decide +kernel
theorem dX2_nextStep_0 : decode cX2_nextStep 0 = .ok (.aload_n 0, 1) := by decide +kernel
theorem dX2_nextStep_1 : decode cX2_nextStep 1 = .ok (.getfield 15, 3) := by decide +kernel
theorem dX2_nextStep_4 : decode cX2_nextStep 4 = .ok (.ifCond .eq 12, 3) := by decide +kernel
theorem dX2_nextStep_7 : decode cX2_nextStep 7 = .ok (.aload_n 0, 1) := by decide +kernel
theorem dX2_nextStep_8 : decode cX2_nextStep 8 = .ok (.getfield 22, 3) := by decide +kernel
theorem dX2_nextStep_11 : decode cX2_nextStep 11 = .ok (.iconst 1, 1) := by decide +kernel
theorem dX2_nextStep_12 : decode cX2_nextStep 12 = .ok (.iadd, 1) := by decide +kernel
theorem dX2_nextStep_13 : decode cX2_nextStep 13 = .ok (.goto 9, 3) := by decide +kernel
theorem dX2_nextStep_16 : decode cX2_nextStep 16 = .ok (.aload_n 0, 1) := by decide +kernel
theorem dX2_nextStep_17 : decode cX2_nextStep 17 = .ok (.getfield 22, 3) := by decide +kernel
theorem dX2_nextStep_20 : decode cX2_nextStep 20 = .ok (.iconst 1, 1) := by decide +kernel
theorem dX2_nextStep_21 : decode cX2_nextStep 21 = .ok (.isub, 1) := by decide +kernel
theorem dX2_nextStep_22 : decode cX2_nextStep 22 = .ok (.ireturn, 1) := by decide +kernel
theorem dX2_stepBehind_0 : decode cX2_stepBehind 0 = .ok (.aload_n 0, 1) := by decide +kernel
theorem dX2_stepBehind_1 : decode cX2_stepBehind 1 = .ok (.getfield 15, 3) := by decide +kernel
theorem dX2_stepBehind_4 : decode cX2_stepBehind 4 = .ok (.ifCond .eq 12, 3) := by decide +kernel
theorem dX2_stepBehind_7 : decode cX2_stepBehind 7 = .ok (.aload_n 0, 1) := by decide +kernel
theorem dX2_stepBehind_8 : decode cX2_stepBehind 8 = .ok (.getfield 22, 3) := by decide +kernel
theorem dX2_stepBehind_11 : decode cX2_stepBehind 11 = .ok (.iconst 1, 1) := by decide +kernel
theorem dX2_stepBehind_12 : decode cX2_stepBehind 12 = .ok (.isub, 1) := by decide +kernel
theorem dX2_stepBehind_13 : decode cX2_stepBehind 13 = .ok (.goto 9, 3) := by decide +kernel
theorem dX2_stepBehind_16 : decode cX2_stepBehind 16 = .ok (.aload_n 0, 1) := by decide +kernel
theorem dX2_stepBehind_17 : decode cX2_stepBehind 17 = .ok (.getfield 22, 3) := by decide +kernel
theorem dX2_stepBehind_20 : decode cX2_stepBehind 20 = .ok (.iconst 1, 1) := by decide +kernel
theorem dX2_stepBehind_21 : decode cX2_stepBehind 21 = .ok (.iadd, 1) := by decide +kernel
theorem dX2_stepBehind_22 : decode cX2_stepBehind 22 = .ok (.ireturn, 1) := by decide +kernel
theorem dX2_yieldsTo_0 : decode cX2_yieldsTo 0 = .ok (.aload_n 0, 1) := by decide +kernel
theorem dX2_yieldsTo_1 : decode cX2_yieldsTo 1 = .ok (.getfield 15, 3) := by decide +kernel
theorem dX2_yieldsTo_4 : decode cX2_yieldsTo 4 = .ok (.aload_n 1, 1) := by decide +kernel
theorem dX2_yieldsTo_5 : decode cX2_yieldsTo 5 = .ok (.getfield 15, 3) := by decide +kernel
theorem dX2_yieldsTo_8 : decode cX2_yieldsTo 8 = .ok (.if_icmp .eq 36, 3) := by decide +kernel
theorem dX2_yieldsTo_11 : decode cX2_yieldsTo 11 = .ok (.aload_n 1, 1) := by decide +kernel
theorem dX2_yieldsTo_12 : decode cX2_yieldsTo 12 = .ok (.getfield 9, 3) := by decide +kernel
theorem dX2_yieldsTo_15 : decode cX2_yieldsTo 15 = .ok (.aload_n 0, 1) := by decide +kernel
theorem dX2_yieldsTo_16 : decode cX2_yieldsTo 16 = .ok (.getfield 9, 3) := by decide +kernel
theorem dX2_yieldsTo_19 : decode cX2_yieldsTo 19 = .ok (.if_icmp .gt 21, 3) := by decide +kernel
theorem dX2_yieldsTo_22 : decode cX2_yieldsTo 22 = .ok (.aload_n 1, 1) := by decide +kernel
theorem dX2_yieldsTo_23 : decode cX2_yieldsTo 23 = .ok (.getfield 9, 3) := by decide +kernel
theorem dX2_yieldsTo_26 : decode cX2_yieldsTo 26 = .ok (.aload_n 0, 1) := by decide +kernel
theorem dX2_yieldsTo_27 : decode cX2_yieldsTo 27 = .ok (.getfield 9, 3) := by decide +kernel
theorem dX2_yieldsTo_30 : decode cX2_yieldsTo 30 = .ok (.if_icmp .ne 14, 3) := by decide +kernel
theorem dX2_yieldsTo_33 : decode cX2_yieldsTo 33 = .ok (.aload_n 1, 1) := by decide +kernel
theorem dX2_yieldsTo_34 : decode cX2_yieldsTo 34 = .ok (.getfield 15, 3) := by decide +kernel
theorem dX2_yieldsTo_37 : decode cX2_yieldsTo 37 = .ok (.ifCond .ne 7, 3) := by decide +kernel
theorem dX2_yieldsTo_40 : decode cX2_yieldsTo 40 = .ok (.iconst 1, 1) := by decide +kernel
theorem dX2_yieldsTo_41 : decode cX2_yieldsTo 41 = .ok (.goto 4, 3) := by decide +kernel
theorem dX2_yieldsTo_44 : decode cX2_yieldsTo 44 = .ok (.iconst 0, 1) := by decide +kernel
theorem dX2_yieldsTo_45 : decode cX2_yieldsTo 45 = .ok (.ireturn, 1) := by decide +kernel
theorem dX2_stay_0 : decode cX2_stay 0 = .ok (.aload_n 0, 1) := by decide +kernel
theorem dX2_stay_1 : decode cX2_stay 1 = .ok (.iconst 3, 1) := by decide +kernel
theorem dX2_stay_2 : decode cX2_stay 2 = .ok (.putfield 40, 3) := by decide +kernel
theorem dX2_stay_5 : decode cX2_stay 5 = .ok (.aload_n 0, 1) := by decide +kernel
theorem dX2_stay_6 : decode cX2_stay 6 = .ok (.dup, 1) := by decide +kernel
theorem dX2_stay_7 : decode cX2_stay 7 = .ok (.getfield 25, 3) := by decide +kernel
theorem dX2_stay_10 : decode cX2_stay 10 = .ok (.iconst 1, 1) := by decide +kernel
theorem dX2_stay_11 : decode cX2_stay 11 = .ok (.iadd, 1) := by decide +kernel
theorem dX2_stay_12 : decode cX2_stay 12 = .ok (.putfield 25, 3) := by decide +kernel
theorem dX2_stay_15 : decode cX2_stay 15 = .ok (.aload_n 0, 1) := by decide +kernel
theorem dX2_stay_16 : decode cX2_stay 16 = .ok (.dup, 1) := by decide +kernel
theorem dX2_stay_17 : decode cX2_stay 17 = .ok (.getfield 37, 3) := by decide +kernel
theorem dX2_stay_20 : decode cX2_stay 20 = .ok (.iconst 1, 1) := by decide +kernel
theorem dX2_stay_21 : decode cX2_stay 21 = .ok (.iadd, 1) := by decide +kernel
theorem dX2_stay_22 : decode cX2_stay 22 = .ok (.putfield 37, 3) := by decide +kernel
theorem dX2_stay_25 : decode cX2_stay 25 = .ok (.return_, 1) := by decide +kernel
theorem dX2_bow_0 : decode cX2_bow 0 = .ok (.aload_n 0, 1) := by decide +kernel
theorem dX2_bow_1 : decode cX2_bow 1 = .ok (.dup, 1) := by decide +kernel
theorem dX2_bow_2 : decode cX2_bow 2 = .ok (.getfield 28, 3) := by decide +kernel
theorem dX2_bow_5 : decode cX2_bow 5 = .ok (.iconst 1, 1) := by decide +kernel
theorem dX2_bow_6 : decode cX2_bow 6 = .ok (.iadd, 1) := by decide +kernel
theorem dX2_bow_7 : decode cX2_bow 7 = .ok (.putfield 28, 3) := by decide +kernel
theorem dX2_bow_10 : decode cX2_bow 10 = .ok (.aload_n 0, 1) := by decide +kernel
theorem dX2_bow_11 : decode cX2_bow 11 = .ok (.dup, 1) := by decide +kernel
theorem dX2_bow_12 : decode cX2_bow 12 = .ok (.getfield 31, 3) := by decide +kernel
theorem dX2_bow_15 : decode cX2_bow 15 = .ok (.iload_n 1, 1) := by decide +kernel
theorem dX2_bow_16 : decode cX2_bow 16 = .ok (.iadd, 1) := by decide +kernel
theorem dX2_bow_17 : decode cX2_bow 17 = .ok (.putfield 31, 3) := by decide +kernel
theorem dX2_bow_20 : decode cX2_bow 20 = .ok (.return_, 1) := by decide +kernel
theorem dX2_tell_0 : decode cX2_tell 0 = .ok (.iload_n 1, 1) := by decide +kernel
theorem dX2_tell_1 : decode cX2_tell 1 = .ok (.tableswitch 129 0 8 #[51, 56, 69, 74, 92, 97, 102, 107, 124], 51) := by decide +kernel
theorem dX2_tell_52 : decode cX2_tell 52 = .ok (.aload_n 0, 1) := by decide +kernel
theorem dX2_tell_53 : decode cX2_tell 53 = .ok (.getfield 9, 3) := by decide +kernel
theorem dX2_tell_56 : decode cX2_tell 56 = .ok (.ireturn, 1) := by decide +kernel
theorem dX2_tell_57 : decode cX2_tell 57 = .ok (.aload_n 0, 1) := by decide +kernel
theorem dX2_tell_58 : decode cX2_tell 58 = .ok (.getfield 15, 3) := by decide +kernel
theorem dX2_tell_61 : decode cX2_tell 61 = .ok (.ifCond .eq 7, 3) := by decide +kernel
theorem dX2_tell_64 : decode cX2_tell 64 = .ok (.iconst 1, 1) := by decide +kernel
theorem dX2_tell_65 : decode cX2_tell 65 = .ok (.goto 4, 3) := by decide +kernel
theorem dX2_tell_68 : decode cX2_tell 68 = .ok (.iconst 0, 1) := by decide +kernel
theorem dX2_tell_69 : decode cX2_tell 69 = .ok (.ireturn, 1) := by decide +kernel
theorem dX2_tell_70 : decode cX2_tell 70 = .ok (.aload_n 0, 1) := by decide +kernel
theorem dX2_tell_71 : decode cX2_tell 71 = .ok (.getfield 19, 3) := by decide +kernel
theorem dX2_tell_74 : decode cX2_tell 74 = .ok (.ireturn, 1) := by decide +kernel
theorem dX2_tell_75 : decode cX2_tell 75 = .ok (.aload_n 0, 1) := by decide +kernel
theorem dX2_tell_76 : decode cX2_tell 76 = .ok (.getfield 19, 3) := by decide +kernel
theorem dX2_tell_79 : decode cX2_tell 79 = .ok (.iconst 1, 1) := by decide +kernel
theorem dX2_tell_80 : decode cX2_tell 80 = .ok (.if_icmp .ne 10, 3) := by decide +kernel
theorem dX2_tell_83 : decode cX2_tell 83 = .ok (.aload_n 0, 1) := by decide +kernel
theorem dX2_tell_84 : decode cX2_tell 84 = .ok (.getfield 22, 3) := by decide +kernel
theorem dX2_tell_87 : decode cX2_tell 87 = .ok (.goto 5, 3) := by decide +kernel
theorem dX2_tell_90 : decode cX2_tell 90 = .ok (.bipush (-6), 2) := by decide +kernel
theorem dX2_tell_92 : decode cX2_tell 92 = .ok (.ireturn, 1) := by decide +kernel
theorem dX2_tell_93 : decode cX2_tell 93 = .ok (.aload_n 0, 1) := by decide +kernel
theorem dX2_tell_94 : decode cX2_tell 94 = .ok (.getfield 25, 3) := by decide +kernel
theorem dX2_tell_97 : decode cX2_tell 97 = .ok (.ireturn, 1) := by decide +kernel
theorem dX2_tell_98 : decode cX2_tell 98 = .ok (.aload_n 0, 1) := by decide +kernel
theorem dX2_tell_99 : decode cX2_tell 99 = .ok (.getfield 28, 3) := by decide +kernel
theorem dX2_tell_102 : decode cX2_tell 102 = .ok (.ireturn, 1) := by decide +kernel
theorem dX2_tell_103 : decode cX2_tell 103 = .ok (.aload_n 0, 1) := by decide +kernel
theorem dX2_tell_104 : decode cX2_tell 104 = .ok (.getfield 31, 3) := by decide +kernel
theorem dX2_tell_107 : decode cX2_tell 107 = .ok (.ireturn, 1) := by decide +kernel
theorem dX2_tell_108 : decode cX2_tell 108 = .ok (.aload_n 0, 1) := by decide +kernel
theorem dX2_tell_109 : decode cX2_tell 109 = .ok (.invokevirtual 43, 3) := by decide +kernel
theorem dX2_tell_112 : decode cX2_tell 112 = .ok (.ifCond .eq 8, 3) := by decide +kernel
theorem dX2_tell_115 : decode cX2_tell 115 = .ok (.bipush (-6), 2) := by decide +kernel
theorem dX2_tell_117 : decode cX2_tell 117 = .ok (.goto 7, 3) := by decide +kernel
theorem dX2_tell_120 : decode cX2_tell 120 = .ok (.aload_n 0, 1) := by decide +kernel
theorem dX2_tell_121 : decode cX2_tell 121 = .ok (.getfield 34, 3) := by decide +kernel
theorem dX2_tell_124 : decode cX2_tell 124 = .ok (.ireturn, 1) := by decide +kernel
theorem dX2_tell_125 : decode cX2_tell 125 = .ok (.aload_n 0, 1) := by decide +kernel
theorem dX2_tell_126 : decode cX2_tell 126 = .ok (.getfield 37, 3) := by decide +kernel
theorem dX2_tell_129 : decode cX2_tell 129 = .ok (.ireturn, 1) := by decide +kernel
theorem dX2_tell_130 : decode cX2_tell 130 = .ok (.bipush (-2), 2) := by decide +kernel
theorem dX2_tell_132 : decode cX2_tell 132 = .ok (.ireturn, 1) := by decide +kernel
theorem dX3_admit_0 : decode cX3_admit 0 = .ok (.aload_n 0, 1) := by decide +kernel
theorem dX3_admit_1 : decode cX3_admit 1 = .ok (.getfield 38, 3) := by decide +kernel
theorem dX3_admit_4 : decode cX3_admit 4 = .ok (.bipush 24, 2) := by decide +kernel
theorem dX3_admit_6 : decode cX3_admit 6 = .ok (.if_icmp .ge 27, 3) := by decide +kernel
theorem dX3_admit_9 : decode cX3_admit 9 = .ok (.aload_n 0, 1) := by decide +kernel
theorem dX3_admit_10 : decode cX3_admit 10 = .ok (.getfield 20, 3) := by decide +kernel
theorem dX3_admit_13 : decode cX3_admit 13 = .ok (.aload_n 0, 1) := by decide +kernel
theorem dX3_admit_14 : decode cX3_admit 14 = .ok (.getfield 38, 3) := by decide +kernel
theorem dX3_admit_17 : decode cX3_admit 17 = .ok (.aaload, 1) := by decide +kernel
theorem dX3_admit_18 : decode cX3_admit 18 = .ok (.iload_n 1, 1) := by decide +kernel
theorem dX3_admit_19 : decode cX3_admit 19 = .ok (.iload_n 2, 1) := by decide +kernel
theorem dX3_admit_20 : decode cX3_admit 20 = .ok (.invokevirtual 48, 3) := by decide +kernel
theorem dX3_admit_23 : decode cX3_admit 23 = .ok (.aload_n 0, 1) := by decide +kernel
theorem dX3_admit_24 : decode cX3_admit 24 = .ok (.dup, 1) := by decide +kernel
theorem dX3_admit_25 : decode cX3_admit 25 = .ok (.getfield 38, 3) := by decide +kernel
theorem dX3_admit_28 : decode cX3_admit 28 = .ok (.iconst 1, 1) := by decide +kernel
theorem dX3_admit_29 : decode cX3_admit 29 = .ok (.iadd, 1) := by decide +kernel
theorem dX3_admit_30 : decode cX3_admit 30 = .ok (.putfield 38, 3) := by decide +kernel
theorem dX3_admit_33 : decode cX3_admit 33 = .ok (.return_, 1) := by decide +kernel
theorem dX3_isLanding_0 : decode cX3_isLanding 0 = .ok (.aload_n 0, 1) := by decide +kernel
theorem dX3_isLanding_1 : decode cX3_isLanding 1 = .ok (.getfield 27, 3) := by decide +kernel
theorem dX3_isLanding_4 : decode cX3_isLanding 4 = .ok (.iload_n 1, 1) := by decide +kernel
theorem dX3_isLanding_5 : decode cX3_isLanding 5 = .ok (.ishr, 1) := by decide +kernel
theorem dX3_isLanding_6 : decode cX3_isLanding 6 = .ok (.iconst 1, 1) := by decide +kernel
theorem dX3_isLanding_7 : decode cX3_isLanding 7 = .ok (.iand, 1) := by decide +kernel
theorem dX3_isLanding_8 : decode cX3_isLanding 8 = .ok (.iconst 1, 1) := by decide +kernel
theorem dX3_isLanding_9 : decode cX3_isLanding 9 = .ok (.if_icmp .ne 7, 3) := by decide +kernel
theorem dX3_isLanding_12 : decode cX3_isLanding 12 = .ok (.iconst 1, 1) := by decide +kernel
theorem dX3_isLanding_13 : decode cX3_isLanding 13 = .ok (.goto 4, 3) := by decide +kernel
theorem dX3_isLanding_16 : decode cX3_isLanding 16 = .ok (.iconst 0, 1) := by decide +kernel
theorem dX3_isLanding_17 : decode cX3_isLanding 17 = .ok (.ireturn, 1) := by decide +kernel
theorem dX4_isStep_0 : decode cX4_isStep 0 = .ok (.iload_n 0, 1) := by decide +kernel
theorem dX4_isStep_1 : decode cX4_isStep 1 = .ok (.ifCond .lt 13, 3) := by decide +kernel
theorem dX4_isStep_4 : decode cX4_isStep 4 = .ok (.iload_n 0, 1) := by decide +kernel
theorem dX4_isStep_5 : decode cX4_isStep 5 = .ok (.bipush 12, 2) := by decide +kernel
theorem dX4_isStep_7 : decode cX4_isStep 7 = .ok (.if_icmp .ge 7, 3) := by decide +kernel
theorem dX4_isStep_10 : decode cX4_isStep 10 = .ok (.iconst 1, 1) := by decide +kernel
theorem dX4_isStep_11 : decode cX4_isStep 11 = .ok (.goto 4, 3) := by decide +kernel
theorem dX4_isStep_14 : decode cX4_isStep 14 = .ok (.iconst 0, 1) := by decide +kernel
theorem dX4_isStep_15 : decode cX4_isStep 15 = .ok (.ireturn, 1) := by decide +kernel
theorem dX3_crowdOn_0 : decode cX3_crowdOn 0 = .ok (.iload_n 1, 1) := by decide +kernel
theorem dX3_crowdOn_1 : decode cX3_crowdOn 1 = .ok (.invokestatic 52, 3) := by decide +kernel
theorem dX3_crowdOn_4 : decode cX3_crowdOn 4 = .ok (.ifCond .eq 12, 3) := by decide +kernel
theorem dX3_crowdOn_7 : decode cX3_crowdOn 7 = .ok (.aload_n 0, 1) := by decide +kernel
theorem dX3_crowdOn_8 : decode cX3_crowdOn 8 = .ok (.getfield 24, 3) := by decide +kernel
theorem dX3_crowdOn_11 : decode cX3_crowdOn 11 = .ok (.iload_n 1, 1) := by decide +kernel
theorem dX3_crowdOn_12 : decode cX3_crowdOn 12 = .ok (.iaload, 1) := by decide +kernel
theorem dX3_crowdOn_13 : decode cX3_crowdOn 13 = .ok (.goto 4, 3) := by decide +kernel
theorem dX3_crowdOn_16 : decode cX3_crowdOn 16 = .ok (.iconst 0, 1) := by decide +kernel
theorem dX3_crowdOn_17 : decode cX3_crowdOn 17 = .ok (.ireturn, 1) := by decide +kernel
theorem dX3_roomOn_0 : decode cX3_roomOn 0 = .ok (.aload_n 0, 1) := by decide +kernel
theorem dX3_roomOn_1 : decode cX3_roomOn 1 = .ok (.iload_n 1, 1) := by decide +kernel
theorem dX3_roomOn_2 : decode cX3_roomOn 2 = .ok (.invokevirtual 56, 3) := by decide +kernel
theorem dX3_roomOn_5 : decode cX3_roomOn 5 = .ok (.ifCond .eq 12, 3) := by decide +kernel
theorem dX3_roomOn_8 : decode cX3_roomOn 8 = .ok (.aload_n 0, 1) := by decide +kernel
theorem dX3_roomOn_9 : decode cX3_roomOn 9 = .ok (.getfield 13, 3) := by decide +kernel
theorem dX3_roomOn_12 : decode cX3_roomOn 12 = .ok (.iconst 0, 1) := by decide +kernel
theorem dX3_roomOn_13 : decode cX3_roomOn 13 = .ok (.iaload, 1) := by decide +kernel
theorem dX3_roomOn_14 : decode cX3_roomOn 14 = .ok (.goto 4, 3) := by decide +kernel
theorem dX3_roomOn_17 : decode cX3_roomOn 17 = .ok (.iconst 1, 1) := by decide +kernel
theorem dX3_roomOn_18 : decode cX3_roomOn 18 = .ok (.aload_n 0, 1) := by decide +kernel
theorem dX3_roomOn_19 : decode cX3_roomOn 19 = .ok (.iload_n 1, 1) := by decide +kernel
theorem dX3_roomOn_20 : decode cX3_roomOn 20 = .ok (.invokevirtual 59, 3) := by decide +kernel
theorem dX3_roomOn_23 : decode cX3_roomOn 23 = .ok (.isub, 1) := by decide +kernel
theorem dX3_roomOn_24 : decode cX3_roomOn 24 = .ok (.ireturn, 1) := by decide +kernel
theorem dX3_greatestCrowd_0 : decode cX3_greatestCrowd 0 = .ok (.iconst 0, 1) := by decide +kernel
theorem dX3_greatestCrowd_1 : decode cX3_greatestCrowd 1 = .ok (.istore_n 1, 1) := by decide +kernel
theorem dX3_greatestCrowd_2 : decode cX3_greatestCrowd 2 = .ok (.iconst 0, 1) := by decide +kernel
theorem dX3_greatestCrowd_3 : decode cX3_greatestCrowd 3 = .ok (.istore_n 2, 1) := by decide +kernel
theorem dX3_greatestCrowd_4 : decode cX3_greatestCrowd 4 = .ok (.iload_n 2, 1) := by decide +kernel
theorem dX3_greatestCrowd_5 : decode cX3_greatestCrowd 5 = .ok (.bipush 12, 2) := by decide +kernel
theorem dX3_greatestCrowd_7 : decode cX3_greatestCrowd 7 = .ok (.if_icmp .ge 20, 3) := by decide +kernel
theorem dX3_greatestCrowd_10 : decode cX3_greatestCrowd 10 = .ok (.iload_n 1, 1) := by decide +kernel
theorem dX3_greatestCrowd_11 : decode cX3_greatestCrowd 11 = .ok (.aload_n 0, 1) := by decide +kernel
theorem dX3_greatestCrowd_12 : decode cX3_greatestCrowd 12 = .ok (.getfield 24, 3) := by decide +kernel
theorem dX3_greatestCrowd_15 : decode cX3_greatestCrowd 15 = .ok (.iload_n 2, 1) := by decide +kernel
theorem dX3_greatestCrowd_16 : decode cX3_greatestCrowd 16 = .ok (.iaload, 1) := by decide +kernel
theorem dX3_greatestCrowd_17 : decode cX3_greatestCrowd 17 = .ok (.invokestatic 63, 3) := by decide +kernel
theorem dX3_greatestCrowd_20 : decode cX3_greatestCrowd 20 = .ok (.istore_n 1, 1) := by decide +kernel
theorem dX3_greatestCrowd_21 : decode cX3_greatestCrowd 21 = .ok (.iinc 2 1, 3) := by decide +kernel
theorem dX3_greatestCrowd_24 : decode cX3_greatestCrowd 24 = .ok (.goto (-20), 3) := by decide +kernel
theorem dX3_greatestCrowd_27 : decode cX3_greatestCrowd 27 = .ok (.iload_n 1, 1) := by decide +kernel
theorem dX3_greatestCrowd_28 : decode cX3_greatestCrowd 28 = .ok (.ireturn, 1) := by decide +kernel
theorem dX3_highestOn_0 : decode cX3_highestOn 0 = .ok (.bipush (-6), 2) := by decide +kernel
theorem dX3_highestOn_2 : decode cX3_highestOn 2 = .ok (.istore_n 2, 1) := by decide +kernel
theorem dX3_highestOn_3 : decode cX3_highestOn 3 = .ok (.iconst 0, 1) := by decide +kernel
theorem dX3_highestOn_4 : decode cX3_highestOn 4 = .ok (.istore_n 3, 1) := by decide +kernel
theorem dX3_highestOn_5 : decode cX3_highestOn 5 = .ok (.iconst 0, 1) := by decide +kernel
theorem dX3_highestOn_6 : decode cX3_highestOn 6 = .ok (.istore 4, 2) := by decide +kernel
theorem dX3_highestOn_8 : decode cX3_highestOn 8 = .ok (.iload 4, 2) := by decide +kernel
theorem dX3_highestOn_10 : decode cX3_highestOn 10 = .ok (.aload_n 0, 1) := by decide +kernel
theorem dX3_highestOn_11 : decode cX3_highestOn 11 = .ok (.getfield 38, 3) := by decide +kernel
theorem dX3_highestOn_14 : decode cX3_highestOn 14 = .ok (.if_icmp .ge 51, 3) := by decide +kernel
theorem dX3_highestOn_17 : decode cX3_highestOn 17 = .ok (.aload_n 0, 1) := by decide +kernel
theorem dX3_highestOn_18 : decode cX3_highestOn 18 = .ok (.getfield 20, 3) := by decide +kernel
theorem dX3_highestOn_21 : decode cX3_highestOn 21 = .ok (.iload 4, 2) := by decide +kernel
theorem dX3_highestOn_23 : decode cX3_highestOn 23 = .ok (.aaload, 1) := by decide +kernel
theorem dX3_highestOn_24 : decode cX3_highestOn 24 = .ok (.iload_n 1, 1) := by decide +kernel
theorem dX3_highestOn_25 : decode cX3_highestOn 25 = .ok (.invokevirtual 69, 3) := by decide +kernel
theorem dX3_highestOn_28 : decode cX3_highestOn 28 = .ok (.ifCond .eq 31, 3) := by decide +kernel
theorem dX3_highestOn_31 : decode cX3_highestOn 31 = .ok (.aload_n 0, 1) := by decide +kernel
theorem dX3_highestOn_32 : decode cX3_highestOn 32 = .ok (.getfield 20, 3) := by decide +kernel
theorem dX3_highestOn_35 : decode cX3_highestOn 35 = .ok (.iload 4, 2) := by decide +kernel
theorem dX3_highestOn_37 : decode cX3_highestOn 37 = .ok (.aaload, 1) := by decide +kernel
theorem dX3_highestOn_38 : decode cX3_highestOn 38 = .ok (.getfield 72, 3) := by decide +kernel
theorem dX3_highestOn_41 : decode cX3_highestOn 41 = .ok (.iload_n 3, 1) := by decide +kernel
theorem dX3_highestOn_42 : decode cX3_highestOn 42 = .ok (.if_icmp .le 17, 3) := by decide +kernel
theorem dX3_highestOn_45 : decode cX3_highestOn 45 = .ok (.iload 4, 2) := by decide +kernel
theorem dX3_highestOn_47 : decode cX3_highestOn 47 = .ok (.istore_n 2, 1) := by decide +kernel
theorem dX3_highestOn_48 : decode cX3_highestOn 48 = .ok (.aload_n 0, 1) := by decide +kernel
theorem dX3_highestOn_49 : decode cX3_highestOn 49 = .ok (.getfield 20, 3) := by decide +kernel
theorem dX3_highestOn_52 : decode cX3_highestOn 52 = .ok (.iload 4, 2) := by decide +kernel
theorem dX3_highestOn_54 : decode cX3_highestOn 54 = .ok (.aaload, 1) := by decide +kernel
theorem dX3_highestOn_55 : decode cX3_highestOn 55 = .ok (.getfield 72, 3) := by decide +kernel
theorem dX3_highestOn_58 : decode cX3_highestOn 58 = .ok (.istore_n 3, 1) := by decide +kernel
theorem dX3_highestOn_59 : decode cX3_highestOn 59 = .ok (.iinc 4 1, 3) := by decide +kernel
theorem dX3_highestOn_62 : decode cX3_highestOn 62 = .ok (.goto (-54), 3) := by decide +kernel
theorem dX3_highestOn_65 : decode cX3_highestOn 65 = .ok (.iload_n 2, 1) := by decide +kernel
theorem dX3_highestOn_66 : decode cX3_highestOn 66 = .ok (.ireturn, 1) := by decide +kernel
theorem dX3_peopleWho_0 : decode cX3_peopleWho 0 = .ok (.iconst 0, 1) := by decide +kernel
theorem dX3_peopleWho_1 : decode cX3_peopleWho 1 = .ok (.istore_n 2, 1) := by decide +kernel
theorem dX3_peopleWho_2 : decode cX3_peopleWho 2 = .ok (.iconst 0, 1) := by decide +kernel
theorem dX3_peopleWho_3 : decode cX3_peopleWho 3 = .ok (.istore_n 3, 1) := by decide +kernel
theorem dX3_peopleWho_4 : decode cX3_peopleWho 4 = .ok (.iload_n 3, 1) := by decide +kernel
theorem dX3_peopleWho_5 : decode cX3_peopleWho 5 = .ok (.aload_n 0, 1) := by decide +kernel
theorem dX3_peopleWho_6 : decode cX3_peopleWho 6 = .ok (.getfield 38, 3) := by decide +kernel
theorem dX3_peopleWho_9 : decode cX3_peopleWho 9 = .ok (.if_icmp .ge 25, 3) := by decide +kernel
theorem dX3_peopleWho_12 : decode cX3_peopleWho 12 = .ok (.aload_n 0, 1) := by decide +kernel
theorem dX3_peopleWho_13 : decode cX3_peopleWho 13 = .ok (.getfield 20, 3) := by decide +kernel
theorem dX3_peopleWho_16 : decode cX3_peopleWho 16 = .ok (.iload_n 3, 1) := by decide +kernel
theorem dX3_peopleWho_17 : decode cX3_peopleWho 17 = .ok (.aaload, 1) := by decide +kernel
theorem dX3_peopleWho_18 : decode cX3_peopleWho 18 = .ok (.getfield 75, 3) := by decide +kernel
theorem dX3_peopleWho_21 : decode cX3_peopleWho 21 = .ok (.iload_n 1, 1) := by decide +kernel
theorem dX3_peopleWho_22 : decode cX3_peopleWho 22 = .ok (.if_icmp .ne 6, 3) := by decide +kernel
theorem dX3_peopleWho_25 : decode cX3_peopleWho 25 = .ok (.iinc 2 1, 3) := by decide +kernel
theorem dX3_peopleWho_28 : decode cX3_peopleWho 28 = .ok (.iinc 3 1, 3) := by decide +kernel
theorem dX3_peopleWho_31 : decode cX3_peopleWho 31 = .ok (.goto (-27), 3) := by decide +kernel
theorem dX3_peopleWho_34 : decode cX3_peopleWho 34 = .ok (.iload_n 2, 1) := by decide +kernel
theorem dX3_peopleWho_35 : decode cX3_peopleWho 35 = .ok (.ireturn, 1) := by decide +kernel
theorem dX3_sumOf_0 : decode cX3_sumOf 0 = .ok (.iconst 0, 1) := by decide +kernel
theorem dX3_sumOf_1 : decode cX3_sumOf 1 = .ok (.istore_n 2, 1) := by decide +kernel
theorem dX3_sumOf_2 : decode cX3_sumOf 2 = .ok (.iconst 0, 1) := by decide +kernel
theorem dX3_sumOf_3 : decode cX3_sumOf 3 = .ok (.istore_n 3, 1) := by decide +kernel
theorem dX3_sumOf_4 : decode cX3_sumOf 4 = .ok (.iload_n 3, 1) := by decide +kernel
theorem dX3_sumOf_5 : decode cX3_sumOf 5 = .ok (.aload_n 0, 1) := by decide +kernel
theorem dX3_sumOf_6 : decode cX3_sumOf 6 = .ok (.getfield 38, 3) := by decide +kernel
theorem dX3_sumOf_9 : decode cX3_sumOf 9 = .ok (.if_icmp .ge 22, 3) := by decide +kernel
theorem dX3_sumOf_12 : decode cX3_sumOf 12 = .ok (.iload_n 2, 1) := by decide +kernel
theorem dX3_sumOf_13 : decode cX3_sumOf 13 = .ok (.aload_n 0, 1) := by decide +kernel
theorem dX3_sumOf_14 : decode cX3_sumOf 14 = .ok (.getfield 20, 3) := by decide +kernel
theorem dX3_sumOf_17 : decode cX3_sumOf 17 = .ok (.iload_n 3, 1) := by decide +kernel
theorem dX3_sumOf_18 : decode cX3_sumOf 18 = .ok (.aaload, 1) := by decide +kernel
theorem dX3_sumOf_19 : decode cX3_sumOf 19 = .ok (.iload_n 1, 1) := by decide +kernel
theorem dX3_sumOf_20 : decode cX3_sumOf 20 = .ok (.invokevirtual 78, 3) := by decide +kernel
theorem dX3_sumOf_23 : decode cX3_sumOf 23 = .ok (.iadd, 1) := by decide +kernel
theorem dX3_sumOf_24 : decode cX3_sumOf 24 = .ok (.istore_n 2, 1) := by decide +kernel
theorem dX3_sumOf_25 : decode cX3_sumOf 25 = .ok (.iinc 3 1, 3) := by decide +kernel
theorem dX3_sumOf_28 : decode cX3_sumOf 28 = .ok (.goto (-24), 3) := by decide +kernel
theorem dX3_sumOf_31 : decode cX3_sumOf 31 = .ok (.iload_n 2, 1) := by decide +kernel
theorem dX3_sumOf_32 : decode cX3_sumOf 32 = .ok (.ireturn, 1) := by decide +kernel
theorem dX3_isAnybodyOnWay_0 : decode cX3_isAnybodyOnWay 0 = .ok (.iconst 0, 1) := by decide +kernel
theorem dX3_isAnybodyOnWay_1 : decode cX3_isAnybodyOnWay 1 = .ok (.istore_n 1, 1) := by decide +kernel
theorem dX3_isAnybodyOnWay_2 : decode cX3_isAnybodyOnWay 2 = .ok (.iload_n 1, 1) := by decide +kernel
theorem dX3_isAnybodyOnWay_3 : decode cX3_isAnybodyOnWay 3 = .ok (.aload_n 0, 1) := by decide +kernel
theorem dX3_isAnybodyOnWay_4 : decode cX3_isAnybodyOnWay 4 = .ok (.getfield 38, 3) := by decide +kernel
theorem dX3_isAnybodyOnWay_7 : decode cX3_isAnybodyOnWay 7 = .ok (.if_icmp .ge 23, 3) := by decide +kernel
theorem dX3_isAnybodyOnWay_10 : decode cX3_isAnybodyOnWay 10 = .ok (.aload_n 0, 1) := by decide +kernel
theorem dX3_isAnybodyOnWay_11 : decode cX3_isAnybodyOnWay 11 = .ok (.getfield 20, 3) := by decide +kernel
theorem dX3_isAnybodyOnWay_14 : decode cX3_isAnybodyOnWay 14 = .ok (.iload_n 1, 1) := by decide +kernel
theorem dX3_isAnybodyOnWay_15 : decode cX3_isAnybodyOnWay 15 = .ok (.aaload, 1) := by decide +kernel
theorem dX3_isAnybodyOnWay_16 : decode cX3_isAnybodyOnWay 16 = .ok (.invokevirtual 81, 3) := by decide +kernel
theorem dX3_isAnybodyOnWay_19 : decode cX3_isAnybodyOnWay 19 = .ok (.ifCond .eq 5, 3) := by decide +kernel
theorem dX3_isAnybodyOnWay_22 : decode cX3_isAnybodyOnWay 22 = .ok (.iconst 1, 1) := by decide +kernel
theorem dX3_isAnybodyOnWay_23 : decode cX3_isAnybodyOnWay 23 = .ok (.ireturn, 1) := by decide +kernel
theorem dX3_isAnybodyOnWay_24 : decode cX3_isAnybodyOnWay 24 = .ok (.iinc 1 1, 3) := by decide +kernel
theorem dX3_isAnybodyOnWay_27 : decode cX3_isAnybodyOnWay 27 = .ok (.goto (-25), 3) := by decide +kernel
theorem dX3_isAnybodyOnWay_30 : decode cX3_isAnybodyOnWay 30 = .ok (.iconst 0, 1) := by decide +kernel
theorem dX3_isAnybodyOnWay_31 : decode cX3_isAnybodyOnWay 31 = .ok (.ireturn, 1) := by decide +kernel
theorem dX3_bring_0 : decode cX3_bring 0 = .ok (.aload_n 1, 1) := by decide +kernel
theorem dX3_bring_1 : decode cX3_bring 1 = .ok (.getfield 127, 3) := by decide +kernel
theorem dX3_bring_4 : decode cX3_bring 4 = .ok (.invokestatic 52, 3) := by decide +kernel
theorem dX3_bring_7 : decode cX3_bring 7 = .ok (.ifCond .eq 16, 3) := by decide +kernel
theorem dX3_bring_10 : decode cX3_bring 10 = .ok (.aload_n 0, 1) := by decide +kernel
theorem dX3_bring_11 : decode cX3_bring 11 = .ok (.getfield 24, 3) := by decide +kernel
theorem dX3_bring_14 : decode cX3_bring 14 = .ok (.aload_n 1, 1) := by decide +kernel
theorem dX3_bring_15 : decode cX3_bring 15 = .ok (.getfield 127, 3) := by decide +kernel
theorem dX3_bring_18 : decode cX3_bring 18 = .ok (.dup2, 1) := by decide +kernel
theorem dX3_bring_19 : decode cX3_bring 19 = .ok (.iaload, 1) := by decide +kernel
theorem dX3_bring_20 : decode cX3_bring 20 = .ok (.iconst 1, 1) := by decide +kernel
theorem dX3_bring_21 : decode cX3_bring 21 = .ok (.isub, 1) := by decide +kernel
theorem dX3_bring_22 : decode cX3_bring 22 = .ok (.iastore, 1) := by decide +kernel
theorem dX3_bring_23 : decode cX3_bring 23 = .ok (.iload_n 2, 1) := by decide +kernel
theorem dX3_bring_24 : decode cX3_bring 24 = .ok (.invokestatic 52, 3) := by decide +kernel
theorem dX3_bring_27 : decode cX3_bring 27 = .ok (.ifCond .eq 16, 3) := by decide +kernel
theorem dX3_bring_30 : decode cX3_bring 30 = .ok (.aload_n 0, 1) := by decide +kernel
theorem dX3_bring_31 : decode cX3_bring 31 = .ok (.getfield 24, 3) := by decide +kernel
theorem dX3_bring_34 : decode cX3_bring 34 = .ok (.iload_n 2, 1) := by decide +kernel
theorem dX3_bring_35 : decode cX3_bring 35 = .ok (.dup2, 1) := by decide +kernel
theorem dX3_bring_36 : decode cX3_bring 36 = .ok (.iaload, 1) := by decide +kernel
theorem dX3_bring_37 : decode cX3_bring 37 = .ok (.iconst 1, 1) := by decide +kernel
theorem dX3_bring_38 : decode cX3_bring 38 = .ok (.iadd, 1) := by decide +kernel
theorem dX3_bring_39 : decode cX3_bring 39 = .ok (.iastore, 1) := by decide +kernel
theorem dX3_bring_40 : decode cX3_bring 40 = .ok (.goto 13, 3) := by decide +kernel
theorem dX3_bring_43 : decode cX3_bring 43 = .ok (.aload_n 1, 1) := by decide +kernel
theorem dX3_bring_44 : decode cX3_bring 44 = .ok (.aload_n 0, 1) := by decide +kernel
theorem dX3_bring_45 : decode cX3_bring 45 = .ok (.getfield 41, 3) := by decide +kernel
theorem dX3_bring_48 : decode cX3_bring 48 = .ok (.iconst 1, 1) := by decide +kernel
theorem dX3_bring_49 : decode cX3_bring 49 = .ok (.iadd, 1) := by decide +kernel
theorem dX3_bring_50 : decode cX3_bring 50 = .ok (.putfield 130, 3) := by decide +kernel
theorem dX3_bring_53 : decode cX3_bring 53 = .ok (.aload_n 1, 1) := by decide +kernel
theorem dX3_bring_54 : decode cX3_bring 54 = .ok (.iload_n 2, 1) := by decide +kernel
theorem dX3_bring_55 : decode cX3_bring 55 = .ok (.putfield 127, 3) := by decide +kernel
theorem dX3_bring_58 : decode cX3_bring 58 = .ok (.aload_n 1, 1) := by decide +kernel
theorem dX3_bring_59 : decode cX3_bring 59 = .ok (.iload_n 3, 1) := by decide +kernel
theorem dX3_bring_60 : decode cX3_bring 60 = .ok (.putfield 75, 3) := by decide +kernel
theorem dX3_bring_63 : decode cX3_bring 63 = .ok (.aload_n 1, 1) := by decide +kernel
theorem dX3_bring_64 : decode cX3_bring 64 = .ok (.iload 4, 2) := by decide +kernel
theorem dX3_bring_66 : decode cX3_bring 66 = .ok (.putfield 85, 3) := by decide +kernel
theorem dX3_bring_69 : decode cX3_bring 69 = .ok (.aload_n 1, 1) := by decide +kernel
theorem dX3_bring_70 : decode cX3_bring 70 = .ok (.iconst 0, 1) := by decide +kernel
theorem dX3_bring_71 : decode cX3_bring 71 = .ok (.putfield 109, 3) := by decide +kernel
theorem dX3_bring_74 : decode cX3_bring 74 = .ok (.return_, 1) := by decide +kernel
theorem dX3_yielderOn_0 : decode cX3_yielderOn 0 = .ok (.aconst_null, 1) := by decide +kernel
theorem dX3_yielderOn_1 : decode cX3_yielderOn 1 = .ok (.astore_n 3, 1) := by decide +kernel
theorem dX3_yielderOn_2 : decode cX3_yielderOn 2 = .ok (.iconst 0, 1) := by decide +kernel
theorem dX3_yielderOn_3 : decode cX3_yielderOn 3 = .ok (.istore 4, 2) := by decide +kernel
theorem dX3_yielderOn_5 : decode cX3_yielderOn 5 = .ok (.iload 4, 2) := by decide +kernel
theorem dX3_yielderOn_7 : decode cX3_yielderOn 7 = .ok (.aload_n 0, 1) := by decide +kernel
theorem dX3_yielderOn_8 : decode cX3_yielderOn 8 = .ok (.getfield 38, 3) := by decide +kernel
theorem dX3_yielderOn_11 : decode cX3_yielderOn 11 = .ok (.if_icmp .ge 55, 3) := by decide +kernel
theorem dX3_yielderOn_14 : decode cX3_yielderOn 14 = .ok (.aload_n 0, 1) := by decide +kernel
theorem dX3_yielderOn_15 : decode cX3_yielderOn 15 = .ok (.getfield 20, 3) := by decide +kernel
theorem dX3_yielderOn_18 : decode cX3_yielderOn 18 = .ok (.iload 4, 2) := by decide +kernel
theorem dX3_yielderOn_20 : decode cX3_yielderOn 20 = .ok (.aaload, 1) := by decide +kernel
theorem dX3_yielderOn_21 : decode cX3_yielderOn 21 = .ok (.astore 5, 2) := by decide +kernel
theorem dX3_yielderOn_23 : decode cX3_yielderOn 23 = .ok (.aload 5, 2) := by decide +kernel
theorem dX3_yielderOn_25 : decode cX3_yielderOn 25 = .ok (.iload_n 1, 1) := by decide +kernel
theorem dX3_yielderOn_26 : decode cX3_yielderOn 26 = .ok (.invokevirtual 69, 3) := by decide +kernel
theorem dX3_yielderOn_29 : decode cX3_yielderOn 29 = .ok (.ifCond .eq 31, 3) := by decide +kernel
theorem dX3_yielderOn_32 : decode cX3_yielderOn 32 = .ok (.aload 5, 2) := by decide +kernel
theorem dX3_yielderOn_34 : decode cX3_yielderOn 34 = .ok (.aload_n 2, 1) := by decide +kernel
theorem dX3_yielderOn_35 : decode cX3_yielderOn 35 = .ok (.invokevirtual 123, 3) := by decide +kernel
theorem dX3_yielderOn_38 : decode cX3_yielderOn 38 = .ok (.ifCond .eq 22, 3) := by decide +kernel
theorem dX3_yielderOn_41 : decode cX3_yielderOn 41 = .ok (.aload_n 3, 1) := by decide +kernel
theorem dX3_yielderOn_42 : decode cX3_yielderOn 42 = .ok (.ifnull 15, 3) := by decide +kernel
theorem dX3_yielderOn_45 : decode cX3_yielderOn 45 = .ok (.aload 5, 2) := by decide +kernel
theorem dX3_yielderOn_47 : decode cX3_yielderOn 47 = .ok (.getfield 72, 3) := by decide +kernel
theorem dX3_yielderOn_50 : decode cX3_yielderOn 50 = .ok (.aload_n 3, 1) := by decide +kernel
theorem dX3_yielderOn_51 : decode cX3_yielderOn 51 = .ok (.getfield 72, 3) := by decide +kernel
theorem dX3_yielderOn_54 : decode cX3_yielderOn 54 = .ok (.if_icmp .ge 6, 3) := by decide +kernel
theorem dX3_yielderOn_57 : decode cX3_yielderOn 57 = .ok (.aload 5, 2) := by decide +kernel
theorem dX3_yielderOn_59 : decode cX3_yielderOn 59 = .ok (.astore_n 3, 1) := by decide +kernel
theorem dX3_yielderOn_60 : decode cX3_yielderOn 60 = .ok (.iinc 4 1, 3) := by decide +kernel
theorem dX3_yielderOn_63 : decode cX3_yielderOn 63 = .ok (.goto (-58), 3) := by decide +kernel
theorem dX3_yielderOn_66 : decode cX3_yielderOn 66 = .ok (.aload_n 3, 1) := by decide +kernel
theorem dX3_yielderOn_67 : decode cX3_yielderOn 67 = .ok (.areturn, 1) := by decide +kernel
theorem dX3_isCleared_0 : decode cX3_isCleared 0 = .ok (.aload_n 2, 1) := by decide +kernel
theorem dX3_isCleared_1 : decode cX3_isCleared 1 = .ok (.getfield 109, 3) := by decide +kernel
theorem dX3_isCleared_4 : decode cX3_isCleared 4 = .ok (.aload_n 0, 1) := by decide +kernel
theorem dX3_isCleared_5 : decode cX3_isCleared 5 = .ok (.getfield 13, 3) := by decide +kernel
theorem dX3_isCleared_8 : decode cX3_isCleared 8 = .ok (.iconst 2, 1) := by decide +kernel
theorem dX3_isCleared_9 : decode cX3_isCleared 9 = .ok (.iaload, 1) := by decide +kernel
theorem dX3_isCleared_10 : decode cX3_isCleared 10 = .ok (.if_icmp .ge 5, 3) := by decide +kernel
theorem dX3_isCleared_13 : decode cX3_isCleared 13 = .ok (.iconst 0, 1) := by decide +kernel
theorem dX3_isCleared_14 : decode cX3_isCleared 14 = .ok (.ireturn, 1) := by decide +kernel
theorem dX3_isCleared_15 : decode cX3_isCleared 15 = .ok (.aload_n 0, 1) := by decide +kernel
theorem dX3_isCleared_16 : decode cX3_isCleared 16 = .ok (.iload_n 1, 1) := by decide +kernel
theorem dX3_isCleared_17 : decode cX3_isCleared 17 = .ok (.aload_n 2, 1) := by decide +kernel
theorem dX3_isCleared_18 : decode cX3_isCleared 18 = .ok (.invokevirtual 112, 3) := by decide +kernel
theorem dX3_isCleared_21 : decode cX3_isCleared 21 = .ok (.astore_n 3, 1) := by decide +kernel
theorem dX3_isCleared_22 : decode cX3_isCleared 22 = .ok (.aload_n 3, 1) := by decide +kernel
theorem dX3_isCleared_23 : decode cX3_isCleared 23 = .ok (.ifnonnull 5, 3) := by decide +kernel
theorem dX3_isCleared_26 : decode cX3_isCleared 26 = .ok (.iconst 0, 1) := by decide +kernel
theorem dX3_isCleared_27 : decode cX3_isCleared 27 = .ok (.ireturn, 1) := by decide +kernel
theorem dX3_isCleared_28 : decode cX3_isCleared 28 = .ok (.aload_n 3, 1) := by decide +kernel
theorem dX3_isCleared_29 : decode cX3_isCleared 29 = .ok (.invokevirtual 116, 3) := by decide +kernel
theorem dX3_isCleared_32 : decode cX3_isCleared 32 = .ok (.istore 4, 2) := by decide +kernel
theorem dX3_isCleared_34 : decode cX3_isCleared 34 = .ok (.iload 4, 2) := by decide +kernel
theorem dX3_isCleared_36 : decode cX3_isCleared 36 = .ok (.invokestatic 52, 3) := by decide +kernel
theorem dX3_isCleared_39 : decode cX3_isCleared 39 = .ok (.ifCond .eq 14, 3) := by decide +kernel
theorem dX3_isCleared_42 : decode cX3_isCleared 42 = .ok (.aload_n 0, 1) := by decide +kernel
theorem dX3_isCleared_43 : decode cX3_isCleared 43 = .ok (.iload 4, 2) := by decide +kernel
theorem dX3_isCleared_45 : decode cX3_isCleared 45 = .ok (.invokevirtual 99, 3) := by decide +kernel
theorem dX3_isCleared_48 : decode cX3_isCleared 48 = .ok (.ifCond .gt 5, 3) := by decide +kernel
theorem dX3_isCleared_51 : decode cX3_isCleared 51 = .ok (.iconst 0, 1) := by decide +kernel
theorem dX3_isCleared_52 : decode cX3_isCleared 52 = .ok (.ireturn, 1) := by decide +kernel
theorem dX3_isCleared_53 : decode cX3_isCleared 53 = .ok (.iload 4, 2) := by decide +kernel
theorem dX3_isCleared_55 : decode cX3_isCleared 55 = .ok (.invokestatic 52, 3) := by decide +kernel
theorem dX3_isCleared_58 : decode cX3_isCleared 58 = .ok (.ifCond .eq 15, 3) := by decide +kernel
theorem dX3_isCleared_61 : decode cX3_isCleared 61 = .ok (.aload_n 0, 1) := by decide +kernel
theorem dX3_isCleared_62 : decode cX3_isCleared 62 = .ok (.aload_n 3, 1) := by decide +kernel
theorem dX3_isCleared_63 : decode cX3_isCleared 63 = .ok (.iload 4, 2) := by decide +kernel
theorem dX3_isCleared_65 : decode cX3_isCleared 65 = .ok (.iconst 1, 1) := by decide +kernel
theorem dX3_isCleared_66 : decode cX3_isCleared 66 = .ok (.iconst 4, 1) := by decide +kernel
theorem dX3_isCleared_67 : decode cX3_isCleared 67 = .ok (.invokevirtual 95, 3) := by decide +kernel
theorem dX3_isCleared_70 : decode cX3_isCleared 70 = .ok (.goto 12, 3) := by decide +kernel
theorem dX3_isCleared_73 : decode cX3_isCleared 73 = .ok (.aload_n 0, 1) := by decide +kernel
theorem dX3_isCleared_74 : decode cX3_isCleared 74 = .ok (.aload_n 3, 1) := by decide +kernel
theorem dX3_isCleared_75 : decode cX3_isCleared 75 = .ok (.iload 4, 2) := by decide +kernel
theorem dX3_isCleared_77 : decode cX3_isCleared 77 = .ok (.iconst 3, 1) := by decide +kernel
theorem dX3_isCleared_78 : decode cX3_isCleared 78 = .ok (.iconst 5, 1) := by decide +kernel
theorem dX3_isCleared_79 : decode cX3_isCleared 79 = .ok (.invokevirtual 95, 3) := by decide +kernel
theorem dX3_isCleared_82 : decode cX3_isCleared 82 = .ok (.aload_n 3, 1) := by decide +kernel
theorem dX3_isCleared_83 : decode cX3_isCleared 83 = .ok (.aload_n 0, 1) := by decide +kernel
theorem dX3_isCleared_84 : decode cX3_isCleared 84 = .ok (.getfield 13, 3) := by decide +kernel
theorem dX3_isCleared_87 : decode cX3_isCleared 87 = .ok (.iconst 1, 1) := by decide +kernel
theorem dX3_isCleared_88 : decode cX3_isCleared 88 = .ok (.iaload, 1) := by decide +kernel
theorem dX3_isCleared_89 : decode cX3_isCleared 89 = .ok (.aload_n 2, 1) := by decide +kernel
theorem dX3_isCleared_90 : decode cX3_isCleared 90 = .ok (.getfield 72, 3) := by decide +kernel
theorem dX3_isCleared_93 : decode cX3_isCleared 93 = .ok (.aload_n 3, 1) := by decide +kernel
theorem dX3_isCleared_94 : decode cX3_isCleared 94 = .ok (.getfield 72, 3) := by decide +kernel
theorem dX3_isCleared_97 : decode cX3_isCleared 97 = .ok (.isub, 1) := by decide +kernel
theorem dX3_isCleared_98 : decode cX3_isCleared 98 = .ok (.iconst 1, 1) := by decide +kernel
theorem dX3_isCleared_99 : decode cX3_isCleared 99 = .ok (.iadd, 1) := by decide +kernel
theorem dX3_isCleared_100 : decode cX3_isCleared 100 = .ok (.imul, 1) := by decide +kernel
theorem dX3_isCleared_101 : decode cX3_isCleared 101 = .ok (.invokevirtual 119, 3) := by decide +kernel
theorem dX3_isCleared_104 : decode cX3_isCleared 104 = .ok (.iconst 1, 1) := by decide +kernel
theorem dX3_isCleared_105 : decode cX3_isCleared 105 = .ok (.ireturn, 1) := by decide +kernel
theorem dX3_move_0 : decode cX3_move 0 = .ok (.aload_n 1, 1) := by decide +kernel
theorem dX3_move_1 : decode cX3_move 1 = .ok (.invokevirtual 91, 3) := by decide +kernel
theorem dX3_move_4 : decode cX3_move 4 = .ok (.istore_n 2, 1) := by decide +kernel
theorem dX3_move_5 : decode cX3_move 5 = .ok (.iload_n 2, 1) := by decide +kernel
theorem dX3_move_6 : decode cX3_move 6 = .ok (.invokestatic 52, 3) := by decide +kernel
theorem dX3_move_9 : decode cX3_move 9 = .ok (.ifCond .ne 14, 3) := by decide +kernel
theorem dX3_move_12 : decode cX3_move 12 = .ok (.aload_n 0, 1) := by decide +kernel
theorem dX3_move_13 : decode cX3_move 13 = .ok (.aload_n 1, 1) := by decide +kernel
theorem dX3_move_14 : decode cX3_move 14 = .ok (.iload_n 2, 1) := by decide +kernel
theorem dX3_move_15 : decode cX3_move 15 = .ok (.iconst 2, 1) := by decide +kernel
theorem dX3_move_16 : decode cX3_move 16 = .ok (.iconst 2, 1) := by decide +kernel
theorem dX3_move_17 : decode cX3_move 17 = .ok (.invokevirtual 95, 3) := by decide +kernel
theorem dX3_move_20 : decode cX3_move 20 = .ok (.goto 35, 3) := by decide +kernel
theorem dX3_move_23 : decode cX3_move 23 = .ok (.aload_n 0, 1) := by decide +kernel
theorem dX3_move_24 : decode cX3_move 24 = .ok (.iload_n 2, 1) := by decide +kernel
theorem dX3_move_25 : decode cX3_move 25 = .ok (.invokevirtual 99, 3) := by decide +kernel
theorem dX3_move_28 : decode cX3_move 28 = .ok (.ifCond .gt 12, 3) := by decide +kernel
theorem dX3_move_31 : decode cX3_move 31 = .ok (.aload_n 0, 1) := by decide +kernel
theorem dX3_move_32 : decode cX3_move 32 = .ok (.iload_n 2, 1) := by decide +kernel
theorem dX3_move_33 : decode cX3_move 33 = .ok (.aload_n 1, 1) := by decide +kernel
theorem dX3_move_34 : decode cX3_move 34 = .ok (.invokevirtual 102, 3) := by decide +kernel
theorem dX3_move_37 : decode cX3_move 37 = .ok (.ifCond .eq 14, 3) := by decide +kernel
theorem dX3_move_40 : decode cX3_move 40 = .ok (.aload_n 0, 1) := by decide +kernel
theorem dX3_move_41 : decode cX3_move 41 = .ok (.aload_n 1, 1) := by decide +kernel
theorem dX3_move_42 : decode cX3_move 42 = .ok (.iload_n 2, 1) := by decide +kernel
theorem dX3_move_43 : decode cX3_move 43 = .ok (.iconst 1, 1) := by decide +kernel
theorem dX3_move_44 : decode cX3_move 44 = .ok (.iconst 1, 1) := by decide +kernel
theorem dX3_move_45 : decode cX3_move 45 = .ok (.invokevirtual 95, 3) := by decide +kernel
theorem dX3_move_48 : decode cX3_move 48 = .ok (.goto 7, 3) := by decide +kernel
theorem dX3_move_51 : decode cX3_move 51 = .ok (.aload_n 1, 1) := by decide +kernel
theorem dX3_move_52 : decode cX3_move 52 = .ok (.invokevirtual 106, 3) := by decide +kernel
theorem dX3_move_55 : decode cX3_move 55 = .ok (.return_, 1) := by decide +kernel
theorem dX3_tick_0 : decode cX3_tick 0 = .ok (.iconst 0, 1) := by decide +kernel
theorem dX3_tick_1 : decode cX3_tick 1 = .ok (.istore_n 1, 1) := by decide +kernel
theorem dX3_tick_2 : decode cX3_tick 2 = .ok (.iload_n 1, 1) := by decide +kernel
theorem dX3_tick_3 : decode cX3_tick 3 = .ok (.aload_n 0, 1) := by decide +kernel
theorem dX3_tick_4 : decode cX3_tick 4 = .ok (.getfield 38, 3) := by decide +kernel
theorem dX3_tick_7 : decode cX3_tick 7 = .ok (.if_icmp .ge 19, 3) := by decide +kernel
theorem dX3_tick_10 : decode cX3_tick 10 = .ok (.aload_n 0, 1) := by decide +kernel
theorem dX3_tick_11 : decode cX3_tick 11 = .ok (.getfield 20, 3) := by decide +kernel
theorem dX3_tick_14 : decode cX3_tick 14 = .ok (.iload_n 1, 1) := by decide +kernel
theorem dX3_tick_15 : decode cX3_tick 15 = .ok (.aaload, 1) := by decide +kernel
theorem dX3_tick_16 : decode cX3_tick 16 = .ok (.iconst 0, 1) := by decide +kernel
theorem dX3_tick_17 : decode cX3_tick 17 = .ok (.putfield 85, 3) := by decide +kernel
theorem dX3_tick_20 : decode cX3_tick 20 = .ok (.iinc 1 1, 3) := by decide +kernel
theorem dX3_tick_23 : decode cX3_tick 23 = .ok (.goto (-21), 3) := by decide +kernel
theorem dX3_tick_26 : decode cX3_tick 26 = .ok (.bipush 9, 2) := by decide +kernel
theorem dX3_tick_28 : decode cX3_tick 28 = .ok (.istore_n 1, 1) := by decide +kernel
theorem dX3_tick_29 : decode cX3_tick 29 = .ok (.iload_n 1, 1) := by decide +kernel
theorem dX3_tick_30 : decode cX3_tick 30 = .ok (.iconst 1, 1) := by decide +kernel
theorem dX3_tick_31 : decode cX3_tick 31 = .ok (.if_icmp .lt 60, 3) := by decide +kernel
theorem dX3_tick_34 : decode cX3_tick 34 = .ok (.iconst 0, 1) := by decide +kernel
theorem dX3_tick_35 : decode cX3_tick 35 = .ok (.istore_n 2, 1) := by decide +kernel
theorem dX3_tick_36 : decode cX3_tick 36 = .ok (.iload_n 2, 1) := by decide +kernel
theorem dX3_tick_37 : decode cX3_tick 37 = .ok (.aload_n 0, 1) := by decide +kernel
theorem dX3_tick_38 : decode cX3_tick 38 = .ok (.getfield 38, 3) := by decide +kernel
theorem dX3_tick_41 : decode cX3_tick 41 = .ok (.if_icmp .ge 44, 3) := by decide +kernel
theorem dX3_tick_44 : decode cX3_tick 44 = .ok (.aload_n 0, 1) := by decide +kernel
theorem dX3_tick_45 : decode cX3_tick 45 = .ok (.getfield 20, 3) := by decide +kernel
theorem dX3_tick_48 : decode cX3_tick 48 = .ok (.iload_n 2, 1) := by decide +kernel
theorem dX3_tick_49 : decode cX3_tick 49 = .ok (.aaload, 1) := by decide +kernel
theorem dX3_tick_50 : decode cX3_tick 50 = .ok (.astore_n 3, 1) := by decide +kernel
theorem dX3_tick_51 : decode cX3_tick 51 = .ok (.aload_n 3, 1) := by decide +kernel
theorem dX3_tick_52 : decode cX3_tick 52 = .ok (.getfield 72, 3) := by decide +kernel
theorem dX3_tick_55 : decode cX3_tick 55 = .ok (.iload_n 1, 1) := by decide +kernel
theorem dX3_tick_56 : decode cX3_tick 56 = .ok (.if_icmp .ne 23, 3) := by decide +kernel
theorem dX3_tick_59 : decode cX3_tick 59 = .ok (.aload_n 3, 1) := by decide +kernel
theorem dX3_tick_60 : decode cX3_tick 60 = .ok (.invokevirtual 81, 3) := by decide +kernel
theorem dX3_tick_63 : decode cX3_tick 63 = .ok (.ifCond .eq 16, 3) := by decide +kernel
theorem dX3_tick_66 : decode cX3_tick 66 = .ok (.aload_n 3, 1) := by decide +kernel
theorem dX3_tick_67 : decode cX3_tick 67 = .ok (.getfield 85, 3) := by decide +kernel
theorem dX3_tick_70 : decode cX3_tick 70 = .ok (.iconst 4, 1) := by decide +kernel
theorem dX3_tick_71 : decode cX3_tick 71 = .ok (.if_icmp .eq 8, 3) := by decide +kernel
theorem dX3_tick_74 : decode cX3_tick 74 = .ok (.aload_n 0, 1) := by decide +kernel
theorem dX3_tick_75 : decode cX3_tick 75 = .ok (.aload_n 3, 1) := by decide +kernel
theorem dX3_tick_76 : decode cX3_tick 76 = .ok (.invokevirtual 88, 3) := by decide +kernel
theorem dX3_tick_79 : decode cX3_tick 79 = .ok (.iinc 2 1, 3) := by decide +kernel
theorem dX3_tick_82 : decode cX3_tick 82 = .ok (.goto (-46), 3) := by decide +kernel
theorem dX3_tick_85 : decode cX3_tick 85 = .ok (.iinc 1 (-1), 3) := by decide +kernel
theorem dX3_tick_88 : decode cX3_tick 88 = .ok (.goto (-59), 3) := by decide +kernel
theorem dX3_tick_91 : decode cX3_tick 91 = .ok (.aload_n 0, 1) := by decide +kernel
theorem dX3_tick_92 : decode cX3_tick 92 = .ok (.dup, 1) := by decide +kernel
theorem dX3_tick_93 : decode cX3_tick 93 = .ok (.getfield 41, 3) := by decide +kernel
theorem dX3_tick_96 : decode cX3_tick 96 = .ok (.iconst 1, 1) := by decide +kernel
theorem dX3_tick_97 : decode cX3_tick 97 = .ok (.iadd, 1) := by decide +kernel
theorem dX3_tick_98 : decode cX3_tick 98 = .ok (.putfield 41, 3) := by decide +kernel
theorem dX3_tick_101 : decode cX3_tick 101 = .ok (.return_, 1) := by decide +kernel
theorem dX4_isSetting_0 : decode cX4_isSetting 0 = .ok (.iload_n 0, 1) := by decide +kernel
theorem dX4_isSetting_1 : decode cX4_isSetting 1 = .ok (.ifCond .lt 12, 3) := by decide +kernel
theorem dX4_isSetting_4 : decode cX4_isSetting 4 = .ok (.iload_n 0, 1) := by decide +kernel
theorem dX4_isSetting_5 : decode cX4_isSetting 5 = .ok (.iconst 2, 1) := by decide +kernel
theorem dX4_isSetting_6 : decode cX4_isSetting 6 = .ok (.if_icmp .gt 7, 3) := by decide +kernel
theorem dX4_isSetting_9 : decode cX4_isSetting 9 = .ok (.iconst 1, 1) := by decide +kernel
theorem dX4_isSetting_10 : decode cX4_isSetting 10 = .ok (.goto 4, 3) := by decide +kernel
theorem dX4_isSetting_13 : decode cX4_isSetting 13 = .ok (.iconst 0, 1) := by decide +kernel
theorem dX4_isSetting_14 : decode cX4_isSetting 14 = .ok (.ireturn, 1) := by decide +kernel
theorem dX4_set_0 : decode cX4_set 0 = .ok (.iload_n 1, 1) := by decide +kernel
theorem dX4_set_1 : decode cX4_set 1 = .ok (.invokestatic 41, 3) := by decide +kernel
theorem dX4_set_4 : decode cX4_set 4 = .ok (.ifCond .eq 21, 3) := by decide +kernel
theorem dX4_set_7 : decode cX4_set 7 = .ok (.iload_n 2, 1) := by decide +kernel
theorem dX4_set_8 : decode cX4_set 8 = .ok (.getstatic 45, 3) := by decide +kernel
theorem dX4_set_11 : decode cX4_set 11 = .ok (.iload_n 1, 1) := by decide +kernel
theorem dX4_set_12 : decode cX4_set 12 = .ok (.iaload, 1) := by decide +kernel
theorem dX4_set_13 : decode cX4_set 13 = .ok (.if_icmp .lt 12, 3) := by decide +kernel
theorem dX4_set_16 : decode cX4_set 16 = .ok (.iload_n 2, 1) := by decide +kernel
theorem dX4_set_17 : decode cX4_set 17 = .ok (.getstatic 49, 3) := by decide +kernel
theorem dX4_set_20 : decode cX4_set 20 = .ok (.iload_n 1, 1) := by decide +kernel
theorem dX4_set_21 : decode cX4_set 21 = .ok (.iaload, 1) := by decide +kernel
theorem dX4_set_22 : decode cX4_set 22 = .ok (.if_icmp .le 6, 3) := by decide +kernel
theorem dX4_set_25 : decode cX4_set 25 = .ok (.bipush (-2), 2) := by decide +kernel
theorem dX4_set_27 : decode cX4_set 27 = .ok (.ireturn, 1) := by decide +kernel
theorem dX4_set_28 : decode cX4_set 28 = .ok (.iload_n 1, 1) := by decide +kernel
theorem dX4_set_29 : decode cX4_set 29 = .ok (.ifCond .ne 17, 3) := by decide +kernel
theorem dX4_set_32 : decode cX4_set 32 = .ok (.aload_n 0, 1) := by decide +kernel
theorem dX4_set_33 : decode cX4_set 33 = .ok (.getfield 10, 3) := by decide +kernel
theorem dX4_set_36 : decode cX4_set 36 = .ok (.invokevirtual 52, 3) := by decide +kernel
theorem dX4_set_39 : decode cX4_set 39 = .ok (.iload_n 2, 1) := by decide +kernel
theorem dX4_set_40 : decode cX4_set 40 = .ok (.if_icmp .le 6, 3) := by decide +kernel
theorem dX4_set_43 : decode cX4_set 43 = .ok (.bipush (-5), 2) := by decide +kernel
theorem dX4_set_45 : decode cX4_set 45 = .ok (.ireturn, 1) := by decide +kernel
theorem dX4_set_46 : decode cX4_set 46 = .ok (.aload_n 0, 1) := by decide +kernel
theorem dX4_set_47 : decode cX4_set 47 = .ok (.getfield 22, 3) := by decide +kernel
theorem dX4_set_50 : decode cX4_set 50 = .ok (.aload_n 0, 1) := by decide +kernel
theorem dX4_set_51 : decode cX4_set 51 = .ok (.getfield 10, 3) := by decide +kernel
theorem dX4_set_54 : decode cX4_set 54 = .ok (.invokevirtual 56, 3) := by decide +kernel
theorem dX4_set_57 : decode cX4_set 57 = .ok (.aload_n 0, 1) := by decide +kernel
theorem dX4_set_58 : decode cX4_set 58 = .ok (.getfield 10, 3) := by decide +kernel
theorem dX4_set_61 : decode cX4_set 61 = .ok (.getfield 60, 3) := by decide +kernel
theorem dX4_set_64 : decode cX4_set 64 = .ok (.iload_n 1, 1) := by decide +kernel
theorem dX4_set_65 : decode cX4_set 65 = .ok (.iaload, 1) := by decide +kernel
theorem dX4_set_66 : decode cX4_set 66 = .ok (.istore_n 3, 1) := by decide +kernel
theorem dX4_set_67 : decode cX4_set 67 = .ok (.aload_n 0, 1) := by decide +kernel
theorem dX4_set_68 : decode cX4_set 68 = .ok (.getfield 10, 3) := by decide +kernel
theorem dX4_set_71 : decode cX4_set 71 = .ok (.getfield 60, 3) := by decide +kernel
theorem dX4_set_74 : decode cX4_set 74 = .ok (.iload_n 1, 1) := by decide +kernel
theorem dX4_set_75 : decode cX4_set 75 = .ok (.iload_n 2, 1) := by decide +kernel
theorem dX4_set_76 : decode cX4_set 76 = .ok (.iastore, 1) := by decide +kernel
theorem dX4_set_77 : decode cX4_set 77 = .ok (.iload_n 3, 1) := by decide +kernel
theorem dX4_set_78 : decode cX4_set 78 = .ok (.ireturn, 1) := by decide +kernel
theorem dJ6_bitCount_0f7a4_0 : decode cJ6_bitCount_0f7a4 0 = .ok (.iload_n 0, 1) := by decide +kernel
theorem dJ6_bitCount_0f7a4_1 : decode cJ6_bitCount_0f7a4 1 = .ok (.iload_n 0, 1) := by decide +kernel
theorem dJ6_bitCount_0f7a4_2 : decode cJ6_bitCount_0f7a4 2 = .ok (.iconst 1, 1) := by decide +kernel
theorem dJ6_bitCount_0f7a4_3 : decode cJ6_bitCount_0f7a4 3 = .ok (.iushr, 1) := by decide +kernel
theorem dJ6_bitCount_0f7a4_4 : decode cJ6_bitCount_0f7a4 4 = .ok (.ldc_w 265, 3) := by decide +kernel
theorem dJ6_bitCount_0f7a4_7 : decode cJ6_bitCount_0f7a4 7 = .ok (.iand, 1) := by decide +kernel
theorem dJ6_bitCount_0f7a4_8 : decode cJ6_bitCount_0f7a4 8 = .ok (.isub, 1) := by decide +kernel
theorem dJ6_bitCount_0f7a4_9 : decode cJ6_bitCount_0f7a4 9 = .ok (.istore_n 0, 1) := by decide +kernel
theorem dJ6_bitCount_0f7a4_10 : decode cJ6_bitCount_0f7a4 10 = .ok (.iload_n 0, 1) := by decide +kernel
theorem dJ6_bitCount_0f7a4_11 : decode cJ6_bitCount_0f7a4 11 = .ok (.ldc_w 266, 3) := by decide +kernel
theorem dJ6_bitCount_0f7a4_14 : decode cJ6_bitCount_0f7a4 14 = .ok (.iand, 1) := by decide +kernel
theorem dJ6_bitCount_0f7a4_15 : decode cJ6_bitCount_0f7a4 15 = .ok (.iload_n 0, 1) := by decide +kernel
theorem dJ6_bitCount_0f7a4_16 : decode cJ6_bitCount_0f7a4 16 = .ok (.iconst 2, 1) := by decide +kernel
theorem dJ6_bitCount_0f7a4_17 : decode cJ6_bitCount_0f7a4 17 = .ok (.iushr, 1) := by decide +kernel
theorem dJ6_bitCount_0f7a4_18 : decode cJ6_bitCount_0f7a4 18 = .ok (.ldc_w 266, 3) := by decide +kernel
theorem dJ6_bitCount_0f7a4_21 : decode cJ6_bitCount_0f7a4 21 = .ok (.iand, 1) := by decide +kernel
theorem dJ6_bitCount_0f7a4_22 : decode cJ6_bitCount_0f7a4 22 = .ok (.iadd, 1) := by decide +kernel
theorem dJ6_bitCount_0f7a4_23 : decode cJ6_bitCount_0f7a4 23 = .ok (.istore_n 0, 1) := by decide +kernel
theorem dJ6_bitCount_0f7a4_24 : decode cJ6_bitCount_0f7a4 24 = .ok (.iload_n 0, 1) := by decide +kernel
theorem dJ6_bitCount_0f7a4_25 : decode cJ6_bitCount_0f7a4 25 = .ok (.iload_n 0, 1) := by decide +kernel
theorem dJ6_bitCount_0f7a4_26 : decode cJ6_bitCount_0f7a4 26 = .ok (.iconst 4, 1) := by decide +kernel
theorem dJ6_bitCount_0f7a4_27 : decode cJ6_bitCount_0f7a4 27 = .ok (.iushr, 1) := by decide +kernel
theorem dJ6_bitCount_0f7a4_28 : decode cJ6_bitCount_0f7a4 28 = .ok (.iadd, 1) := by decide +kernel
theorem dJ6_bitCount_0f7a4_29 : decode cJ6_bitCount_0f7a4 29 = .ok (.ldc_w 267, 3) := by decide +kernel
theorem dJ6_bitCount_0f7a4_32 : decode cJ6_bitCount_0f7a4 32 = .ok (.iand, 1) := by decide +kernel
theorem dJ6_bitCount_0f7a4_33 : decode cJ6_bitCount_0f7a4 33 = .ok (.istore_n 0, 1) := by decide +kernel
theorem dJ6_bitCount_0f7a4_34 : decode cJ6_bitCount_0f7a4 34 = .ok (.iload_n 0, 1) := by decide +kernel
theorem dJ6_bitCount_0f7a4_35 : decode cJ6_bitCount_0f7a4 35 = .ok (.iload_n 0, 1) := by decide +kernel
theorem dJ6_bitCount_0f7a4_36 : decode cJ6_bitCount_0f7a4 36 = .ok (.bipush 8, 2) := by decide +kernel
theorem dJ6_bitCount_0f7a4_38 : decode cJ6_bitCount_0f7a4 38 = .ok (.iushr, 1) := by decide +kernel
theorem dJ6_bitCount_0f7a4_39 : decode cJ6_bitCount_0f7a4 39 = .ok (.iadd, 1) := by decide +kernel
theorem dJ6_bitCount_0f7a4_40 : decode cJ6_bitCount_0f7a4 40 = .ok (.istore_n 0, 1) := by decide +kernel
theorem dJ6_bitCount_0f7a4_41 : decode cJ6_bitCount_0f7a4 41 = .ok (.iload_n 0, 1) := by decide +kernel
theorem dJ6_bitCount_0f7a4_42 : decode cJ6_bitCount_0f7a4 42 = .ok (.iload_n 0, 1) := by decide +kernel
theorem dJ6_bitCount_0f7a4_43 : decode cJ6_bitCount_0f7a4 43 = .ok (.bipush 16, 2) := by decide +kernel
theorem dJ6_bitCount_0f7a4_45 : decode cJ6_bitCount_0f7a4 45 = .ok (.iushr, 1) := by decide +kernel
theorem dJ6_bitCount_0f7a4_46 : decode cJ6_bitCount_0f7a4 46 = .ok (.iadd, 1) := by decide +kernel
theorem dJ6_bitCount_0f7a4_47 : decode cJ6_bitCount_0f7a4 47 = .ok (.istore_n 0, 1) := by decide +kernel
theorem dJ6_bitCount_0f7a4_48 : decode cJ6_bitCount_0f7a4 48 = .ok (.iload_n 0, 1) := by decide +kernel
theorem dJ6_bitCount_0f7a4_49 : decode cJ6_bitCount_0f7a4 49 = .ok (.bipush 63, 2) := by decide +kernel
theorem dJ6_bitCount_0f7a4_51 : decode cJ6_bitCount_0f7a4 51 = .ok (.iand, 1) := by decide +kernel
theorem dJ6_bitCount_0f7a4_52 : decode cJ6_bitCount_0f7a4 52 = .ok (.ireturn, 1) := by decide +kernel
theorem dX4_landing_0 : decode cX4_landing 0 = .ok (.iload_n 1, 1) := by decide +kernel
theorem dX4_landing_1 : decode cX4_landing 1 = .ok (.invokestatic 63, 3) := by decide +kernel
theorem dX4_landing_4 : decode cX4_landing 4 = .ok (.ifCond .ne 5, 3) := by decide +kernel
theorem dX4_landing_7 : decode cX4_landing 7 = .ok (.iconst (-1), 1) := by decide +kernel
theorem dX4_landing_8 : decode cX4_landing 8 = .ok (.ireturn, 1) := by decide +kernel
theorem dX4_landing_9 : decode cX4_landing 9 = .ok (.aload_n 0, 1) := by decide +kernel
theorem dX4_landing_10 : decode cX4_landing 10 = .ok (.getfield 10, 3) := by decide +kernel
theorem dX4_landing_13 : decode cX4_landing 13 = .ok (.iload_n 1, 1) := by decide +kernel
theorem dX4_landing_14 : decode cX4_landing 14 = .ok (.invokevirtual 66, 3) := by decide +kernel
theorem dX4_landing_17 : decode cX4_landing 17 = .ok (.iload_n 2, 1) := by decide +kernel
theorem dX4_landing_18 : decode cX4_landing 18 = .ok (.if_icmp .eq 15, 3) := by decide +kernel
theorem dX4_landing_21 : decode cX4_landing 21 = .ok (.aload_n 0, 1) := by decide +kernel
theorem dX4_landing_22 : decode cX4_landing 22 = .ok (.getfield 10, 3) := by decide +kernel
theorem dX4_landing_25 : decode cX4_landing 25 = .ok (.iload_n 1, 1) := by decide +kernel
theorem dX4_landing_26 : decode cX4_landing 26 = .ok (.invokevirtual 69, 3) := by decide +kernel
theorem dX4_landing_29 : decode cX4_landing 29 = .ok (.iconst 1, 1) := by decide +kernel
theorem dX4_landing_30 : decode cX4_landing 30 = .ok (.if_icmp .le 6, 3) := by decide +kernel
theorem dX4_landing_33 : decode cX4_landing 33 = .ok (.bipush (-5), 2) := by decide +kernel
theorem dX4_landing_35 : decode cX4_landing 35 = .ok (.ireturn, 1) := by decide +kernel
theorem dX4_landing_36 : decode cX4_landing 36 = .ok (.aload_n 0, 1) := by decide +kernel
theorem dX4_landing_37 : decode cX4_landing 37 = .ok (.getfield 22, 3) := by decide +kernel
theorem dX4_landing_40 : decode cX4_landing 40 = .ok (.aload_n 0, 1) := by decide +kernel
theorem dX4_landing_41 : decode cX4_landing 41 = .ok (.getfield 10, 3) := by decide +kernel
theorem dX4_landing_44 : decode cX4_landing 44 = .ok (.invokevirtual 56, 3) := by decide +kernel
theorem dX4_landing_47 : decode cX4_landing 47 = .ok (.aload_n 0, 1) := by decide +kernel
theorem dX4_landing_48 : decode cX4_landing 48 = .ok (.getfield 10, 3) := by decide +kernel
theorem dX4_landing_51 : decode cX4_landing 51 = .ok (.dup, 1) := by decide +kernel
theorem dX4_landing_52 : decode cX4_landing 52 = .ok (.getfield 73, 3) := by decide +kernel
theorem dX4_landing_55 : decode cX4_landing 55 = .ok (.iconst 1, 1) := by decide +kernel
theorem dX4_landing_56 : decode cX4_landing 56 = .ok (.iload_n 1, 1) := by decide +kernel
theorem dX4_landing_57 : decode cX4_landing 57 = .ok (.ishl, 1) := by decide +kernel
theorem dX4_landing_58 : decode cX4_landing 58 = .ok (.ixor, 1) := by decide +kernel
theorem dX4_landing_59 : decode cX4_landing 59 = .ok (.putfield 73, 3) := by decide +kernel
theorem dX4_landing_62 : decode cX4_landing 62 = .ok (.aload_n 0, 1) := by decide +kernel
theorem dX4_landing_63 : decode cX4_landing 63 = .ok (.getfield 10, 3) := by decide +kernel
theorem dX4_landing_66 : decode cX4_landing 66 = .ok (.getfield 73, 3) := by decide +kernel
theorem dX4_landing_69 : decode cX4_landing 69 = .ok (.invokestatic 77, 3) := by decide +kernel
theorem dX4_landing_72 : decode cX4_landing 72 = .ok (.ireturn, 1) := by decide +kernel
theorem dX4_come_0 : decode cX4_come 0 = .ok (.iload_n 1, 1) := by decide +kernel
theorem dX4_come_1 : decode cX4_come 1 = .ok (.iconst 1, 1) := by decide +kernel
theorem dX4_come_2 : decode cX4_come 2 = .ok (.if_icmp .lt 9, 3) := by decide +kernel
theorem dX4_come_5 : decode cX4_come 5 = .ok (.iload_n 1, 1) := by decide +kernel
theorem dX4_come_6 : decode cX4_come 6 = .ok (.bipush 9, 2) := by decide +kernel
theorem dX4_come_8 : decode cX4_come 8 = .ok (.if_icmp .le 6, 3) := by decide +kernel
theorem dX4_come_11 : decode cX4_come 11 = .ok (.bipush (-2), 2) := by decide +kernel
theorem dX4_come_13 : decode cX4_come 13 = .ok (.ireturn, 1) := by decide +kernel
theorem dX4_come_14 : decode cX4_come 14 = .ok (.aload_n 0, 1) := by decide +kernel
theorem dX4_come_15 : decode cX4_come 15 = .ok (.getfield 10, 3) := by decide +kernel
theorem dX4_come_18 : decode cX4_come 18 = .ok (.getfield 82, 3) := by decide +kernel
theorem dX4_come_21 : decode cX4_come 21 = .ok (.bipush 24, 2) := by decide +kernel
theorem dX4_come_23 : decode cX4_come 23 = .ok (.if_icmp .lt 6, 3) := by decide +kernel
theorem dX4_come_26 : decode cX4_come 26 = .ok (.bipush (-4), 2) := by decide +kernel
theorem dX4_come_28 : decode cX4_come 28 = .ok (.ireturn, 1) := by decide +kernel
theorem dX4_come_29 : decode cX4_come 29 = .ok (.aload_n 0, 1) := by decide +kernel
theorem dX4_come_30 : decode cX4_come 30 = .ok (.getfield 22, 3) := by decide +kernel
theorem dX4_come_33 : decode cX4_come 33 = .ok (.aload_n 0, 1) := by decide +kernel
theorem dX4_come_34 : decode cX4_come 34 = .ok (.getfield 10, 3) := by decide +kernel
theorem dX4_come_37 : decode cX4_come 37 = .ok (.invokevirtual 56, 3) := by decide +kernel
theorem dX4_come_40 : decode cX4_come 40 = .ok (.aload_n 0, 1) := by decide +kernel
theorem dX4_come_41 : decode cX4_come 41 = .ok (.getfield 10, 3) := by decide +kernel
theorem dX4_come_44 : decode cX4_come 44 = .ok (.iload_n 1, 1) := by decide +kernel
theorem dX4_come_45 : decode cX4_come 45 = .ok (.iload_n 2, 1) := by decide +kernel
theorem dX4_come_46 : decode cX4_come 46 = .ok (.invokevirtual 85, 3) := by decide +kernel
theorem dX4_come_49 : decode cX4_come 49 = .ok (.aload_n 0, 1) := by decide +kernel
theorem dX4_come_50 : decode cX4_come 50 = .ok (.getfield 10, 3) := by decide +kernel
theorem dX4_come_53 : decode cX4_come 53 = .ok (.getfield 82, 3) := by decide +kernel
theorem dX4_come_56 : decode cX4_come 56 = .ok (.iconst 1, 1) := by decide +kernel
theorem dX4_come_57 : decode cX4_come 57 = .ok (.isub, 1) := by decide +kernel
theorem dX4_come_58 : decode cX4_come 58 = .ok (.ireturn, 1) := by decide +kernel
theorem dX4_read_0 : decode cX4_read 0 = .ok (.aload_n 0, 1) := by decide +kernel
theorem dX4_read_1 : decode cX4_read 1 = .ok (.getfield 37, 3) := by decide +kernel
theorem dX4_read_4 : decode cX4_read 4 = .ok (.invokevirtual 89, 3) := by decide +kernel
theorem dX4_read_7 : decode cX4_read 7 = .ok (.bipush (-6), 2) := by decide +kernel
theorem dX4_read_9 : decode cX4_read 9 = .ok (.if_icmp .eq 6, 3) := by decide +kernel
theorem dX4_read_12 : decode cX4_read 12 = .ok (.bipush (-3), 2) := by decide +kernel
theorem dX4_read_14 : decode cX4_read 14 = .ok (.ireturn, 1) := by decide +kernel
theorem dX4_read_15 : decode cX4_read 15 = .ok (.aload_n 0, 1) := by decide +kernel
theorem dX4_read_16 : decode cX4_read 16 = .ok (.getfield 37, 3) := by decide +kernel
theorem dX4_read_19 : decode cX4_read 19 = .ok (.getfield 92, 3) := by decide +kernel
theorem dX4_read_22 : decode cX4_read 22 = .ok (.iconst 2, 1) := by decide +kernel
theorem dX4_read_23 : decode cX4_read 23 = .ok (.idiv, 1) := by decide +kernel
theorem dX4_read_24 : decode cX4_read 24 = .ok (.istore_n 1, 1) := by decide +kernel
theorem dX4_read_25 : decode cX4_read 25 = .ok (.aload_n 0, 1) := by decide +kernel
theorem dX4_read_26 : decode cX4_read 26 = .ok (.getfield 10, 3) := by decide +kernel
theorem dX4_read_29 : decode cX4_read 29 = .ok (.getfield 82, 3) := by decide +kernel
theorem dX4_read_32 : decode cX4_read 32 = .ok (.iload_n 1, 1) := by decide +kernel
theorem dX4_read_33 : decode cX4_read 33 = .ok (.iadd, 1) := by decide +kernel
theorem dX4_read_34 : decode cX4_read 34 = .ok (.bipush 24, 2) := by decide +kernel
theorem dX4_read_36 : decode cX4_read 36 = .ok (.if_icmp .le 6, 3) := by decide +kernel
theorem dX4_read_39 : decode cX4_read 39 = .ok (.bipush (-4), 2) := by decide +kernel
theorem dX4_read_41 : decode cX4_read 41 = .ok (.ireturn, 1) := by decide +kernel
theorem dX4_read_42 : decode cX4_read 42 = .ok (.aload_n 0, 1) := by decide +kernel
theorem dX4_read_43 : decode cX4_read 43 = .ok (.getfield 22, 3) := by decide +kernel
theorem dX4_read_46 : decode cX4_read 46 = .ok (.aload_n 0, 1) := by decide +kernel
theorem dX4_read_47 : decode cX4_read 47 = .ok (.getfield 10, 3) := by decide +kernel
theorem dX4_read_50 : decode cX4_read 50 = .ok (.invokevirtual 56, 3) := by decide +kernel
theorem dX4_read_53 : decode cX4_read 53 = .ok (.iconst 0, 1) := by decide +kernel
theorem dX4_read_54 : decode cX4_read 54 = .ok (.istore_n 2, 1) := by decide +kernel
theorem dX4_read_55 : decode cX4_read 55 = .ok (.iload_n 2, 1) := by decide +kernel
theorem dX4_read_56 : decode cX4_read 56 = .ok (.iload_n 1, 1) := by decide +kernel
theorem dX4_read_57 : decode cX4_read 57 = .ok (.if_icmp .ge 32, 3) := by decide +kernel
theorem dX4_read_60 : decode cX4_read 60 = .ok (.aload_n 0, 1) := by decide +kernel
theorem dX4_read_61 : decode cX4_read 61 = .ok (.getfield 10, 3) := by decide +kernel
theorem dX4_read_64 : decode cX4_read 64 = .ok (.aload_n 0, 1) := by decide +kernel
theorem dX4_read_65 : decode cX4_read 65 = .ok (.getfield 37, 3) := by decide +kernel
theorem dX4_read_68 : decode cX4_read 68 = .ok (.iload_n 2, 1) := by decide +kernel
theorem dX4_read_69 : decode cX4_read 69 = .ok (.invokevirtual 95, 3) := by decide +kernel
theorem dX4_read_72 : decode cX4_read 72 = .ok (.aload_n 0, 1) := by decide +kernel
theorem dX4_read_73 : decode cX4_read 73 = .ok (.getfield 37, 3) := by decide +kernel
theorem dX4_read_76 : decode cX4_read 76 = .ok (.iload_n 2, 1) := by decide +kernel
theorem dX4_read_77 : decode cX4_read 77 = .ok (.invokevirtual 98, 3) := by decide +kernel
theorem dX4_read_80 : decode cX4_read 80 = .ok (.invokevirtual 85, 3) := by decide +kernel
theorem dX4_read_83 : decode cX4_read 83 = .ok (.iinc 2 1, 3) := by decide +kernel
theorem dX4_read_86 : decode cX4_read 86 = .ok (.goto (-31), 3) := by decide +kernel
theorem dX4_read_89 : decode cX4_read 89 = .ok (.aload_n 0, 1) := by decide +kernel
theorem dX4_read_90 : decode cX4_read 90 = .ok (.getfield 37, 3) := by decide +kernel
theorem dX4_read_93 : decode cX4_read 93 = .ok (.iconst 0, 1) := by decide +kernel
theorem dX4_read_94 : decode cX4_read 94 = .ok (.putfield 92, 3) := by decide +kernel
theorem dX4_read_97 : decode cX4_read 97 = .ok (.aload_n 0, 1) := by decide +kernel
theorem dX4_read_98 : decode cX4_read 98 = .ok (.getfield 10, 3) := by decide +kernel
theorem dX4_read_101 : decode cX4_read 101 = .ok (.getfield 82, 3) := by decide +kernel
theorem dX4_read_104 : decode cX4_read 104 = .ok (.ireturn, 1) := by decide +kernel
theorem dX4_isPerson_0 : decode cX4_isPerson 0 = .ok (.iload_n 1, 1) := by decide +kernel
theorem dX4_isPerson_1 : decode cX4_isPerson 1 = .ok (.ifCond .lt 18, 3) := by decide +kernel
theorem dX4_isPerson_4 : decode cX4_isPerson 4 = .ok (.iload_n 1, 1) := by decide +kernel
theorem dX4_isPerson_5 : decode cX4_isPerson 5 = .ok (.aload_n 0, 1) := by decide +kernel
theorem dX4_isPerson_6 : decode cX4_isPerson 6 = .ok (.getfield 10, 3) := by decide +kernel
theorem dX4_isPerson_9 : decode cX4_isPerson 9 = .ok (.getfield 82, 3) := by decide +kernel
theorem dX4_isPerson_12 : decode cX4_isPerson 12 = .ok (.if_icmp .ge 7, 3) := by decide +kernel
theorem dX4_isPerson_15 : decode cX4_isPerson 15 = .ok (.iconst 1, 1) := by decide +kernel
theorem dX4_isPerson_16 : decode cX4_isPerson 16 = .ok (.goto 4, 3) := by decide +kernel
theorem dX4_isPerson_19 : decode cX4_isPerson 19 = .ok (.iconst 0, 1) := by decide +kernel
theorem dX4_isPerson_20 : decode cX4_isPerson 20 = .ok (.ireturn, 1) := by decide +kernel
theorem dX4_turn_0 : decode cX4_turn 0 = .ok (.aload_n 0, 1) := by decide +kernel
theorem dX4_turn_1 : decode cX4_turn 1 = .ok (.iload_n 1, 1) := by decide +kernel
theorem dX4_turn_2 : decode cX4_turn 2 = .ok (.invokevirtual 101, 3) := by decide +kernel
theorem dX4_turn_5 : decode cX4_turn 5 = .ok (.ifCond .ne 5, 3) := by decide +kernel
theorem dX4_turn_8 : decode cX4_turn 8 = .ok (.iconst (-1), 1) := by decide +kernel
theorem dX4_turn_9 : decode cX4_turn 9 = .ok (.ireturn, 1) := by decide +kernel
theorem dX4_turn_10 : decode cX4_turn 10 = .ok (.aload_n 0, 1) := by decide +kernel
theorem dX4_turn_11 : decode cX4_turn 11 = .ok (.getfield 10, 3) := by decide +kernel
theorem dX4_turn_14 : decode cX4_turn 14 = .ok (.getfield 104, 3) := by decide +kernel
theorem dX4_turn_17 : decode cX4_turn 17 = .ok (.iload_n 1, 1) := by decide +kernel
theorem dX4_turn_18 : decode cX4_turn 18 = .ok (.aaload, 1) := by decide +kernel
theorem dX4_turn_19 : decode cX4_turn 19 = .ok (.astore_n 2, 1) := by decide +kernel
theorem dX4_turn_20 : decode cX4_turn 20 = .ok (.aload_n 2, 1) := by decide +kernel
theorem dX4_turn_21 : decode cX4_turn 21 = .ok (.getfield 108, 3) := by decide +kernel
theorem dX4_turn_24 : decode cX4_turn 24 = .ok (.iconst 1, 1) := by decide +kernel
theorem dX4_turn_25 : decode cX4_turn 25 = .ok (.if_icmp .eq 6, 3) := by decide +kernel
theorem dX4_turn_28 : decode cX4_turn 28 = .ok (.bipush (-5), 2) := by decide +kernel
theorem dX4_turn_30 : decode cX4_turn 30 = .ok (.ireturn, 1) := by decide +kernel
theorem dX4_turn_31 : decode cX4_turn 31 = .ok (.aload_n 0, 1) := by decide +kernel
theorem dX4_turn_32 : decode cX4_turn 32 = .ok (.getfield 22, 3) := by decide +kernel
theorem dX4_turn_35 : decode cX4_turn 35 = .ok (.aload_n 0, 1) := by decide +kernel
theorem dX4_turn_36 : decode cX4_turn 36 = .ok (.getfield 10, 3) := by decide +kernel
theorem dX4_turn_39 : decode cX4_turn 39 = .ok (.invokevirtual 56, 3) := by decide +kernel
theorem dX4_turn_42 : decode cX4_turn 42 = .ok (.aload_n 2, 1) := by decide +kernel
theorem dX4_turn_43 : decode cX4_turn 43 = .ok (.aload_n 2, 1) := by decide +kernel
theorem dX4_turn_44 : decode cX4_turn 44 = .ok (.getfield 113, 3) := by decide +kernel
theorem dX4_turn_47 : decode cX4_turn 47 = .ok (.ifCond .ne 7, 3) := by decide +kernel
theorem dX4_turn_50 : decode cX4_turn 50 = .ok (.iconst 1, 1) := by decide +kernel
theorem dX4_turn_51 : decode cX4_turn 51 = .ok (.goto 4, 3) := by decide +kernel
theorem dX4_turn_54 : decode cX4_turn 54 = .ok (.iconst 0, 1) := by decide +kernel
theorem dX4_turn_55 : decode cX4_turn 55 = .ok (.putfield 113, 3) := by decide +kernel
theorem dX4_turn_58 : decode cX4_turn 58 = .ok (.aload_n 2, 1) := by decide +kernel
theorem dX4_turn_59 : decode cX4_turn 59 = .ok (.getfield 113, 3) := by decide +kernel
theorem dX4_turn_62 : decode cX4_turn 62 = .ok (.ifCond .eq 7, 3) := by decide +kernel
theorem dX4_turn_65 : decode cX4_turn 65 = .ok (.iconst 1, 1) := by decide +kernel
theorem dX4_turn_66 : decode cX4_turn 66 = .ok (.goto 4, 3) := by decide +kernel
theorem dX4_turn_69 : decode cX4_turn 69 = .ok (.iconst 0, 1) := by decide +kernel
theorem dX4_turn_70 : decode cX4_turn 70 = .ok (.ireturn, 1) := by decide +kernel
theorem dX4_pass_0 : decode cX4_pass 0 = .ok (.iload_n 1, 1) := by decide +kernel
theorem dX4_pass_1 : decode cX4_pass 1 = .ok (.iconst 1, 1) := by decide +kernel
theorem dX4_pass_2 : decode cX4_pass 2 = .ok (.if_icmp .lt 9, 3) := by decide +kernel
theorem dX4_pass_5 : decode cX4_pass 5 = .ok (.iload_n 1, 1) := by decide +kernel
theorem dX4_pass_6 : decode cX4_pass 6 = .ok (.bipush 99, 2) := by decide +kernel
theorem dX4_pass_8 : decode cX4_pass 8 = .ok (.if_icmp .le 6, 3) := by decide +kernel
theorem dX4_pass_11 : decode cX4_pass 11 = .ok (.bipush (-2), 2) := by decide +kernel
theorem dX4_pass_13 : decode cX4_pass 13 = .ok (.ireturn, 1) := by decide +kernel
theorem dX4_pass_14 : decode cX4_pass 14 = .ok (.aload_n 0, 1) := by decide +kernel
theorem dX4_pass_15 : decode cX4_pass 15 = .ok (.getfield 10, 3) := by decide +kernel
theorem dX4_pass_18 : decode cX4_pass 18 = .ok (.getfield 117, 3) := by decide +kernel
theorem dX4_pass_21 : decode cX4_pass 21 = .ok (.iload_n 1, 1) := by decide +kernel
theorem dX4_pass_22 : decode cX4_pass 22 = .ok (.iadd, 1) := by decide +kernel
theorem dX4_pass_23 : decode cX4_pass 23 = .ok (.sipush 9999, 3) := by decide +kernel
theorem dX4_pass_26 : decode cX4_pass 26 = .ok (.if_icmp .le 6, 3) := by decide +kernel
theorem dX4_pass_29 : decode cX4_pass 29 = .ok (.bipush (-4), 2) := by decide +kernel
theorem dX4_pass_31 : decode cX4_pass 31 = .ok (.ireturn, 1) := by decide +kernel
theorem dX4_pass_32 : decode cX4_pass 32 = .ok (.aload_n 0, 1) := by decide +kernel
theorem dX4_pass_33 : decode cX4_pass 33 = .ok (.getfield 22, 3) := by decide +kernel
theorem dX4_pass_36 : decode cX4_pass 36 = .ok (.aload_n 0, 1) := by decide +kernel
theorem dX4_pass_37 : decode cX4_pass 37 = .ok (.getfield 10, 3) := by decide +kernel
theorem dX4_pass_40 : decode cX4_pass 40 = .ok (.invokevirtual 56, 3) := by decide +kernel
theorem dX4_pass_43 : decode cX4_pass 43 = .ok (.aload_n 0, 1) := by decide +kernel
theorem dX4_pass_44 : decode cX4_pass 44 = .ok (.getfield 10, 3) := by decide +kernel
theorem dX4_pass_47 : decode cX4_pass 47 = .ok (.iconst 2, 1) := by decide +kernel
theorem dX4_pass_48 : decode cX4_pass 48 = .ok (.invokevirtual 120, 3) := by decide +kernel
theorem dX4_pass_51 : decode cX4_pass 51 = .ok (.istore_n 2, 1) := by decide +kernel
theorem dX4_pass_52 : decode cX4_pass 52 = .ok (.iconst 0, 1) := by decide +kernel
theorem dX4_pass_53 : decode cX4_pass 53 = .ok (.istore_n 3, 1) := by decide +kernel
theorem dX4_pass_54 : decode cX4_pass 54 = .ok (.iload_n 3, 1) := by decide +kernel
theorem dX4_pass_55 : decode cX4_pass 55 = .ok (.iload_n 1, 1) := by decide +kernel
theorem dX4_pass_56 : decode cX4_pass 56 = .ok (.if_icmp .ge 16, 3) := by decide +kernel
theorem dX4_pass_59 : decode cX4_pass 59 = .ok (.aload_n 0, 1) := by decide +kernel
theorem dX4_pass_60 : decode cX4_pass 60 = .ok (.getfield 10, 3) := by decide +kernel
theorem dX4_pass_63 : decode cX4_pass 63 = .ok (.invokevirtual 123, 3) := by decide +kernel
theorem dX4_pass_66 : decode cX4_pass 66 = .ok (.iinc 3 1, 3) := by decide +kernel
theorem dX4_pass_69 : decode cX4_pass 69 = .ok (.goto (-15), 3) := by decide +kernel
theorem dX4_pass_72 : decode cX4_pass 72 = .ok (.aload_n 0, 1) := by decide +kernel
theorem dX4_pass_73 : decode cX4_pass 73 = .ok (.getfield 10, 3) := by decide +kernel
theorem dX4_pass_76 : decode cX4_pass 76 = .ok (.iconst 2, 1) := by decide +kernel
theorem dX4_pass_77 : decode cX4_pass 77 = .ok (.invokevirtual 120, 3) := by decide +kernel
theorem dX4_pass_80 : decode cX4_pass 80 = .ok (.iload_n 2, 1) := by decide +kernel
theorem dX4_pass_81 : decode cX4_pass 81 = .ok (.isub, 1) := by decide +kernel
theorem dX4_pass_82 : decode cX4_pass 82 = .ok (.ireturn, 1) := by decide +kernel
theorem dX4_person_0 : decode cX4_person 0 = .ok (.aload_n 0, 1) := by decide +kernel
theorem dX4_person_1 : decode cX4_person 1 = .ok (.iload_n 1, 1) := by decide +kernel
theorem dX4_person_2 : decode cX4_person 2 = .ok (.invokevirtual 101, 3) := by decide +kernel
theorem dX4_person_5 : decode cX4_person 5 = .ok (.ifCond .ne 5, 3) := by decide +kernel
theorem dX4_person_8 : decode cX4_person 8 = .ok (.iconst (-1), 1) := by decide +kernel
theorem dX4_person_9 : decode cX4_person 9 = .ok (.ireturn, 1) := by decide +kernel
theorem dX4_person_10 : decode cX4_person 10 = .ok (.aload_n 0, 1) := by decide +kernel
theorem dX4_person_11 : decode cX4_person 11 = .ok (.getfield 10, 3) := by decide +kernel
theorem dX4_person_14 : decode cX4_person 14 = .ok (.getfield 104, 3) := by decide +kernel
theorem dX4_person_17 : decode cX4_person 17 = .ok (.iload_n 1, 1) := by decide +kernel
theorem dX4_person_18 : decode cX4_person 18 = .ok (.aaload, 1) := by decide +kernel
theorem dX4_person_19 : decode cX4_person 19 = .ok (.iload_n 2, 1) := by decide +kernel
theorem dX4_person_20 : decode cX4_person 20 = .ok (.invokevirtual 126, 3) := by decide +kernel
theorem dX4_person_23 : decode cX4_person 23 = .ok (.ireturn, 1) := by decide +kernel
theorem dX4_step_0 : decode cX4_step 0 = .ok (.iload_n 1, 1) := by decide +kernel
theorem dX4_step_1 : decode cX4_step 1 = .ok (.invokestatic 63, 3) := by decide +kernel
theorem dX4_step_4 : decode cX4_step 4 = .ok (.ifCond .ne 5, 3) := by decide +kernel
theorem dX4_step_7 : decode cX4_step 7 = .ok (.iconst (-1), 1) := by decide +kernel
theorem dX4_step_8 : decode cX4_step 8 = .ok (.ireturn, 1) := by decide +kernel
theorem dX4_step_9 : decode cX4_step 9 = .ok (.iload_n 2, 1) := by decide +kernel
theorem dX4_step_10 : decode cX4_step 10 = .ok (.tableswitch 74 0 3 #[30, 47, 56, 65], 30) := by decide +kernel
theorem dX4_step_40 : decode cX4_step 40 = .ok (.aload_n 0, 1) := by decide +kernel
theorem dX4_step_41 : decode cX4_step 41 = .ok (.getfield 10, 3) := by decide +kernel
theorem dX4_step_44 : decode cX4_step 44 = .ok (.iload_n 1, 1) := by decide +kernel
theorem dX4_step_45 : decode cX4_step 45 = .ok (.invokevirtual 66, 3) := by decide +kernel
theorem dX4_step_48 : decode cX4_step 48 = .ok (.ifCond .eq 7, 3) := by decide +kernel
theorem dX4_step_51 : decode cX4_step 51 = .ok (.iconst 1, 1) := by decide +kernel
theorem dX4_step_52 : decode cX4_step 52 = .ok (.goto 4, 3) := by decide +kernel
theorem dX4_step_55 : decode cX4_step 55 = .ok (.iconst 0, 1) := by decide +kernel
theorem dX4_step_56 : decode cX4_step 56 = .ok (.ireturn, 1) := by decide +kernel
theorem dX4_step_57 : decode cX4_step 57 = .ok (.aload_n 0, 1) := by decide +kernel
theorem dX4_step_58 : decode cX4_step 58 = .ok (.getfield 10, 3) := by decide +kernel
theorem dX4_step_61 : decode cX4_step 61 = .ok (.iload_n 1, 1) := by decide +kernel
theorem dX4_step_62 : decode cX4_step 62 = .ok (.invokevirtual 69, 3) := by decide +kernel
theorem dX4_step_65 : decode cX4_step 65 = .ok (.ireturn, 1) := by decide +kernel
theorem dX4_step_66 : decode cX4_step 66 = .ok (.aload_n 0, 1) := by decide +kernel
theorem dX4_step_67 : decode cX4_step 67 = .ok (.getfield 10, 3) := by decide +kernel
theorem dX4_step_70 : decode cX4_step 70 = .ok (.iload_n 1, 1) := by decide +kernel
theorem dX4_step_71 : decode cX4_step 71 = .ok (.invokevirtual 129, 3) := by decide +kernel
theorem dX4_step_74 : decode cX4_step 74 = .ok (.ireturn, 1) := by decide +kernel
theorem dX4_step_75 : decode cX4_step 75 = .ok (.aload_n 0, 1) := by decide +kernel
theorem dX4_step_76 : decode cX4_step 76 = .ok (.getfield 10, 3) := by decide +kernel
theorem dX4_step_79 : decode cX4_step 79 = .ok (.iload_n 1, 1) := by decide +kernel
theorem dX4_step_80 : decode cX4_step 80 = .ok (.invokevirtual 132, 3) := by decide +kernel
theorem dX4_step_83 : decode cX4_step 83 = .ok (.ireturn, 1) := by decide +kernel
theorem dX4_step_84 : decode cX4_step 84 = .ok (.bipush (-2), 2) := by decide +kernel
theorem dX4_step_86 : decode cX4_step 86 = .ok (.ireturn, 1) := by decide +kernel
theorem dX4_does_0 : decode cX4_does 0 = .ok (.aload_n 0, 1) := by decide +kernel
theorem dX4_does_1 : decode cX4_does 1 = .ok (.iload_n 1, 1) := by decide +kernel
theorem dX4_does_2 : decode cX4_does 2 = .ok (.invokevirtual 101, 3) := by decide +kernel
theorem dX4_does_5 : decode cX4_does 5 = .ok (.ifCond .ne 5, 3) := by decide +kernel
theorem dX4_does_8 : decode cX4_does 8 = .ok (.iconst (-1), 1) := by decide +kernel
theorem dX4_does_9 : decode cX4_does 9 = .ok (.ireturn, 1) := by decide +kernel
theorem dX4_does_10 : decode cX4_does 10 = .ok (.aload_n 0, 1) := by decide +kernel
theorem dX4_does_11 : decode cX4_does 11 = .ok (.getfield 16, 3) := by decide +kernel
theorem dX4_does_14 : decode cX4_does 14 = .ok (.aload_n 0, 1) := by decide +kernel
theorem dX4_does_15 : decode cX4_does 15 = .ok (.getfield 10, 3) := by decide +kernel
theorem dX4_does_18 : decode cX4_does 18 = .ok (.invokevirtual 135, 3) := by decide +kernel
theorem dX4_does_21 : decode cX4_does 21 = .ok (.aload_n 0, 1) := by decide +kernel
theorem dX4_does_22 : decode cX4_does 22 = .ok (.getfield 16, 3) := by decide +kernel
theorem dX4_does_25 : decode cX4_does 25 = .ok (.invokevirtual 123, 3) := by decide +kernel
theorem dX4_does_28 : decode cX4_does 28 = .ok (.aload_n 0, 1) := by decide +kernel
theorem dX4_does_29 : decode cX4_does 29 = .ok (.getfield 16, 3) := by decide +kernel
theorem dX4_does_32 : decode cX4_does 32 = .ok (.getfield 104, 3) := by decide +kernel
theorem dX4_does_35 : decode cX4_does 35 = .ok (.iload_n 1, 1) := by decide +kernel
theorem dX4_does_36 : decode cX4_does 36 = .ok (.aaload, 1) := by decide +kernel
theorem dX4_does_37 : decode cX4_does 37 = .ok (.getfield 138, 3) := by decide +kernel
theorem dX4_does_40 : decode cX4_does 40 = .ok (.ireturn, 1) := by decide +kernel
theorem dX4_count_0 : decode cX4_count 0 = .ok (.iload_n 1, 1) := by decide +kernel
theorem dX4_count_1 : decode cX4_count 1 = .ok (.invokestatic 41, 3) := by decide +kernel
theorem dX4_count_4 : decode cX4_count 4 = .ok (.ifCond .eq 13, 3) := by decide +kernel
theorem dX4_count_7 : decode cX4_count 7 = .ok (.aload_n 0, 1) := by decide +kernel
theorem dX4_count_8 : decode cX4_count 8 = .ok (.getfield 10, 3) := by decide +kernel
theorem dX4_count_11 : decode cX4_count 11 = .ok (.getfield 60, 3) := by decide +kernel
theorem dX4_count_14 : decode cX4_count 14 = .ok (.iload_n 1, 1) := by decide +kernel
theorem dX4_count_15 : decode cX4_count 15 = .ok (.iaload, 1) := by decide +kernel
theorem dX4_count_16 : decode cX4_count 16 = .ok (.ireturn, 1) := by decide +kernel
theorem dX4_count_17 : decode cX4_count 17 = .ok (.iload_n 1, 1) := by decide +kernel
theorem dX4_count_18 : decode cX4_count 18 = .ok (.tableswitch 166 3 14 #[62, 70, 78, 87, 96, 105, 114, 122, 132, 141, 150, 158], 62) := by decide +kernel
theorem dX4_count_80 : decode cX4_count 80 = .ok (.aload_n 0, 1) := by decide +kernel
theorem dX4_count_81 : decode cX4_count 81 = .ok (.getfield 10, 3) := by decide +kernel
theorem dX4_count_84 : decode cX4_count 84 = .ok (.getfield 117, 3) := by decide +kernel
theorem dX4_count_87 : decode cX4_count 87 = .ok (.ireturn, 1) := by decide +kernel
theorem dX4_count_88 : decode cX4_count 88 = .ok (.aload_n 0, 1) := by decide +kernel
theorem dX4_count_89 : decode cX4_count 89 = .ok (.getfield 10, 3) := by decide +kernel
theorem dX4_count_92 : decode cX4_count 92 = .ok (.getfield 82, 3) := by decide +kernel
theorem dX4_count_95 : decode cX4_count 95 = .ok (.ireturn, 1) := by decide +kernel
theorem dX4_count_96 : decode cX4_count 96 = .ok (.aload_n 0, 1) := by decide +kernel
theorem dX4_count_97 : decode cX4_count 97 = .ok (.getfield 10, 3) := by decide +kernel
theorem dX4_count_100 : decode cX4_count 100 = .ok (.iconst 0, 1) := by decide +kernel
theorem dX4_count_101 : decode cX4_count 101 = .ok (.invokevirtual 120, 3) := by decide +kernel
theorem dX4_count_104 : decode cX4_count 104 = .ok (.ireturn, 1) := by decide +kernel
theorem dX4_count_105 : decode cX4_count 105 = .ok (.aload_n 0, 1) := by decide +kernel
theorem dX4_count_106 : decode cX4_count 106 = .ok (.getfield 10, 3) := by decide +kernel
theorem dX4_count_109 : decode cX4_count 109 = .ok (.iconst 1, 1) := by decide +kernel
theorem dX4_count_110 : decode cX4_count 110 = .ok (.invokevirtual 120, 3) := by decide +kernel
theorem dX4_count_113 : decode cX4_count 113 = .ok (.ireturn, 1) := by decide +kernel
theorem dX4_count_114 : decode cX4_count 114 = .ok (.aload_n 0, 1) := by decide +kernel
theorem dX4_count_115 : decode cX4_count 115 = .ok (.getfield 10, 3) := by decide +kernel
theorem dX4_count_118 : decode cX4_count 118 = .ok (.iconst 2, 1) := by decide +kernel
theorem dX4_count_119 : decode cX4_count 119 = .ok (.invokevirtual 120, 3) := by decide +kernel
theorem dX4_count_122 : decode cX4_count 122 = .ok (.ireturn, 1) := by decide +kernel
theorem dX4_count_123 : decode cX4_count 123 = .ok (.aload_n 0, 1) := by decide +kernel
theorem dX4_count_124 : decode cX4_count 124 = .ok (.getfield 10, 3) := by decide +kernel
theorem dX4_count_127 : decode cX4_count 127 = .ok (.iconst 3, 1) := by decide +kernel
theorem dX4_count_128 : decode cX4_count 128 = .ok (.invokevirtual 120, 3) := by decide +kernel
theorem dX4_count_131 : decode cX4_count 131 = .ok (.ireturn, 1) := by decide +kernel
theorem dX4_count_132 : decode cX4_count 132 = .ok (.aload_n 0, 1) := by decide +kernel
theorem dX4_count_133 : decode cX4_count 133 = .ok (.getfield 10, 3) := by decide +kernel
theorem dX4_count_136 : decode cX4_count 136 = .ok (.getfield 73, 3) := by decide +kernel
theorem dX4_count_139 : decode cX4_count 139 = .ok (.ireturn, 1) := by decide +kernel
theorem dX4_count_140 : decode cX4_count 140 = .ok (.aload_n 0, 1) := by decide +kernel
theorem dX4_count_141 : decode cX4_count 141 = .ok (.getfield 10, 3) := by decide +kernel
theorem dX4_count_144 : decode cX4_count 144 = .ok (.bipush 6, 2) := by decide +kernel
theorem dX4_count_146 : decode cX4_count 146 = .ok (.invokevirtual 141, 3) := by decide +kernel
theorem dX4_count_149 : decode cX4_count 149 = .ok (.ireturn, 1) := by decide +kernel
theorem dX4_count_150 : decode cX4_count 150 = .ok (.aload_n 0, 1) := by decide +kernel
theorem dX4_count_151 : decode cX4_count 151 = .ok (.getfield 10, 3) := by decide +kernel
theorem dX4_count_154 : decode cX4_count 154 = .ok (.iconst 5, 1) := by decide +kernel
theorem dX4_count_155 : decode cX4_count 155 = .ok (.invokevirtual 141, 3) := by decide +kernel
theorem dX4_count_158 : decode cX4_count 158 = .ok (.ireturn, 1) := by decide +kernel
theorem dX4_count_159 : decode cX4_count 159 = .ok (.aload_n 0, 1) := by decide +kernel
theorem dX4_count_160 : decode cX4_count 160 = .ok (.getfield 10, 3) := by decide +kernel
theorem dX4_count_163 : decode cX4_count 163 = .ok (.iconst 4, 1) := by decide +kernel
theorem dX4_count_164 : decode cX4_count 164 = .ok (.invokevirtual 141, 3) := by decide +kernel
theorem dX4_count_167 : decode cX4_count 167 = .ok (.ireturn, 1) := by decide +kernel
theorem dX4_count_168 : decode cX4_count 168 = .ok (.aload_n 0, 1) := by decide +kernel
theorem dX4_count_169 : decode cX4_count 169 = .ok (.getfield 37, 3) := by decide +kernel
theorem dX4_count_172 : decode cX4_count 172 = .ok (.getfield 92, 3) := by decide +kernel
theorem dX4_count_175 : decode cX4_count 175 = .ok (.ireturn, 1) := by decide +kernel
theorem dX4_count_176 : decode cX4_count 176 = .ok (.aload_n 0, 1) := by decide +kernel
theorem dX4_count_177 : decode cX4_count 177 = .ok (.getfield 22, 3) := by decide +kernel
theorem dX4_count_180 : decode cX4_count 180 = .ok (.getfield 144, 3) := by decide +kernel
theorem dX4_count_183 : decode cX4_count 183 = .ok (.ireturn, 1) := by decide +kernel
theorem dX4_count_184 : decode cX4_count 184 = .ok (.bipush (-2), 2) := by decide +kernel
theorem dX4_count_186 : decode cX4_count 186 = .ok (.ireturn, 1) := by decide +kernel
theorem dX4_untilArrived_0 : decode cX4_untilArrived 0 = .ok (.aload_n 0, 1) := by decide +kernel
theorem dX4_untilArrived_1 : decode cX4_untilArrived 1 = .ok (.iload_n 1, 1) := by decide +kernel
theorem dX4_untilArrived_2 : decode cX4_untilArrived 2 = .ok (.invokevirtual 101, 3) := by decide +kernel
theorem dX4_untilArrived_5 : decode cX4_untilArrived 5 = .ok (.ifCond .ne 5, 3) := by decide +kernel
theorem dX4_untilArrived_8 : decode cX4_untilArrived 8 = .ok (.iconst (-1), 1) := by decide +kernel
theorem dX4_untilArrived_9 : decode cX4_untilArrived 9 = .ok (.ireturn, 1) := by decide +kernel
theorem dX4_untilArrived_10 : decode cX4_untilArrived 10 = .ok (.aload_n 0, 1) := by decide +kernel
theorem dX4_untilArrived_11 : decode cX4_untilArrived 11 = .ok (.getfield 16, 3) := by decide +kernel
theorem dX4_untilArrived_14 : decode cX4_untilArrived 14 = .ok (.aload_n 0, 1) := by decide +kernel
theorem dX4_untilArrived_15 : decode cX4_untilArrived 15 = .ok (.getfield 10, 3) := by decide +kernel
theorem dX4_untilArrived_18 : decode cX4_untilArrived 18 = .ok (.invokevirtual 135, 3) := by decide +kernel
theorem dX4_untilArrived_21 : decode cX4_untilArrived 21 = .ok (.aload_n 0, 1) := by decide +kernel
theorem dX4_untilArrived_22 : decode cX4_untilArrived 22 = .ok (.getfield 16, 3) := by decide +kernel
theorem dX4_untilArrived_25 : decode cX4_untilArrived 25 = .ok (.getfield 104, 3) := by decide +kernel
theorem dX4_untilArrived_28 : decode cX4_untilArrived 28 = .ok (.iload_n 1, 1) := by decide +kernel
theorem dX4_untilArrived_29 : decode cX4_untilArrived 29 = .ok (.aaload, 1) := by decide +kernel
theorem dX4_untilArrived_30 : decode cX4_untilArrived 30 = .ok (.astore_n 2, 1) := by decide +kernel
theorem dX4_untilArrived_31 : decode cX4_untilArrived 31 = .ok (.iconst 0, 1) := by decide +kernel
theorem dX4_untilArrived_32 : decode cX4_untilArrived 32 = .ok (.istore_n 3, 1) := by decide +kernel
theorem dX4_untilArrived_33 : decode cX4_untilArrived 33 = .ok (.iload_n 3, 1) := by decide +kernel
theorem dX4_untilArrived_34 : decode cX4_untilArrived 34 = .ok (.sipush 200, 3) := by decide +kernel
theorem dX4_untilArrived_37 : decode cX4_untilArrived 37 = .ok (.if_icmp .ge 23, 3) := by decide +kernel
theorem dX4_untilArrived_40 : decode cX4_untilArrived 40 = .ok (.aload_n 2, 1) := by decide +kernel
theorem dX4_untilArrived_41 : decode cX4_untilArrived 41 = .ok (.invokevirtual 145, 3) := by decide +kernel
theorem dX4_untilArrived_44 : decode cX4_untilArrived 44 = .ok (.ifCond .eq 16, 3) := by decide +kernel
theorem dX4_untilArrived_47 : decode cX4_untilArrived 47 = .ok (.aload_n 0, 1) := by decide +kernel
theorem dX4_untilArrived_48 : decode cX4_untilArrived 48 = .ok (.getfield 16, 3) := by decide +kernel
theorem dX4_untilArrived_51 : decode cX4_untilArrived 51 = .ok (.invokevirtual 123, 3) := by decide +kernel
theorem dX4_untilArrived_54 : decode cX4_untilArrived 54 = .ok (.iinc 3 1, 3) := by decide +kernel
theorem dX4_untilArrived_57 : decode cX4_untilArrived 57 = .ok (.goto (-24), 3) := by decide +kernel
theorem dX4_untilArrived_60 : decode cX4_untilArrived 60 = .ok (.aload_n 2, 1) := by decide +kernel
theorem dX4_untilArrived_61 : decode cX4_untilArrived 61 = .ok (.getfield 108, 3) := by decide +kernel
theorem dX4_untilArrived_64 : decode cX4_untilArrived 64 = .ok (.iconst 2, 1) := by decide +kernel
theorem dX4_untilArrived_65 : decode cX4_untilArrived 65 = .ok (.if_icmp .ne 7, 3) := by decide +kernel
theorem dX4_untilArrived_68 : decode cX4_untilArrived 68 = .ok (.iload_n 3, 1) := by decide +kernel
theorem dX4_untilArrived_69 : decode cX4_untilArrived 69 = .ok (.goto 5, 3) := by decide +kernel
theorem dX4_untilArrived_72 : decode cX4_untilArrived 72 = .ok (.bipush (-6), 2) := by decide +kernel
theorem dX4_untilArrived_74 : decode cX4_untilArrived 74 = .ok (.ireturn, 1) := by decide +kernel
theorem dX4_tryOut_0 : decode cX4_tryOut 0 = .ok (.iconst 0, 1) := by decide +kernel
theorem dX4_tryOut_1 : decode cX4_tryOut 1 = .ok (.istore_n 2, 1) := by decide +kernel
theorem dX4_tryOut_2 : decode cX4_tryOut 2 = .ok (.iload_n 2, 1) := by decide +kernel
theorem dX4_tryOut_3 : decode cX4_tryOut 3 = .ok (.iload_n 1, 1) := by decide +kernel
theorem dX4_tryOut_4 : decode cX4_tryOut 4 = .ok (.if_icmp .ge 26, 3) := by decide +kernel
theorem dX4_tryOut_7 : decode cX4_tryOut 7 = .ok (.aload_n 0, 1) := by decide +kernel
theorem dX4_tryOut_8 : decode cX4_tryOut 8 = .ok (.getfield 16, 3) := by decide +kernel
theorem dX4_tryOut_11 : decode cX4_tryOut 11 = .ok (.invokevirtual 152, 3) := by decide +kernel
theorem dX4_tryOut_14 : decode cX4_tryOut 14 = .ok (.ifCond .eq 16, 3) := by decide +kernel
theorem dX4_tryOut_17 : decode cX4_tryOut 17 = .ok (.aload_n 0, 1) := by decide +kernel
theorem dX4_tryOut_18 : decode cX4_tryOut 18 = .ok (.getfield 16, 3) := by decide +kernel
theorem dX4_tryOut_21 : decode cX4_tryOut 21 = .ok (.invokevirtual 123, 3) := by decide +kernel
theorem dX4_tryOut_24 : decode cX4_tryOut 24 = .ok (.iinc 2 1, 3) := by decide +kernel
theorem dX4_tryOut_27 : decode cX4_tryOut 27 = .ok (.goto (-25), 3) := by decide +kernel
theorem dX4_tryOut_30 : decode cX4_tryOut 30 = .ok (.iload_n 2, 1) := by decide +kernel
theorem dX4_tryOut_31 : decode cX4_tryOut 31 = .ok (.ireturn, 1) := by decide +kernel
theorem dX4_untilEmpty_0 : decode cX4_untilEmpty 0 = .ok (.aload_n 0, 1) := by decide +kernel
theorem dX4_untilEmpty_1 : decode cX4_untilEmpty 1 = .ok (.getfield 16, 3) := by decide +kernel
theorem dX4_untilEmpty_4 : decode cX4_untilEmpty 4 = .ok (.aload_n 0, 1) := by decide +kernel
theorem dX4_untilEmpty_5 : decode cX4_untilEmpty 5 = .ok (.getfield 10, 3) := by decide +kernel
theorem dX4_untilEmpty_8 : decode cX4_untilEmpty 8 = .ok (.invokevirtual 135, 3) := by decide +kernel
theorem dX4_untilEmpty_11 : decode cX4_untilEmpty 11 = .ok (.aload_n 0, 1) := by decide +kernel
theorem dX4_untilEmpty_12 : decode cX4_untilEmpty 12 = .ok (.sipush 200, 3) := by decide +kernel
theorem dX4_untilEmpty_15 : decode cX4_untilEmpty 15 = .ok (.invokevirtual 149, 3) := by decide +kernel
theorem dX4_untilEmpty_18 : decode cX4_untilEmpty 18 = .ok (.istore_n 1, 1) := by decide +kernel
theorem dX4_untilEmpty_19 : decode cX4_untilEmpty 19 = .ok (.aload_n 0, 1) := by decide +kernel
theorem dX4_untilEmpty_20 : decode cX4_untilEmpty 20 = .ok (.getfield 16, 3) := by decide +kernel
theorem dX4_untilEmpty_23 : decode cX4_untilEmpty 23 = .ok (.invokevirtual 152, 3) := by decide +kernel
theorem dX4_untilEmpty_26 : decode cX4_untilEmpty 26 = .ok (.ifCond .eq 8, 3) := by decide +kernel
theorem dX4_untilEmpty_29 : decode cX4_untilEmpty 29 = .ok (.bipush (-6), 2) := by decide +kernel
theorem dX4_untilEmpty_31 : decode cX4_untilEmpty 31 = .ok (.goto 4, 3) := by decide +kernel
theorem dX4_untilEmpty_34 : decode cX4_untilEmpty 34 = .ok (.iload_n 1, 1) := by decide +kernel
theorem dX4_untilEmpty_35 : decode cX4_untilEmpty 35 = .ok (.ireturn, 1) := by decide +kernel
theorem dX4_ifPassed_0 : decode cX4_ifPassed 0 = .ok (.iload_n 1, 1) := by decide +kernel
theorem dX4_ifPassed_1 : decode cX4_ifPassed 1 = .ok (.iconst 1, 1) := by decide +kernel
theorem dX4_ifPassed_2 : decode cX4_ifPassed 2 = .ok (.if_icmp .lt 19, 3) := by decide +kernel
theorem dX4_ifPassed_5 : decode cX4_ifPassed 5 = .ok (.iload_n 1, 1) := by decide +kernel
theorem dX4_ifPassed_6 : decode cX4_ifPassed 6 = .ok (.sipush 200, 3) := by decide +kernel
theorem dX4_ifPassed_9 : decode cX4_ifPassed 9 = .ok (.if_icmp .gt 12, 3) := by decide +kernel
theorem dX4_ifPassed_12 : decode cX4_ifPassed 12 = .ok (.iload_n 2, 1) := by decide +kernel
theorem dX4_ifPassed_13 : decode cX4_ifPassed 13 = .ok (.ifCond .lt 8, 3) := by decide +kernel
theorem dX4_ifPassed_16 : decode cX4_ifPassed 16 = .ok (.iload_n 2, 1) := by decide +kernel
theorem dX4_ifPassed_17 : decode cX4_ifPassed 17 = .ok (.iconst 3, 1) := by decide +kernel
theorem dX4_ifPassed_18 : decode cX4_ifPassed 18 = .ok (.if_icmp .le 6, 3) := by decide +kernel
theorem dX4_ifPassed_21 : decode cX4_ifPassed 21 = .ok (.bipush (-2), 2) := by decide +kernel
theorem dX4_ifPassed_23 : decode cX4_ifPassed 23 = .ok (.ireturn, 1) := by decide +kernel
theorem dX4_ifPassed_24 : decode cX4_ifPassed 24 = .ok (.aload_n 0, 1) := by decide +kernel
theorem dX4_ifPassed_25 : decode cX4_ifPassed 25 = .ok (.getfield 16, 3) := by decide +kernel
theorem dX4_ifPassed_28 : decode cX4_ifPassed 28 = .ok (.aload_n 0, 1) := by decide +kernel
theorem dX4_ifPassed_29 : decode cX4_ifPassed 29 = .ok (.getfield 10, 3) := by decide +kernel
theorem dX4_ifPassed_32 : decode cX4_ifPassed 32 = .ok (.invokevirtual 135, 3) := by decide +kernel
theorem dX4_ifPassed_35 : decode cX4_ifPassed 35 = .ok (.aload_n 0, 1) := by decide +kernel
theorem dX4_ifPassed_36 : decode cX4_ifPassed 36 = .ok (.iload_n 1, 1) := by decide +kernel
theorem dX4_ifPassed_37 : decode cX4_ifPassed 37 = .ok (.invokevirtual 149, 3) := by decide +kernel
theorem dX4_ifPassed_40 : decode cX4_ifPassed 40 = .ok (.pop, 1) := by decide +kernel
theorem dX4_ifPassed_41 : decode cX4_ifPassed 41 = .ok (.iload_n 2, 1) := by decide +kernel
theorem dX4_ifPassed_42 : decode cX4_ifPassed 42 = .ok (.tableswitch 82 0 2 #[26, 44, 62], 26) := by decide +kernel
theorem dX4_ifPassed_68 : decode cX4_ifPassed 68 = .ok (.aload_n 0, 1) := by decide +kernel
theorem dX4_ifPassed_69 : decode cX4_ifPassed 69 = .ok (.getfield 16, 3) := by decide +kernel
theorem dX4_ifPassed_72 : decode cX4_ifPassed 72 = .ok (.iconst 2, 1) := by decide +kernel
theorem dX4_ifPassed_73 : decode cX4_ifPassed 73 = .ok (.invokevirtual 120, 3) := by decide +kernel
theorem dX4_ifPassed_76 : decode cX4_ifPassed 76 = .ok (.aload_n 0, 1) := by decide +kernel
theorem dX4_ifPassed_77 : decode cX4_ifPassed 77 = .ok (.getfield 10, 3) := by decide +kernel
theorem dX4_ifPassed_80 : decode cX4_ifPassed 80 = .ok (.iconst 2, 1) := by decide +kernel
theorem dX4_ifPassed_81 : decode cX4_ifPassed 81 = .ok (.invokevirtual 120, 3) := by decide +kernel
theorem dX4_ifPassed_84 : decode cX4_ifPassed 84 = .ok (.isub, 1) := by decide +kernel
theorem dX4_ifPassed_85 : decode cX4_ifPassed 85 = .ok (.ireturn, 1) := by decide +kernel
theorem dX4_ifPassed_86 : decode cX4_ifPassed 86 = .ok (.aload_n 0, 1) := by decide +kernel
theorem dX4_ifPassed_87 : decode cX4_ifPassed 87 = .ok (.getfield 16, 3) := by decide +kernel
theorem dX4_ifPassed_90 : decode cX4_ifPassed 90 = .ok (.iconst 3, 1) := by decide +kernel
theorem dX4_ifPassed_91 : decode cX4_ifPassed 91 = .ok (.invokevirtual 120, 3) := by decide +kernel
theorem dX4_ifPassed_94 : decode cX4_ifPassed 94 = .ok (.aload_n 0, 1) := by decide +kernel
theorem dX4_ifPassed_95 : decode cX4_ifPassed 95 = .ok (.getfield 10, 3) := by decide +kernel
theorem dX4_ifPassed_98 : decode cX4_ifPassed 98 = .ok (.iconst 3, 1) := by decide +kernel
theorem dX4_ifPassed_99 : decode cX4_ifPassed 99 = .ok (.invokevirtual 120, 3) := by decide +kernel
theorem dX4_ifPassed_102 : decode cX4_ifPassed 102 = .ok (.isub, 1) := by decide +kernel
theorem dX4_ifPassed_103 : decode cX4_ifPassed 103 = .ok (.ireturn, 1) := by decide +kernel
theorem dX4_ifPassed_104 : decode cX4_ifPassed 104 = .ok (.aload_n 0, 1) := by decide +kernel
theorem dX4_ifPassed_105 : decode cX4_ifPassed 105 = .ok (.getfield 16, 3) := by decide +kernel
theorem dX4_ifPassed_108 : decode cX4_ifPassed 108 = .ok (.bipush 6, 2) := by decide +kernel
theorem dX4_ifPassed_110 : decode cX4_ifPassed 110 = .ok (.invokevirtual 141, 3) := by decide +kernel
theorem dX4_ifPassed_113 : decode cX4_ifPassed 113 = .ok (.aload_n 0, 1) := by decide +kernel
theorem dX4_ifPassed_114 : decode cX4_ifPassed 114 = .ok (.getfield 10, 3) := by decide +kernel
theorem dX4_ifPassed_117 : decode cX4_ifPassed 117 = .ok (.bipush 6, 2) := by decide +kernel
theorem dX4_ifPassed_119 : decode cX4_ifPassed 119 = .ok (.invokevirtual 141, 3) := by decide +kernel
theorem dX4_ifPassed_122 : decode cX4_ifPassed 122 = .ok (.isub, 1) := by decide +kernel
theorem dX4_ifPassed_123 : decode cX4_ifPassed 123 = .ok (.ireturn, 1) := by decide +kernel
theorem dX4_ifPassed_124 : decode cX4_ifPassed 124 = .ok (.aload_n 0, 1) := by decide +kernel
theorem dX4_ifPassed_125 : decode cX4_ifPassed 125 = .ok (.getfield 16, 3) := by decide +kernel
theorem dX4_ifPassed_128 : decode cX4_ifPassed 128 = .ok (.iconst 4, 1) := by decide +kernel
theorem dX4_ifPassed_129 : decode cX4_ifPassed 129 = .ok (.invokevirtual 141, 3) := by decide +kernel
theorem dX4_ifPassed_132 : decode cX4_ifPassed 132 = .ok (.aload_n 0, 1) := by decide +kernel
theorem dX4_ifPassed_133 : decode cX4_ifPassed 133 = .ok (.getfield 10, 3) := by decide +kernel
theorem dX4_ifPassed_136 : decode cX4_ifPassed 136 = .ok (.iconst 4, 1) := by decide +kernel
theorem dX4_ifPassed_137 : decode cX4_ifPassed 137 = .ok (.invokevirtual 141, 3) := by decide +kernel
theorem dX4_ifPassed_140 : decode cX4_ifPassed 140 = .ok (.isub, 1) := by decide +kernel
theorem dX4_ifPassed_141 : decode cX4_ifPassed 141 = .ok (.ireturn, 1) := by decide +kernel
theorem dX4_bestLanding_0 : decode cX4_bestLanding 0 = .ok (.bipush (-6), 2) := by decide +kernel
theorem dX4_bestLanding_2 : decode cX4_bestLanding 2 = .ok (.istore_n 1, 1) := by decide +kernel
theorem dX4_bestLanding_3 : decode cX4_bestLanding 3 = .ok (.iconst 0, 1) := by decide +kernel
theorem dX4_bestLanding_4 : decode cX4_bestLanding 4 = .ok (.istore_n 2, 1) := by decide +kernel
theorem dX4_bestLanding_5 : decode cX4_bestLanding 5 = .ok (.iconst 0, 1) := by decide +kernel
theorem dX4_bestLanding_6 : decode cX4_bestLanding 6 = .ok (.istore_n 3, 1) := by decide +kernel
theorem dX4_bestLanding_7 : decode cX4_bestLanding 7 = .ok (.iload_n 3, 1) := by decide +kernel
theorem dX4_bestLanding_8 : decode cX4_bestLanding 8 = .ok (.bipush 12, 2) := by decide +kernel
theorem dX4_bestLanding_10 : decode cX4_bestLanding 10 = .ok (.if_icmp .ge 84, 3) := by decide +kernel
theorem dX4_bestLanding_13 : decode cX4_bestLanding 13 = .ok (.aload_n 0, 1) := by decide +kernel
theorem dX4_bestLanding_14 : decode cX4_bestLanding 14 = .ok (.getfield 10, 3) := by decide +kernel
theorem dX4_bestLanding_17 : decode cX4_bestLanding 17 = .ok (.iload_n 3, 1) := by decide +kernel
theorem dX4_bestLanding_18 : decode cX4_bestLanding 18 = .ok (.invokevirtual 66, 3) := by decide +kernel
theorem dX4_bestLanding_21 : decode cX4_bestLanding 21 = .ok (.ifCond .eq 6, 3) := by decide +kernel
theorem dX4_bestLanding_24 : decode cX4_bestLanding 24 = .ok (.goto 64, 3) := by decide +kernel
theorem dX4_bestLanding_27 : decode cX4_bestLanding 27 = .ok (.aload_n 0, 1) := by decide +kernel
theorem dX4_bestLanding_28 : decode cX4_bestLanding 28 = .ok (.getfield 16, 3) := by decide +kernel
theorem dX4_bestLanding_31 : decode cX4_bestLanding 31 = .ok (.aload_n 0, 1) := by decide +kernel
theorem dX4_bestLanding_32 : decode cX4_bestLanding 32 = .ok (.getfield 10, 3) := by decide +kernel
theorem dX4_bestLanding_35 : decode cX4_bestLanding 35 = .ok (.invokevirtual 135, 3) := by decide +kernel
theorem dX4_bestLanding_38 : decode cX4_bestLanding 38 = .ok (.aload_n 0, 1) := by decide +kernel
theorem dX4_bestLanding_39 : decode cX4_bestLanding 39 = .ok (.getfield 16, 3) := by decide +kernel
theorem dX4_bestLanding_42 : decode cX4_bestLanding 42 = .ok (.dup, 1) := by decide +kernel
theorem dX4_bestLanding_43 : decode cX4_bestLanding 43 = .ok (.getfield 73, 3) := by decide +kernel
theorem dX4_bestLanding_46 : decode cX4_bestLanding 46 = .ok (.iconst 1, 1) := by decide +kernel
theorem dX4_bestLanding_47 : decode cX4_bestLanding 47 = .ok (.iload_n 3, 1) := by decide +kernel
theorem dX4_bestLanding_48 : decode cX4_bestLanding 48 = .ok (.ishl, 1) := by decide +kernel
theorem dX4_bestLanding_49 : decode cX4_bestLanding 49 = .ok (.ior, 1) := by decide +kernel
theorem dX4_bestLanding_50 : decode cX4_bestLanding 50 = .ok (.putfield 73, 3) := by decide +kernel
theorem dX4_bestLanding_53 : decode cX4_bestLanding 53 = .ok (.aload_n 0, 1) := by decide +kernel
theorem dX4_bestLanding_54 : decode cX4_bestLanding 54 = .ok (.bipush 50, 2) := by decide +kernel
theorem dX4_bestLanding_56 : decode cX4_bestLanding 56 = .ok (.invokevirtual 149, 3) := by decide +kernel
theorem dX4_bestLanding_59 : decode cX4_bestLanding 59 = .ok (.pop, 1) := by decide +kernel
theorem dX4_bestLanding_60 : decode cX4_bestLanding 60 = .ok (.aload_n 0, 1) := by decide +kernel
theorem dX4_bestLanding_61 : decode cX4_bestLanding 61 = .ok (.getfield 16, 3) := by decide +kernel
theorem dX4_bestLanding_64 : decode cX4_bestLanding 64 = .ok (.bipush 6, 2) := by decide +kernel
theorem dX4_bestLanding_66 : decode cX4_bestLanding 66 = .ok (.invokevirtual 141, 3) := by decide +kernel
theorem dX4_bestLanding_69 : decode cX4_bestLanding 69 = .ok (.istore 4, 2) := by decide +kernel
theorem dX4_bestLanding_71 : decode cX4_bestLanding 71 = .ok (.iload_n 1, 1) := by decide +kernel
theorem dX4_bestLanding_72 : decode cX4_bestLanding 72 = .ok (.bipush (-6), 2) := by decide +kernel
theorem dX4_bestLanding_74 : decode cX4_bestLanding 74 = .ok (.if_icmp .eq 9, 3) := by decide +kernel
theorem dX4_bestLanding_77 : decode cX4_bestLanding 77 = .ok (.iload 4, 2) := by decide +kernel
theorem dX4_bestLanding_79 : decode cX4_bestLanding 79 = .ok (.iload_n 2, 1) := by decide +kernel
theorem dX4_bestLanding_80 : decode cX4_bestLanding 80 = .ok (.if_icmp .ge 8, 3) := by decide +kernel
theorem dX4_bestLanding_83 : decode cX4_bestLanding 83 = .ok (.iload_n 3, 1) := by decide +kernel
theorem dX4_bestLanding_84 : decode cX4_bestLanding 84 = .ok (.istore_n 1, 1) := by decide +kernel
theorem dX4_bestLanding_85 : decode cX4_bestLanding 85 = .ok (.iload 4, 2) := by decide +kernel
theorem dX4_bestLanding_87 : decode cX4_bestLanding 87 = .ok (.istore_n 2, 1) := by decide +kernel
theorem dX4_bestLanding_88 : decode cX4_bestLanding 88 = .ok (.iinc 3 1, 3) := by decide +kernel
theorem dX4_bestLanding_91 : decode cX4_bestLanding 91 = .ok (.goto (-84), 3) := by decide +kernel
theorem dX4_bestLanding_94 : decode cX4_bestLanding 94 = .ok (.iload_n 1, 1) := by decide +kernel
theorem dX4_bestLanding_95 : decode cX4_bestLanding 95 = .ok (.ireturn, 1) := by decide +kernel
theorem dX4_put_0 : decode cX4_put 0 = .ok (.aload_n 0, 1) := by decide +kernel
theorem dX4_put_1 : decode cX4_put 1 = .ok (.getfield 37, 3) := by decide +kernel
theorem dX4_put_4 : decode cX4_put 4 = .ok (.lload_n 1, 1) := by decide +kernel
theorem dX4_put_5 : decode cX4_put 5 = .ok (.invokevirtual 155, 3) := by decide +kernel
theorem dX4_put_8 : decode cX4_put 8 = .ok (.ireturn, 1) := by decide +kernel
theorem dX4_wipe_0 : decode cX4_wipe 0 = .ok (.aload_n 0, 1) := by decide +kernel
theorem dX4_wipe_1 : decode cX4_wipe 1 = .ok (.getfield 37, 3) := by decide +kernel
theorem dX4_wipe_4 : decode cX4_wipe 4 = .ok (.getfield 92, 3) := by decide +kernel
theorem dX4_wipe_7 : decode cX4_wipe 7 = .ok (.istore_n 1, 1) := by decide +kernel
theorem dX4_wipe_8 : decode cX4_wipe 8 = .ok (.aload_n 0, 1) := by decide +kernel
theorem dX4_wipe_9 : decode cX4_wipe 9 = .ok (.getfield 37, 3) := by decide +kernel
theorem dX4_wipe_12 : decode cX4_wipe 12 = .ok (.iconst 0, 1) := by decide +kernel
theorem dX4_wipe_13 : decode cX4_wipe 13 = .ok (.putfield 92, 3) := by decide +kernel
theorem dX4_wipe_16 : decode cX4_wipe 16 = .ok (.iload_n 1, 1) := by decide +kernel
theorem dX4_wipe_17 : decode cX4_wipe 17 = .ok (.ireturn, 1) := by decide +kernel
theorem dX4_fault_0 : decode cX4_fault 0 = .ok (.aload_n 0, 1) := by decide +kernel
theorem dX4_fault_1 : decode cX4_fault 1 = .ok (.getfield 37, 3) := by decide +kernel
theorem dX4_fault_4 : decode cX4_fault 4 = .ok (.invokevirtual 89, 3) := by decide +kernel
theorem dX4_fault_7 : decode cX4_fault 7 = .ok (.ireturn, 1) := by decide +kernel
theorem dX4_undo_0 : decode cX4_undo 0 = .ok (.aload_n 0, 1) := by decide +kernel
theorem dX4_undo_1 : decode cX4_undo 1 = .ok (.getfield 22, 3) := by decide +kernel
theorem dX4_undo_4 : decode cX4_undo 4 = .ok (.getfield 144, 3) := by decide +kernel
theorem dX4_undo_7 : decode cX4_undo 7 = .ok (.ifCond .ne 6, 3) := by decide +kernel
theorem dX4_undo_10 : decode cX4_undo 10 = .ok (.bipush (-5), 2) := by decide +kernel
theorem dX4_undo_12 : decode cX4_undo 12 = .ok (.ireturn, 1) := by decide +kernel
theorem dX4_undo_13 : decode cX4_undo 13 = .ok (.aload_n 0, 1) := by decide +kernel
theorem dX4_undo_14 : decode cX4_undo 14 = .ok (.getfield 22, 3) := by decide +kernel
theorem dX4_undo_17 : decode cX4_undo 17 = .ok (.aload_n 0, 1) := by decide +kernel
theorem dX4_undo_18 : decode cX4_undo 18 = .ok (.getfield 10, 3) := by decide +kernel
theorem dX4_undo_21 : decode cX4_undo 21 = .ok (.invokevirtual 159, 3) := by decide +kernel
theorem dX4_undo_24 : decode cX4_undo 24 = .ok (.aload_n 0, 1) := by decide +kernel
theorem dX4_undo_25 : decode cX4_undo 25 = .ok (.getfield 22, 3) := by decide +kernel
theorem dX4_undo_28 : decode cX4_undo 28 = .ok (.getfield 144, 3) := by decide +kernel
theorem dX4_undo_31 : decode cX4_undo 31 = .ok (.ireturn, 1) := by decide +kernel
theorem dX4_isSlot_0 : decode cX4_isSlot 0 = .ok (.iload_n 0, 1) := by decide +kernel
theorem dX4_isSlot_1 : decode cX4_isSlot 1 = .ok (.ifCond .lt 12, 3) := by decide +kernel
theorem dX4_isSlot_4 : decode cX4_isSlot 4 = .ok (.iload_n 0, 1) := by decide +kernel
theorem dX4_isSlot_5 : decode cX4_isSlot 5 = .ok (.iconst 2, 1) := by decide +kernel
theorem dX4_isSlot_6 : decode cX4_isSlot 6 = .ok (.if_icmp .ge 7, 3) := by decide +kernel
theorem dX4_isSlot_9 : decode cX4_isSlot 9 = .ok (.iconst 1, 1) := by decide +kernel
theorem dX4_isSlot_10 : decode cX4_isSlot 10 = .ok (.goto 4, 3) := by decide +kernel
theorem dX4_isSlot_13 : decode cX4_isSlot 13 = .ok (.iconst 0, 1) := by decide +kernel
theorem dX4_isSlot_14 : decode cX4_isSlot 14 = .ok (.ireturn, 1) := by decide +kernel
theorem dX4_save_0 : decode cX4_save 0 = .ok (.iload_n 1, 1) := by decide +kernel
theorem dX4_save_1 : decode cX4_save 1 = .ok (.invokestatic 162, 3) := by decide +kernel
theorem dX4_save_4 : decode cX4_save 4 = .ok (.ifCond .ne 6, 3) := by decide +kernel
theorem dX4_save_7 : decode cX4_save 7 = .ok (.bipush (-2), 2) := by decide +kernel
theorem dX4_save_9 : decode cX4_save 9 = .ok (.ireturn, 1) := by decide +kernel
theorem dX4_save_10 : decode cX4_save 10 = .ok (.aload_n 0, 1) := by decide +kernel
theorem dX4_save_11 : decode cX4_save 11 = .ok (.getfield 26, 3) := by decide +kernel
theorem dX4_save_14 : decode cX4_save 14 = .ok (.iload_n 1, 1) := by decide +kernel
theorem dX4_save_15 : decode cX4_save 15 = .ok (.aaload, 1) := by decide +kernel
theorem dX4_save_16 : decode cX4_save 16 = .ok (.aload_n 0, 1) := by decide +kernel
theorem dX4_save_17 : decode cX4_save 17 = .ok (.getfield 10, 3) := by decide +kernel
theorem dX4_save_20 : decode cX4_save 20 = .ok (.invokevirtual 135, 3) := by decide +kernel
theorem dX4_save_23 : decode cX4_save 23 = .ok (.aload_n 0, 1) := by decide +kernel
theorem dX4_save_24 : decode cX4_save 24 = .ok (.getfield 30, 3) := by decide +kernel
theorem dX4_save_27 : decode cX4_save 27 = .ok (.iload_n 1, 1) := by decide +kernel
theorem dX4_save_28 : decode cX4_save 28 = .ok (.iconst 1, 1) := by decide +kernel
theorem dX4_save_29 : decode cX4_save 29 = .ok (.bastore, 1) := by decide +kernel
theorem dX4_save_30 : decode cX4_save 30 = .ok (.aload_n 0, 1) := by decide +kernel
theorem dX4_save_31 : decode cX4_save 31 = .ok (.getfield 10, 3) := by decide +kernel
theorem dX4_save_34 : decode cX4_save 34 = .ok (.getfield 117, 3) := by decide +kernel
theorem dX4_save_37 : decode cX4_save 37 = .ok (.ireturn, 1) := by decide +kernel
theorem dX4_restore_0 : decode cX4_restore 0 = .ok (.iload_n 1, 1) := by decide +kernel
theorem dX4_restore_1 : decode cX4_restore 1 = .ok (.invokestatic 162, 3) := by decide +kernel
theorem dX4_restore_4 : decode cX4_restore 4 = .ok (.ifCond .ne 6, 3) := by decide +kernel
theorem dX4_restore_7 : decode cX4_restore 7 = .ok (.bipush (-2), 2) := by decide +kernel
theorem dX4_restore_9 : decode cX4_restore 9 = .ok (.ireturn, 1) := by decide +kernel
theorem dX4_restore_10 : decode cX4_restore 10 = .ok (.aload_n 0, 1) := by decide +kernel
theorem dX4_restore_11 : decode cX4_restore 11 = .ok (.getfield 30, 3) := by decide +kernel
theorem dX4_restore_14 : decode cX4_restore 14 = .ok (.iload_n 1, 1) := by decide +kernel
theorem dX4_restore_15 : decode cX4_restore 15 = .ok (.baload, 1) := by decide +kernel
theorem dX4_restore_16 : decode cX4_restore 16 = .ok (.ifCond .ne 6, 3) := by decide +kernel
theorem dX4_restore_19 : decode cX4_restore 19 = .ok (.bipush (-5), 2) := by decide +kernel
theorem dX4_restore_21 : decode cX4_restore 21 = .ok (.ireturn, 1) := by decide +kernel
theorem dX4_restore_22 : decode cX4_restore 22 = .ok (.aload_n 0, 1) := by decide +kernel
theorem dX4_restore_23 : decode cX4_restore 23 = .ok (.getfield 22, 3) := by decide +kernel
theorem dX4_restore_26 : decode cX4_restore 26 = .ok (.aload_n 0, 1) := by decide +kernel
theorem dX4_restore_27 : decode cX4_restore 27 = .ok (.getfield 10, 3) := by decide +kernel
theorem dX4_restore_30 : decode cX4_restore 30 = .ok (.invokevirtual 56, 3) := by decide +kernel
theorem dX4_restore_33 : decode cX4_restore 33 = .ok (.aload_n 0, 1) := by decide +kernel
theorem dX4_restore_34 : decode cX4_restore 34 = .ok (.getfield 10, 3) := by decide +kernel
theorem dX4_restore_37 : decode cX4_restore 37 = .ok (.aload_n 0, 1) := by decide +kernel
theorem dX4_restore_38 : decode cX4_restore 38 = .ok (.getfield 26, 3) := by decide +kernel
theorem dX4_restore_41 : decode cX4_restore 41 = .ok (.iload_n 1, 1) := by decide +kernel
theorem dX4_restore_42 : decode cX4_restore 42 = .ok (.aaload, 1) := by decide +kernel
theorem dX4_restore_43 : decode cX4_restore 43 = .ok (.invokevirtual 135, 3) := by decide +kernel
theorem dX4_restore_46 : decode cX4_restore 46 = .ok (.aload_n 0, 1) := by decide +kernel
theorem dX4_restore_47 : decode cX4_restore 47 = .ok (.getfield 10, 3) := by decide +kernel
theorem dX4_restore_50 : decode cX4_restore 50 = .ok (.getfield 117, 3) := by decide +kernel
theorem dX4_restore_53 : decode cX4_restore 53 = .ok (.ireturn, 1) := by decide +kernel
end
section
/-! DECODE ROWS -/
theorem dX5_in_0 : decode cX5_in 0 = .ok (.lload_n 0, 1) := by decide +kernel
theorem dX5_in_1 : decode cX5_in 1 = .ok (.lload_n 2, 1) := by decide +kernel
theorem dX5_in_2 : decode cX5_in 2 = .ok (.lcmp, 1) := by decide +kernel
theorem dX5_in_3 : decode cX5_in 3 = .ok (.ifCond .lt 14, 3) := by decide +kernel
theorem dX5_in_6 : decode cX5_in 6 = .ok (.lload_n 0, 1) := by decide +kernel
theorem dX5_in_7 : decode cX5_in 7 = .ok (.lload 4, 2) := by decide +kernel
theorem dX5_in_9 : decode cX5_in 9 = .ok (.lcmp, 1) := by decide +kernel
theorem dX5_in_10 : decode cX5_in 10 = .ok (.ifCond .gt 7, 3) := by decide +kernel
theorem dX5_in_13 : decode cX5_in 13 = .ok (.iconst 1, 1) := by decide +kernel
theorem dX5_in_14 : decode cX5_in 14 = .ok (.goto 4, 3) := by decide +kernel
theorem dX5_in_17 : decode cX5_in 17 = .ok (.iconst 0, 1) := by decide +kernel
theorem dX5_in_18 : decode cX5_in 18 = .ok (.ireturn, 1) := by decide +kernel
theorem dX5_changes_0 : decode cX5_changes 0 = .ok (.aload_n 0, 1) := by decide +kernel
theorem dX5_changes_1 : decode cX5_changes 1 = .ok (.getfield 31, 3) := by decide +kernel
theorem dX5_changes_4 : decode cX5_changes 4 = .ok (.bipush 6, 2) := by decide +kernel
theorem dX5_changes_6 : decode cX5_changes 6 = .ok (.if_icmp .ne 44, 3) := by decide +kernel
theorem dX5_changes_9 : decode cX5_changes 9 = .ok (.iconst 0, 1) := by decide +kernel
theorem dX5_changes_10 : decode cX5_changes 10 = .ok (.istore_n 1, 1) := by decide +kernel
theorem dX5_changes_11 : decode cX5_changes 11 = .ok (.iload_n 1, 1) := by decide +kernel
theorem dX5_changes_12 : decode cX5_changes 12 = .ok (.sipush 1125, 3) := by decide +kernel
theorem dX5_changes_15 : decode cX5_changes 15 = .ok (.if_icmp .ge 25, 3) := by decide +kernel
theorem dX5_changes_18 : decode cX5_changes 18 = .ok (.aload_n 0, 1) := by decide +kernel
theorem dX5_changes_19 : decode cX5_changes 19 = .ok (.getfield 16, 3) := by decide +kernel
theorem dX5_changes_22 : decode cX5_changes 22 = .ok (.iload_n 1, 1) := by decide +kernel
theorem dX5_changes_23 : decode cX5_changes 23 = .ok (.aload_n 0, 1) := by decide +kernel
theorem dX5_changes_24 : decode cX5_changes 24 = .ok (.getfield 16, 3) := by decide +kernel
theorem dX5_changes_27 : decode cX5_changes 27 = .ok (.iload_n 1, 1) := by decide +kernel
theorem dX5_changes_28 : decode cX5_changes 28 = .ok (.sipush 225, 3) := by decide +kernel
theorem dX5_changes_31 : decode cX5_changes 31 = .ok (.iadd, 1) := by decide +kernel
theorem dX5_changes_32 : decode cX5_changes 32 = .ok (.iaload, 1) := by decide +kernel
theorem dX5_changes_33 : decode cX5_changes 33 = .ok (.iastore, 1) := by decide +kernel
theorem dX5_changes_34 : decode cX5_changes 34 = .ok (.iinc 1 1, 3) := by decide +kernel
theorem dX5_changes_37 : decode cX5_changes 37 = .ok (.goto (-26), 3) := by decide +kernel
theorem dX5_changes_40 : decode cX5_changes 40 = .ok (.aload_n 0, 1) := by decide +kernel
theorem dX5_changes_41 : decode cX5_changes 41 = .ok (.dup, 1) := by decide +kernel
theorem dX5_changes_42 : decode cX5_changes 42 = .ok (.getfield 31, 3) := by decide +kernel
theorem dX5_changes_45 : decode cX5_changes 45 = .ok (.iconst 1, 1) := by decide +kernel
theorem dX5_changes_46 : decode cX5_changes 46 = .ok (.isub, 1) := by decide +kernel
theorem dX5_changes_47 : decode cX5_changes 47 = .ok (.putfield 31, 3) := by decide +kernel
theorem dX5_changes_50 : decode cX5_changes 50 = .ok (.iconst 0, 1) := by decide +kernel
theorem dX5_changes_51 : decode cX5_changes 51 = .ok (.istore_n 1, 1) := by decide +kernel
theorem dX5_changes_52 : decode cX5_changes 52 = .ok (.iload_n 1, 1) := by decide +kernel
theorem dX5_changes_53 : decode cX5_changes 53 = .ok (.sipush 225, 3) := by decide +kernel
theorem dX5_changes_56 : decode cX5_changes 56 = .ok (.if_icmp .ge 30, 3) := by decide +kernel
theorem dX5_changes_59 : decode cX5_changes 59 = .ok (.aload_n 0, 1) := by decide +kernel
theorem dX5_changes_60 : decode cX5_changes 60 = .ok (.getfield 16, 3) := by decide +kernel
theorem dX5_changes_63 : decode cX5_changes 63 = .ok (.sipush 225, 3) := by decide +kernel
theorem dX5_changes_66 : decode cX5_changes 66 = .ok (.aload_n 0, 1) := by decide +kernel
theorem dX5_changes_67 : decode cX5_changes 67 = .ok (.getfield 31, 3) := by decide +kernel
theorem dX5_changes_70 : decode cX5_changes 70 = .ok (.imul, 1) := by decide +kernel
theorem dX5_changes_71 : decode cX5_changes 71 = .ok (.iload_n 1, 1) := by decide +kernel
theorem dX5_changes_72 : decode cX5_changes 72 = .ok (.iadd, 1) := by decide +kernel
theorem dX5_changes_73 : decode cX5_changes 73 = .ok (.aload_n 0, 1) := by decide +kernel
theorem dX5_changes_74 : decode cX5_changes 74 = .ok (.getfield 7, 3) := by decide +kernel
theorem dX5_changes_77 : decode cX5_changes 77 = .ok (.iload_n 1, 1) := by decide +kernel
theorem dX5_changes_78 : decode cX5_changes 78 = .ok (.iaload, 1) := by decide +kernel
theorem dX5_changes_79 : decode cX5_changes 79 = .ok (.iastore, 1) := by decide +kernel
theorem dX5_changes_80 : decode cX5_changes 80 = .ok (.iinc 1 1, 3) := by decide +kernel
theorem dX5_changes_83 : decode cX5_changes 83 = .ok (.goto (-31), 3) := by decide +kernel
theorem dX5_changes_86 : decode cX5_changes 86 = .ok (.aload_n 0, 1) := by decide +kernel
theorem dX5_changes_87 : decode cX5_changes 87 = .ok (.dup, 1) := by decide +kernel
theorem dX5_changes_88 : decode cX5_changes 88 = .ok (.getfield 31, 3) := by decide +kernel
theorem dX5_changes_91 : decode cX5_changes 91 = .ok (.iconst 1, 1) := by decide +kernel
theorem dX5_changes_92 : decode cX5_changes 92 = .ok (.iadd, 1) := by decide +kernel
theorem dX5_changes_93 : decode cX5_changes 93 = .ok (.putfield 31, 3) := by decide +kernel
theorem dX5_changes_96 : decode cX5_changes 96 = .ok (.return_, 1) := by decide +kernel
theorem dX5_keeps_0 : decode cX5_keeps 0 = .ok (.iconst 0, 1) := by decide +kernel
theorem dX5_keeps_1 : decode cX5_keeps 1 = .ok (.istore_n 1, 1) := by decide +kernel
theorem dX5_keeps_2 : decode cX5_keeps 2 = .ok (.iload_n 1, 1) := by decide +kernel
theorem dX5_keeps_3 : decode cX5_keeps 3 = .ok (.sipush 225, 3) := by decide +kernel
theorem dX5_keeps_6 : decode cX5_keeps 6 = .ok (.if_icmp .ge 21, 3) := by decide +kernel
theorem dX5_keeps_9 : decode cX5_keeps 9 = .ok (.aload_n 0, 1) := by decide +kernel
theorem dX5_keeps_10 : decode cX5_keeps 10 = .ok (.getfield 13, 3) := by decide +kernel
theorem dX5_keeps_13 : decode cX5_keeps 13 = .ok (.iload_n 1, 1) := by decide +kernel
theorem dX5_keeps_14 : decode cX5_keeps 14 = .ok (.aload_n 0, 1) := by decide +kernel
theorem dX5_keeps_15 : decode cX5_keeps 15 = .ok (.getfield 7, 3) := by decide +kernel
theorem dX5_keeps_18 : decode cX5_keeps 18 = .ok (.iload_n 1, 1) := by decide +kernel
theorem dX5_keeps_19 : decode cX5_keeps 19 = .ok (.iaload, 1) := by decide +kernel
theorem dX5_keeps_20 : decode cX5_keeps 20 = .ok (.iastore, 1) := by decide +kernel
theorem dX5_keeps_21 : decode cX5_keeps 21 = .ok (.iinc 1 1, 3) := by decide +kernel
theorem dX5_keeps_24 : decode cX5_keeps 24 = .ok (.goto (-22), 3) := by decide +kernel
theorem dX5_keeps_27 : decode cX5_keeps 27 = .ok (.return_, 1) := by decide +kernel
theorem dX5_comesBack_0 : decode cX5_comesBack 0 = .ok (.iconst 0, 1) := by decide +kernel
theorem dX5_comesBack_1 : decode cX5_comesBack 1 = .ok (.istore_n 1, 1) := by decide +kernel
theorem dX5_comesBack_2 : decode cX5_comesBack 2 = .ok (.iload_n 1, 1) := by decide +kernel
theorem dX5_comesBack_3 : decode cX5_comesBack 3 = .ok (.sipush 225, 3) := by decide +kernel
theorem dX5_comesBack_6 : decode cX5_comesBack 6 = .ok (.if_icmp .ge 21, 3) := by decide +kernel
theorem dX5_comesBack_9 : decode cX5_comesBack 9 = .ok (.aload_n 0, 1) := by decide +kernel
theorem dX5_comesBack_10 : decode cX5_comesBack 10 = .ok (.getfield 7, 3) := by decide +kernel
theorem dX5_comesBack_13 : decode cX5_comesBack 13 = .ok (.iload_n 1, 1) := by decide +kernel
theorem dX5_comesBack_14 : decode cX5_comesBack 14 = .ok (.aload_n 0, 1) := by decide +kernel
theorem dX5_comesBack_15 : decode cX5_comesBack 15 = .ok (.getfield 13, 3) := by decide +kernel
theorem dX5_comesBack_18 : decode cX5_comesBack 18 = .ok (.iload_n 1, 1) := by decide +kernel
theorem dX5_comesBack_19 : decode cX5_comesBack 19 = .ok (.iaload, 1) := by decide +kernel
theorem dX5_comesBack_20 : decode cX5_comesBack 20 = .ok (.iastore, 1) := by decide +kernel
theorem dX5_comesBack_21 : decode cX5_comesBack 21 = .ok (.iinc 1 1, 3) := by decide +kernel
theorem dX5_comesBack_24 : decode cX5_comesBack 24 = .ok (.goto (-22), 3) := by decide +kernel
theorem dX5_comesBack_27 : decode cX5_comesBack 27 = .ok (.return_, 1) := by decide +kernel
theorem dX5_isPerson_0 : decode cX5_isPerson 0 = .ok (.iload_n 1, 1) := by decide +kernel
theorem dX5_isPerson_1 : decode cX5_isPerson 1 = .ok (.i2l, 1) := by decide +kernel
theorem dX5_isPerson_2 : decode cX5_isPerson 2 = .ok (.lconst 0, 1) := by decide +kernel
theorem dX5_isPerson_3 : decode cX5_isPerson 3 = .ok (.aload_n 0, 1) := by decide +kernel
theorem dX5_isPerson_4 : decode cX5_isPerson 4 = .ok (.getfield 7, 3) := by decide +kernel
theorem dX5_isPerson_7 : decode cX5_isPerson 7 = .ok (.iconst 4, 1) := by decide +kernel
theorem dX5_isPerson_8 : decode cX5_isPerson 8 = .ok (.iaload, 1) := by decide +kernel
theorem dX5_isPerson_9 : decode cX5_isPerson 9 = .ok (.i2l, 1) := by decide +kernel
theorem dX5_isPerson_10 : decode cX5_isPerson 10 = .ok (.lconst 1, 1) := by decide +kernel
theorem dX5_isPerson_11 : decode cX5_isPerson 11 = .ok (.lsub, 1) := by decide +kernel
theorem dX5_isPerson_12 : decode cX5_isPerson 12 = .ok (.invokestatic 35, 3) := by decide +kernel
theorem dX5_isPerson_15 : decode cX5_isPerson 15 = .ok (.ireturn, 1) := by decide +kernel
theorem dX5_get_0 : decode cX5_get 0 = .ok (.aload_n 0, 1) := by decide +kernel
theorem dX5_get_1 : decode cX5_get 1 = .ok (.getfield 7, 3) := by decide +kernel
theorem dX5_get_4 : decode cX5_get 4 = .ok (.bipush 9, 2) := by decide +kernel
theorem dX5_get_6 : decode cX5_get 6 = .ok (.bipush 9, 2) := by decide +kernel
theorem dX5_get_8 : decode cX5_get 8 = .ok (.iload_n 1, 1) := by decide +kernel
theorem dX5_get_9 : decode cX5_get 9 = .ok (.imul, 1) := by decide +kernel
theorem dX5_get_10 : decode cX5_get 10 = .ok (.iadd, 1) := by decide +kernel
theorem dX5_get_11 : decode cX5_get 11 = .ok (.iload_n 2, 1) := by decide +kernel
theorem dX5_get_12 : decode cX5_get 12 = .ok (.iadd, 1) := by decide +kernel
theorem dX5_get_13 : decode cX5_get 13 = .ok (.iaload, 1) := by decide +kernel
theorem dX5_get_14 : decode cX5_get 14 = .ok (.ireturn, 1) := by decide +kernel
theorem dX5_lays_0 : decode cX5_lays 0 = .ok (.aload_n 0, 1) := by decide +kernel
theorem dX5_lays_1 : decode cX5_lays 1 = .ok (.getfield 7, 3) := by decide +kernel
theorem dX5_lays_4 : decode cX5_lays 4 = .ok (.bipush 9, 2) := by decide +kernel
theorem dX5_lays_6 : decode cX5_lays 6 = .ok (.bipush 9, 2) := by decide +kernel
theorem dX5_lays_8 : decode cX5_lays 8 = .ok (.iload_n 1, 1) := by decide +kernel
theorem dX5_lays_9 : decode cX5_lays 9 = .ok (.imul, 1) := by decide +kernel
theorem dX5_lays_10 : decode cX5_lays 10 = .ok (.iadd, 1) := by decide +kernel
theorem dX5_lays_11 : decode cX5_lays 11 = .ok (.iload_n 2, 1) := by decide +kernel
theorem dX5_lays_12 : decode cX5_lays 12 = .ok (.iadd, 1) := by decide +kernel
theorem dX5_lays_13 : decode cX5_lays 13 = .ok (.iload_n 3, 1) := by decide +kernel
theorem dX5_lays_14 : decode cX5_lays 14 = .ok (.iastore, 1) := by decide +kernel
theorem dX5_lays_15 : decode cX5_lays 15 = .ok (.return_, 1) := by decide +kernel
theorem dX5_adds_0 : decode cX5_adds 0 = .ok (.aload_n 0, 1) := by decide +kernel
theorem dX5_adds_1 : decode cX5_adds 1 = .ok (.getfield 7, 3) := by decide +kernel
theorem dX5_adds_4 : decode cX5_adds 4 = .ok (.bipush 9, 2) := by decide +kernel
theorem dX5_adds_6 : decode cX5_adds 6 = .ok (.bipush 9, 2) := by decide +kernel
theorem dX5_adds_8 : decode cX5_adds 8 = .ok (.iload_n 1, 1) := by decide +kernel
theorem dX5_adds_9 : decode cX5_adds 9 = .ok (.imul, 1) := by decide +kernel
theorem dX5_adds_10 : decode cX5_adds 10 = .ok (.iadd, 1) := by decide +kernel
theorem dX5_adds_11 : decode cX5_adds 11 = .ok (.iload_n 2, 1) := by decide +kernel
theorem dX5_adds_12 : decode cX5_adds 12 = .ok (.iadd, 1) := by decide +kernel
theorem dX5_adds_13 : decode cX5_adds 13 = .ok (.dup2, 1) := by decide +kernel
theorem dX5_adds_14 : decode cX5_adds 14 = .ok (.iaload, 1) := by decide +kernel
theorem dX5_adds_15 : decode cX5_adds 15 = .ok (.iload_n 3, 1) := by decide +kernel
theorem dX5_adds_16 : decode cX5_adds 16 = .ok (.iadd, 1) := by decide +kernel
theorem dX5_adds_17 : decode cX5_adds 17 = .ok (.iastore, 1) := by decide +kernel
theorem dX5_adds_18 : decode cX5_adds 18 = .ok (.return_, 1) := by decide +kernel
theorem dX5_isStep_0 : decode cX5_isStep 0 = .ok (.iload_n 0, 1) := by decide +kernel
theorem dX5_isStep_1 : decode cX5_isStep 1 = .ok (.i2l, 1) := by decide +kernel
theorem dX5_isStep_2 : decode cX5_isStep 2 = .ok (.lconst 0, 1) := by decide +kernel
theorem dX5_isStep_3 : decode cX5_isStep 3 = .ok (.ldc2_w 39, 3) := by decide +kernel
theorem dX5_isStep_6 : decode cX5_isStep 6 = .ok (.invokestatic 35, 3) := by decide +kernel
theorem dX5_isStep_9 : decode cX5_isStep 9 = .ok (.ireturn, 1) := by decide +kernel
theorem dX5_isLanding_0 : decode cX5_isLanding 0 = .ok (.aload_n 0, 1) := by decide +kernel
theorem dX5_isLanding_1 : decode cX5_isLanding 1 = .ok (.getfield 7, 3) := by decide +kernel
theorem dX5_isLanding_4 : decode cX5_isLanding 4 = .ok (.iconst 5, 1) := by decide +kernel
theorem dX5_isLanding_5 : decode cX5_isLanding 5 = .ok (.iaload, 1) := by decide +kernel
theorem dX5_isLanding_6 : decode cX5_isLanding 6 = .ok (.iload_n 1, 1) := by decide +kernel
theorem dX5_isLanding_7 : decode cX5_isLanding 7 = .ok (.ishr, 1) := by decide +kernel
theorem dX5_isLanding_8 : decode cX5_isLanding 8 = .ok (.iconst 1, 1) := by decide +kernel
theorem dX5_isLanding_9 : decode cX5_isLanding 9 = .ok (.iand, 1) := by decide +kernel
theorem dX5_isLanding_10 : decode cX5_isLanding 10 = .ok (.iconst 1, 1) := by decide +kernel
theorem dX5_isLanding_11 : decode cX5_isLanding 11 = .ok (.if_icmp .ne 7, 3) := by decide +kernel
theorem dX5_isLanding_14 : decode cX5_isLanding 14 = .ok (.iconst 1, 1) := by decide +kernel
theorem dX5_isLanding_15 : decode cX5_isLanding 15 = .ok (.goto 4, 3) := by decide +kernel
theorem dX5_isLanding_18 : decode cX5_isLanding 18 = .ok (.iconst 0, 1) := by decide +kernel
theorem dX5_isLanding_19 : decode cX5_isLanding 19 = .ok (.ireturn, 1) := by decide +kernel
theorem dX5_isAt_0 : decode cX5_isAt 0 = .ok (.aload_n 0, 1) := by decide +kernel
theorem dX5_isAt_1 : decode cX5_isAt 1 = .ok (.iload_n 1, 1) := by decide +kernel
theorem dX5_isAt_2 : decode cX5_isAt 2 = .ok (.iconst 2, 1) := by decide +kernel
theorem dX5_isAt_3 : decode cX5_isAt 3 = .ok (.invokevirtual 41, 3) := by decide +kernel
theorem dX5_isAt_6 : decode cX5_isAt 6 = .ok (.iconst 1, 1) := by decide +kernel
theorem dX5_isAt_7 : decode cX5_isAt 7 = .ok (.if_icmp .ne 17, 3) := by decide +kernel
theorem dX5_isAt_10 : decode cX5_isAt 10 = .ok (.aload_n 0, 1) := by decide +kernel
theorem dX5_isAt_11 : decode cX5_isAt 11 = .ok (.iload_n 1, 1) := by decide +kernel
theorem dX5_isAt_12 : decode cX5_isAt 12 = .ok (.iconst 3, 1) := by decide +kernel
theorem dX5_isAt_13 : decode cX5_isAt 13 = .ok (.invokevirtual 41, 3) := by decide +kernel
theorem dX5_isAt_16 : decode cX5_isAt 16 = .ok (.iload_n 2, 1) := by decide +kernel
theorem dX5_isAt_17 : decode cX5_isAt 17 = .ok (.if_icmp .ne 7, 3) := by decide +kernel
theorem dX5_isAt_20 : decode cX5_isAt 20 = .ok (.iconst 1, 1) := by decide +kernel
theorem dX5_isAt_21 : decode cX5_isAt 21 = .ok (.goto 4, 3) := by decide +kernel
theorem dX5_isAt_24 : decode cX5_isAt 24 = .ok (.iconst 0, 1) := by decide +kernel
theorem dX5_isAt_25 : decode cX5_isAt 25 = .ok (.ireturn, 1) := by decide +kernel
theorem dX5_peopleAt_0 : decode cX5_peopleAt 0 = .ok (.iconst 0, 1) := by decide +kernel
theorem dX5_peopleAt_1 : decode cX5_peopleAt 1 = .ok (.istore_n 2, 1) := by decide +kernel
theorem dX5_peopleAt_2 : decode cX5_peopleAt 2 = .ok (.iconst 0, 1) := by decide +kernel
theorem dX5_peopleAt_3 : decode cX5_peopleAt 3 = .ok (.istore_n 3, 1) := by decide +kernel
theorem dX5_peopleAt_4 : decode cX5_peopleAt 4 = .ok (.iload_n 3, 1) := by decide +kernel
theorem dX5_peopleAt_5 : decode cX5_peopleAt 5 = .ok (.aload_n 0, 1) := by decide +kernel
theorem dX5_peopleAt_6 : decode cX5_peopleAt 6 = .ok (.getfield 7, 3) := by decide +kernel
theorem dX5_peopleAt_9 : decode cX5_peopleAt 9 = .ok (.iconst 4, 1) := by decide +kernel
theorem dX5_peopleAt_10 : decode cX5_peopleAt 10 = .ok (.iaload, 1) := by decide +kernel
theorem dX5_peopleAt_11 : decode cX5_peopleAt 11 = .ok (.if_icmp .ge 26, 3) := by decide +kernel
theorem dX5_peopleAt_14 : decode cX5_peopleAt 14 = .ok (.iload_n 2, 1) := by decide +kernel
theorem dX5_peopleAt_15 : decode cX5_peopleAt 15 = .ok (.aload_n 0, 1) := by decide +kernel
theorem dX5_peopleAt_16 : decode cX5_peopleAt 16 = .ok (.iload_n 3, 1) := by decide +kernel
theorem dX5_peopleAt_17 : decode cX5_peopleAt 17 = .ok (.iload_n 1, 1) := by decide +kernel
theorem dX5_peopleAt_18 : decode cX5_peopleAt 18 = .ok (.invokevirtual 45, 3) := by decide +kernel
theorem dX5_peopleAt_21 : decode cX5_peopleAt 21 = .ok (.ifCond .eq 7, 3) := by decide +kernel
theorem dX5_peopleAt_24 : decode cX5_peopleAt 24 = .ok (.iconst 1, 1) := by decide +kernel
theorem dX5_peopleAt_25 : decode cX5_peopleAt 25 = .ok (.goto 4, 3) := by decide +kernel
theorem dX5_peopleAt_28 : decode cX5_peopleAt 28 = .ok (.iconst 0, 1) := by decide +kernel
theorem dX5_peopleAt_29 : decode cX5_peopleAt 29 = .ok (.iadd, 1) := by decide +kernel
theorem dX5_peopleAt_30 : decode cX5_peopleAt 30 = .ok (.istore_n 2, 1) := by decide +kernel
theorem dX5_peopleAt_31 : decode cX5_peopleAt 31 = .ok (.iinc 3 1, 3) := by decide +kernel
theorem dX5_peopleAt_34 : decode cX5_peopleAt 34 = .ok (.goto (-30), 3) := by decide +kernel
theorem dX5_peopleAt_37 : decode cX5_peopleAt 37 = .ok (.iload_n 2, 1) := by decide +kernel
theorem dX5_peopleAt_38 : decode cX5_peopleAt 38 = .ok (.ireturn, 1) := by decide +kernel
theorem dX5_roomAt_0 : decode cX5_roomAt 0 = .ok (.aload_n 0, 1) := by decide +kernel
theorem dX5_roomAt_1 : decode cX5_roomAt 1 = .ok (.iload_n 1, 1) := by decide +kernel
theorem dX5_roomAt_2 : decode cX5_roomAt 2 = .ok (.invokevirtual 49, 3) := by decide +kernel
theorem dX5_roomAt_5 : decode cX5_roomAt 5 = .ok (.ifCond .eq 12, 3) := by decide +kernel
theorem dX5_roomAt_8 : decode cX5_roomAt 8 = .ok (.aload_n 0, 1) := by decide +kernel
theorem dX5_roomAt_9 : decode cX5_roomAt 9 = .ok (.getfield 7, 3) := by decide +kernel
theorem dX5_roomAt_12 : decode cX5_roomAt 12 = .ok (.iconst 0, 1) := by decide +kernel
theorem dX5_roomAt_13 : decode cX5_roomAt 13 = .ok (.iaload, 1) := by decide +kernel
theorem dX5_roomAt_14 : decode cX5_roomAt 14 = .ok (.goto 4, 3) := by decide +kernel
theorem dX5_roomAt_17 : decode cX5_roomAt 17 = .ok (.iconst 1, 1) := by decide +kernel
theorem dX5_roomAt_18 : decode cX5_roomAt 18 = .ok (.aload_n 0, 1) := by decide +kernel
theorem dX5_roomAt_19 : decode cX5_roomAt 19 = .ok (.iload_n 1, 1) := by decide +kernel
theorem dX5_roomAt_20 : decode cX5_roomAt 20 = .ok (.invokevirtual 53, 3) := by decide +kernel
theorem dX5_roomAt_23 : decode cX5_roomAt 23 = .ok (.isub, 1) := by decide +kernel
theorem dX5_roomAt_24 : decode cX5_roomAt 24 = .ok (.ireturn, 1) := by decide +kernel
theorem dX5_way_0 : decode cX5_way 0 = .ok (.aload_n 0, 1) := by decide +kernel
theorem dX5_way_1 : decode cX5_way 1 = .ok (.iload_n 1, 1) := by decide +kernel
theorem dX5_way_2 : decode cX5_way 2 = .ok (.iconst 1, 1) := by decide +kernel
theorem dX5_way_3 : decode cX5_way 3 = .ok (.invokevirtual 41, 3) := by decide +kernel
theorem dX5_way_6 : decode cX5_way 6 = .ok (.iconst 1, 1) := by decide +kernel
theorem dX5_way_7 : decode cX5_way 7 = .ok (.if_icmp .ne 7, 3) := by decide +kernel
theorem dX5_way_10 : decode cX5_way 10 = .ok (.iconst 1, 1) := by decide +kernel
theorem dX5_way_11 : decode cX5_way 11 = .ok (.goto 4, 3) := by decide +kernel
theorem dX5_way_14 : decode cX5_way 14 = .ok (.iconst (-1), 1) := by decide +kernel
theorem dX5_way_15 : decode cX5_way 15 = .ok (.ireturn, 1) := by decide +kernel
theorem dX5_nextOf_0 : decode cX5_nextOf 0 = .ok (.aload_n 0, 1) := by decide +kernel
theorem dX5_nextOf_1 : decode cX5_nextOf 1 = .ok (.iload_n 1, 1) := by decide +kernel
theorem dX5_nextOf_2 : decode cX5_nextOf 2 = .ok (.iconst 2, 1) := by decide +kernel
theorem dX5_nextOf_3 : decode cX5_nextOf 3 = .ok (.invokevirtual 41, 3) := by decide +kernel
theorem dX5_nextOf_6 : decode cX5_nextOf 6 = .ok (.ifCond .ne 22, 3) := by decide +kernel
theorem dX5_nextOf_9 : decode cX5_nextOf 9 = .ok (.aload_n 0, 1) := by decide +kernel
theorem dX5_nextOf_10 : decode cX5_nextOf 10 = .ok (.iload_n 1, 1) := by decide +kernel
theorem dX5_nextOf_11 : decode cX5_nextOf 11 = .ok (.iconst 1, 1) := by decide +kernel
theorem dX5_nextOf_12 : decode cX5_nextOf 12 = .ok (.invokevirtual 41, 3) := by decide +kernel
theorem dX5_nextOf_15 : decode cX5_nextOf 15 = .ok (.iconst 1, 1) := by decide +kernel
theorem dX5_nextOf_16 : decode cX5_nextOf 16 = .ok (.if_icmp .ne 7, 3) := by decide +kernel
theorem dX5_nextOf_19 : decode cX5_nextOf 19 = .ok (.iconst 0, 1) := by decide +kernel
theorem dX5_nextOf_20 : decode cX5_nextOf 20 = .ok (.goto 20, 3) := by decide +kernel
theorem dX5_nextOf_23 : decode cX5_nextOf 23 = .ok (.bipush 11, 2) := by decide +kernel
theorem dX5_nextOf_25 : decode cX5_nextOf 25 = .ok (.goto 15, 3) := by decide +kernel
theorem dX5_nextOf_28 : decode cX5_nextOf 28 = .ok (.aload_n 0, 1) := by decide +kernel
theorem dX5_nextOf_29 : decode cX5_nextOf 29 = .ok (.iload_n 1, 1) := by decide +kernel
theorem dX5_nextOf_30 : decode cX5_nextOf 30 = .ok (.iconst 3, 1) := by decide +kernel
theorem dX5_nextOf_31 : decode cX5_nextOf 31 = .ok (.invokevirtual 41, 3) := by decide +kernel
theorem dX5_nextOf_34 : decode cX5_nextOf 34 = .ok (.aload_n 0, 1) := by decide +kernel
theorem dX5_nextOf_35 : decode cX5_nextOf 35 = .ok (.iload_n 1, 1) := by decide +kernel
theorem dX5_nextOf_36 : decode cX5_nextOf 36 = .ok (.invokevirtual 57, 3) := by decide +kernel
theorem dX5_nextOf_39 : decode cX5_nextOf 39 = .ok (.iadd, 1) := by decide +kernel
theorem dX5_nextOf_40 : decode cX5_nextOf 40 = .ok (.ireturn, 1) := by decide +kernel
theorem dX5_yields_0 : decode cX5_yields 0 = .ok (.aload_n 0, 1) := by decide +kernel
theorem dX5_yields_1 : decode cX5_yields 1 = .ok (.iload_n 1, 1) := by decide +kernel
theorem dX5_yields_2 : decode cX5_yields 2 = .ok (.iconst 0, 1) := by decide +kernel
theorem dX5_yields_3 : decode cX5_yields 3 = .ok (.invokevirtual 41, 3) := by decide +kernel
theorem dX5_yields_6 : decode cX5_yields 6 = .ok (.aload_n 0, 1) := by decide +kernel
theorem dX5_yields_7 : decode cX5_yields 7 = .ok (.iload_n 2, 1) := by decide +kernel
theorem dX5_yields_8 : decode cX5_yields 8 = .ok (.iconst 0, 1) := by decide +kernel
theorem dX5_yields_9 : decode cX5_yields 9 = .ok (.invokevirtual 41, 3) := by decide +kernel
theorem dX5_yields_12 : decode cX5_yields 12 = .ok (.if_icmp .lt 27, 3) := by decide +kernel
theorem dX5_yields_15 : decode cX5_yields 15 = .ok (.aload_n 0, 1) := by decide +kernel
theorem dX5_yields_16 : decode cX5_yields 16 = .ok (.iload_n 1, 1) := by decide +kernel
theorem dX5_yields_17 : decode cX5_yields 17 = .ok (.iconst 0, 1) := by decide +kernel
theorem dX5_yields_18 : decode cX5_yields 18 = .ok (.invokevirtual 41, 3) := by decide +kernel
theorem dX5_yields_21 : decode cX5_yields 21 = .ok (.aload_n 0, 1) := by decide +kernel
theorem dX5_yields_22 : decode cX5_yields 22 = .ok (.iload_n 2, 1) := by decide +kernel
theorem dX5_yields_23 : decode cX5_yields 23 = .ok (.iconst 0, 1) := by decide +kernel
theorem dX5_yields_24 : decode cX5_yields 24 = .ok (.invokevirtual 41, 3) := by decide +kernel
theorem dX5_yields_27 : decode cX5_yields 27 = .ok (.if_icmp .ne 16, 3) := by decide +kernel
theorem dX5_yields_30 : decode cX5_yields 30 = .ok (.aload_n 0, 1) := by decide +kernel
theorem dX5_yields_31 : decode cX5_yields 31 = .ok (.iload_n 2, 1) := by decide +kernel
theorem dX5_yields_32 : decode cX5_yields 32 = .ok (.iconst 1, 1) := by decide +kernel
theorem dX5_yields_33 : decode cX5_yields 33 = .ok (.invokevirtual 41, 3) := by decide +kernel
theorem dX5_yields_36 : decode cX5_yields 36 = .ok (.ifCond .ne 7, 3) := by decide +kernel
theorem dX5_yields_39 : decode cX5_yields 39 = .ok (.iconst 1, 1) := by decide +kernel
theorem dX5_yields_40 : decode cX5_yields 40 = .ok (.goto 4, 3) := by decide +kernel
theorem dX5_yields_43 : decode cX5_yields 43 = .ok (.iconst 0, 1) := by decide +kernel
theorem dX5_yields_44 : decode cX5_yields 44 = .ok (.istore_n 3, 1) := by decide +kernel
theorem dX5_yields_45 : decode cX5_yields 45 = .ok (.aload_n 0, 1) := by decide +kernel
theorem dX5_yields_46 : decode cX5_yields 46 = .ok (.iload_n 1, 1) := by decide +kernel
theorem dX5_yields_47 : decode cX5_yields 47 = .ok (.iconst 1, 1) := by decide +kernel
theorem dX5_yields_48 : decode cX5_yields 48 = .ok (.invokevirtual 41, 3) := by decide +kernel
theorem dX5_yields_51 : decode cX5_yields 51 = .ok (.aload_n 0, 1) := by decide +kernel
theorem dX5_yields_52 : decode cX5_yields 52 = .ok (.iload_n 2, 1) := by decide +kernel
theorem dX5_yields_53 : decode cX5_yields 53 = .ok (.iconst 1, 1) := by decide +kernel
theorem dX5_yields_54 : decode cX5_yields 54 = .ok (.invokevirtual 41, 3) := by decide +kernel
theorem dX5_yields_57 : decode cX5_yields 57 = .ok (.if_icmp .eq 27, 3) := by decide +kernel
theorem dX5_yields_60 : decode cX5_yields 60 = .ok (.iload_n 3, 1) := by decide +kernel
theorem dX5_yields_61 : decode cX5_yields 61 = .ok (.ifCond .eq 23, 3) := by decide +kernel
theorem dX5_yields_64 : decode cX5_yields 64 = .ok (.aload_n 0, 1) := by decide +kernel
theorem dX5_yields_65 : decode cX5_yields 65 = .ok (.iload_n 2, 1) := by decide +kernel
theorem dX5_yields_66 : decode cX5_yields 66 = .ok (.bipush 8, 2) := by decide +kernel
theorem dX5_yields_68 : decode cX5_yields 68 = .ok (.invokevirtual 41, 3) := by decide +kernel
theorem dX5_yields_71 : decode cX5_yields 71 = .ok (.aload_n 0, 1) := by decide +kernel
theorem dX5_yields_72 : decode cX5_yields 72 = .ok (.getfield 7, 3) := by decide +kernel
theorem dX5_yields_75 : decode cX5_yields 75 = .ok (.iconst 2, 1) := by decide +kernel
theorem dX5_yields_76 : decode cX5_yields 76 = .ok (.iaload, 1) := by decide +kernel
theorem dX5_yields_77 : decode cX5_yields 77 = .ok (.if_icmp .lt 7, 3) := by decide +kernel
theorem dX5_yields_80 : decode cX5_yields 80 = .ok (.iconst 1, 1) := by decide +kernel
theorem dX5_yields_81 : decode cX5_yields 81 = .ok (.goto 4, 3) := by decide +kernel
theorem dX5_yields_84 : decode cX5_yields 84 = .ok (.iconst 0, 1) := by decide +kernel
theorem dX5_yields_85 : decode cX5_yields 85 = .ok (.ireturn, 1) := by decide +kernel
theorem dX5_yielder_0 : decode cX5_yielder 0 = .ok (.bipush (-6), 2) := by decide +kernel
theorem dX5_yielder_2 : decode cX5_yielder 2 = .ok (.istore_n 3, 1) := by decide +kernel
theorem dX5_yielder_3 : decode cX5_yielder 3 = .ok (.iconst 0, 1) := by decide +kernel
theorem dX5_yielder_4 : decode cX5_yielder 4 = .ok (.istore 4, 2) := by decide +kernel
theorem dX5_yielder_6 : decode cX5_yielder 6 = .ok (.iload 4, 2) := by decide +kernel
theorem dX5_yielder_8 : decode cX5_yielder 8 = .ok (.aload_n 0, 1) := by decide +kernel
theorem dX5_yielder_9 : decode cX5_yielder 9 = .ok (.getfield 7, 3) := by decide +kernel
theorem dX5_yielder_12 : decode cX5_yielder 12 = .ok (.iconst 4, 1) := by decide +kernel
theorem dX5_yielder_13 : decode cX5_yielder 13 = .ok (.iaload, 1) := by decide +kernel
theorem dX5_yielder_14 : decode cX5_yielder 14 = .ok (.if_icmp .ge 58, 3) := by decide +kernel
theorem dX5_yielder_17 : decode cX5_yielder 17 = .ok (.aload_n 0, 1) := by decide +kernel
theorem dX5_yielder_18 : decode cX5_yielder 18 = .ok (.iload 4, 2) := by decide +kernel
theorem dX5_yielder_20 : decode cX5_yielder 20 = .ok (.iload_n 1, 1) := by decide +kernel
theorem dX5_yielder_21 : decode cX5_yielder 21 = .ok (.invokevirtual 45, 3) := by decide +kernel
theorem dX5_yielder_24 : decode cX5_yielder 24 = .ok (.ifCond .eq 42, 3) := by decide +kernel
theorem dX5_yielder_27 : decode cX5_yielder 27 = .ok (.aload_n 0, 1) := by decide +kernel
theorem dX5_yielder_28 : decode cX5_yielder 28 = .ok (.iload 4, 2) := by decide +kernel
theorem dX5_yielder_30 : decode cX5_yielder 30 = .ok (.iload_n 2, 1) := by decide +kernel
theorem dX5_yielder_31 : decode cX5_yielder 31 = .ok (.invokevirtual 60, 3) := by decide +kernel
theorem dX5_yielder_34 : decode cX5_yielder 34 = .ok (.ifCond .eq 32, 3) := by decide +kernel
theorem dX5_yielder_37 : decode cX5_yielder 37 = .ok (.iload_n 3, 1) := by decide +kernel
theorem dX5_yielder_38 : decode cX5_yielder 38 = .ok (.bipush (-6), 2) := by decide +kernel
theorem dX5_yielder_40 : decode cX5_yielder 40 = .ok (.if_icmp .eq 19, 3) := by decide +kernel
theorem dX5_yielder_43 : decode cX5_yielder 43 = .ok (.aload_n 0, 1) := by decide +kernel
theorem dX5_yielder_44 : decode cX5_yielder 44 = .ok (.iload 4, 2) := by decide +kernel
theorem dX5_yielder_46 : decode cX5_yielder 46 = .ok (.iconst 0, 1) := by decide +kernel
theorem dX5_yielder_47 : decode cX5_yielder 47 = .ok (.invokevirtual 41, 3) := by decide +kernel
theorem dX5_yielder_50 : decode cX5_yielder 50 = .ok (.aload_n 0, 1) := by decide +kernel
theorem dX5_yielder_51 : decode cX5_yielder 51 = .ok (.iload_n 3, 1) := by decide +kernel
theorem dX5_yielder_52 : decode cX5_yielder 52 = .ok (.iconst 0, 1) := by decide +kernel
theorem dX5_yielder_53 : decode cX5_yielder 53 = .ok (.invokevirtual 41, 3) := by decide +kernel
theorem dX5_yielder_56 : decode cX5_yielder 56 = .ok (.if_icmp .ge 8, 3) := by decide +kernel
theorem dX5_yielder_59 : decode cX5_yielder 59 = .ok (.iload 4, 2) := by decide +kernel
theorem dX5_yielder_61 : decode cX5_yielder 61 = .ok (.goto 4, 3) := by decide +kernel
theorem dX5_yielder_64 : decode cX5_yielder 64 = .ok (.iload_n 3, 1) := by decide +kernel
theorem dX5_yielder_65 : decode cX5_yielder 65 = .ok (.istore_n 3, 1) := by decide +kernel
theorem dX5_yielder_66 : decode cX5_yielder 66 = .ok (.iinc 4 1, 3) := by decide +kernel
theorem dX5_yielder_69 : decode cX5_yielder 69 = .ok (.goto (-63), 3) := by decide +kernel
theorem dX5_yielder_72 : decode cX5_yielder 72 = .ok (.iload_n 3, 1) := by decide +kernel
theorem dX5_yielder_73 : decode cX5_yielder 73 = .ok (.ireturn, 1) := by decide +kernel
theorem dX5_ends_0 : decode cX5_ends 0 = .ok (.aload_n 0, 1) := by decide +kernel
theorem dX5_ends_1 : decode cX5_ends 1 = .ok (.iload_n 1, 1) := by decide +kernel
theorem dX5_ends_2 : decode cX5_ends 2 = .ok (.iconst 2, 1) := by decide +kernel
theorem dX5_ends_3 : decode cX5_ends 3 = .ok (.iload_n 2, 1) := by decide +kernel
theorem dX5_ends_4 : decode cX5_ends 4 = .ok (.invokevirtual 63, 3) := by decide +kernel
theorem dX5_ends_7 : decode cX5_ends 7 = .ok (.aload_n 0, 1) := by decide +kernel
theorem dX5_ends_8 : decode cX5_ends 8 = .ok (.iload_n 1, 1) := by decide +kernel
theorem dX5_ends_9 : decode cX5_ends 9 = .ok (.iconst 3, 1) := by decide +kernel
theorem dX5_ends_10 : decode cX5_ends 10 = .ok (.bipush (-6), 2) := by decide +kernel
theorem dX5_ends_12 : decode cX5_ends 12 = .ok (.invokevirtual 63, 3) := by decide +kernel
theorem dX5_ends_15 : decode cX5_ends 15 = .ok (.aload_n 0, 1) := by decide +kernel
theorem dX5_ends_16 : decode cX5_ends 16 = .ok (.iload_n 1, 1) := by decide +kernel
theorem dX5_ends_17 : decode cX5_ends 17 = .ok (.bipush 7, 2) := by decide +kernel
theorem dX5_ends_19 : decode cX5_ends 19 = .ok (.aload_n 0, 1) := by decide +kernel
theorem dX5_ends_20 : decode cX5_ends 20 = .ok (.getfield 7, 3) := by decide +kernel
theorem dX5_ends_23 : decode cX5_ends 23 = .ok (.iconst 3, 1) := by decide +kernel
theorem dX5_ends_24 : decode cX5_ends 24 = .ok (.iaload, 1) := by decide +kernel
theorem dX5_ends_25 : decode cX5_ends 25 = .ok (.iconst 1, 1) := by decide +kernel
theorem dX5_ends_26 : decode cX5_ends 26 = .ok (.iadd, 1) := by decide +kernel
theorem dX5_ends_27 : decode cX5_ends 27 = .ok (.invokevirtual 63, 3) := by decide +kernel
theorem dX5_ends_30 : decode cX5_ends 30 = .ok (.aload_n 0, 1) := by decide +kernel
theorem dX5_ends_31 : decode cX5_ends 31 = .ok (.iload_n 1, 1) := by decide +kernel
theorem dX5_ends_32 : decode cX5_ends 32 = .ok (.bipush 8, 2) := by decide +kernel
theorem dX5_ends_34 : decode cX5_ends 34 = .ok (.iconst 0, 1) := by decide +kernel
theorem dX5_ends_35 : decode cX5_ends 35 = .ok (.invokevirtual 63, 3) := by decide +kernel
theorem dX5_ends_38 : decode cX5_ends 38 = .ok (.aload_n 0, 1) := by decide +kernel
theorem dX5_ends_39 : decode cX5_ends 39 = .ok (.getfield 25, 3) := by decide +kernel
theorem dX5_ends_42 : decode cX5_ends 42 = .ok (.iload_n 1, 1) := by decide +kernel
theorem dX5_ends_43 : decode cX5_ends 43 = .ok (.iload_n 2, 1) := by decide +kernel
theorem dX5_ends_44 : decode cX5_ends 44 = .ok (.iconst 2, 1) := by decide +kernel
theorem dX5_ends_45 : decode cX5_ends 45 = .ok (.if_icmp .ne 7, 3) := by decide +kernel
theorem dX5_ends_48 : decode cX5_ends 48 = .ok (.iconst 2, 1) := by decide +kernel
theorem dX5_ends_49 : decode cX5_ends 49 = .ok (.goto 4, 3) := by decide +kernel
theorem dX5_ends_52 : decode cX5_ends 52 = .ok (.iconst 5, 1) := by decide +kernel
theorem dX5_ends_53 : decode cX5_ends 53 = .ok (.iastore, 1) := by decide +kernel
theorem dX5_ends_54 : decode cX5_ends 54 = .ok (.return_, 1) := by decide +kernel
theorem dX5_goesTo_0 : decode cX5_goesTo 0 = .ok (.aload_n 0, 1) := by decide +kernel
theorem dX5_goesTo_1 : decode cX5_goesTo 1 = .ok (.iload_n 1, 1) := by decide +kernel
theorem dX5_goesTo_2 : decode cX5_goesTo 2 = .ok (.iconst 2, 1) := by decide +kernel
theorem dX5_goesTo_3 : decode cX5_goesTo 3 = .ok (.iconst 1, 1) := by decide +kernel
theorem dX5_goesTo_4 : decode cX5_goesTo 4 = .ok (.invokevirtual 63, 3) := by decide +kernel
theorem dX5_goesTo_7 : decode cX5_goesTo 7 = .ok (.aload_n 0, 1) := by decide +kernel
theorem dX5_goesTo_8 : decode cX5_goesTo 8 = .ok (.iload_n 1, 1) := by decide +kernel
theorem dX5_goesTo_9 : decode cX5_goesTo 9 = .ok (.iconst 3, 1) := by decide +kernel
theorem dX5_goesTo_10 : decode cX5_goesTo 10 = .ok (.iload_n 2, 1) := by decide +kernel
theorem dX5_goesTo_11 : decode cX5_goesTo 11 = .ok (.invokevirtual 63, 3) := by decide +kernel
theorem dX5_goesTo_14 : decode cX5_goesTo 14 = .ok (.aload_n 0, 1) := by decide +kernel
theorem dX5_goesTo_15 : decode cX5_goesTo 15 = .ok (.iload_n 1, 1) := by decide +kernel
theorem dX5_goesTo_16 : decode cX5_goesTo 16 = .ok (.bipush 8, 2) := by decide +kernel
theorem dX5_goesTo_18 : decode cX5_goesTo 18 = .ok (.iconst 0, 1) := by decide +kernel
theorem dX5_goesTo_19 : decode cX5_goesTo 19 = .ok (.invokevirtual 63, 3) := by decide +kernel
theorem dX5_goesTo_22 : decode cX5_goesTo 22 = .ok (.aload_n 0, 1) := by decide +kernel
theorem dX5_goesTo_23 : decode cX5_goesTo 23 = .ok (.getfield 25, 3) := by decide +kernel
theorem dX5_goesTo_26 : decode cX5_goesTo 26 = .ok (.iload_n 1, 1) := by decide +kernel
theorem dX5_goesTo_27 : decode cX5_goesTo 27 = .ok (.iload_n 3, 1) := by decide +kernel
theorem dX5_goesTo_28 : decode cX5_goesTo 28 = .ok (.iastore, 1) := by decide +kernel
theorem dX5_goesTo_29 : decode cX5_goesTo 29 = .ok (.return_, 1) := by decide +kernel
theorem dX5_makesWay_0 : decode cX5_makesWay 0 = .ok (.aload_n 0, 1) := by decide +kernel
theorem dX5_makesWay_1 : decode cX5_makesWay 1 = .ok (.iload_n 1, 1) := by decide +kernel
theorem dX5_makesWay_2 : decode cX5_makesWay 2 = .ok (.iconst 3, 1) := by decide +kernel
theorem dX5_makesWay_3 : decode cX5_makesWay 3 = .ok (.invokevirtual 41, 3) := by decide +kernel
theorem dX5_makesWay_6 : decode cX5_makesWay 6 = .ok (.aload_n 0, 1) := by decide +kernel
theorem dX5_makesWay_7 : decode cX5_makesWay 7 = .ok (.iload_n 2, 1) := by decide +kernel
theorem dX5_makesWay_8 : decode cX5_makesWay 8 = .ok (.invokevirtual 57, 3) := by decide +kernel
theorem dX5_makesWay_11 : decode cX5_makesWay 11 = .ok (.iadd, 1) := by decide +kernel
theorem dX5_makesWay_12 : decode cX5_makesWay 12 = .ok (.istore_n 3, 1) := by decide +kernel
theorem dX5_makesWay_13 : decode cX5_makesWay 13 = .ok (.iload_n 3, 1) := by decide +kernel
theorem dX5_makesWay_14 : decode cX5_makesWay 14 = .ok (.invokestatic 67, 3) := by decide +kernel
theorem dX5_makesWay_17 : decode cX5_makesWay 17 = .ok (.ifCond .eq 13, 3) := by decide +kernel
theorem dX5_makesWay_20 : decode cX5_makesWay 20 = .ok (.aload_n 0, 1) := by decide +kernel
theorem dX5_makesWay_21 : decode cX5_makesWay 21 = .ok (.iload_n 3, 1) := by decide +kernel
theorem dX5_makesWay_22 : decode cX5_makesWay 22 = .ok (.invokevirtual 70, 3) := by decide +kernel
theorem dX5_makesWay_25 : decode cX5_makesWay 25 = .ok (.ifCond .gt 5, 3) := by decide +kernel
theorem dX5_makesWay_28 : decode cX5_makesWay 28 = .ok (.iconst 0, 1) := by decide +kernel
theorem dX5_makesWay_29 : decode cX5_makesWay 29 = .ok (.ireturn, 1) := by decide +kernel
theorem dX5_makesWay_30 : decode cX5_makesWay 30 = .ok (.aload_n 0, 1) := by decide +kernel
theorem dX5_makesWay_31 : decode cX5_makesWay 31 = .ok (.getfield 7, 3) := by decide +kernel
theorem dX5_makesWay_34 : decode cX5_makesWay 34 = .ok (.iconst 1, 1) := by decide +kernel
theorem dX5_makesWay_35 : decode cX5_makesWay 35 = .ok (.iaload, 1) := by decide +kernel
theorem dX5_makesWay_36 : decode cX5_makesWay 36 = .ok (.aload_n 0, 1) := by decide +kernel
theorem dX5_makesWay_37 : decode cX5_makesWay 37 = .ok (.iload_n 2, 1) := by decide +kernel
theorem dX5_makesWay_38 : decode cX5_makesWay 38 = .ok (.iconst 0, 1) := by decide +kernel
theorem dX5_makesWay_39 : decode cX5_makesWay 39 = .ok (.invokevirtual 41, 3) := by decide +kernel
theorem dX5_makesWay_42 : decode cX5_makesWay 42 = .ok (.aload_n 0, 1) := by decide +kernel
theorem dX5_makesWay_43 : decode cX5_makesWay 43 = .ok (.iload_n 1, 1) := by decide +kernel
theorem dX5_makesWay_44 : decode cX5_makesWay 44 = .ok (.iconst 0, 1) := by decide +kernel
theorem dX5_makesWay_45 : decode cX5_makesWay 45 = .ok (.invokevirtual 41, 3) := by decide +kernel
theorem dX5_makesWay_48 : decode cX5_makesWay 48 = .ok (.isub, 1) := by decide +kernel
theorem dX5_makesWay_49 : decode cX5_makesWay 49 = .ok (.iconst 1, 1) := by decide +kernel
theorem dX5_makesWay_50 : decode cX5_makesWay 50 = .ok (.iadd, 1) := by decide +kernel
theorem dX5_makesWay_51 : decode cX5_makesWay 51 = .ok (.imul, 1) := by decide +kernel
theorem dX5_makesWay_52 : decode cX5_makesWay 52 = .ok (.istore 4, 2) := by decide +kernel
theorem dX5_makesWay_54 : decode cX5_makesWay 54 = .ok (.aload_n 0, 1) := by decide +kernel
theorem dX5_makesWay_55 : decode cX5_makesWay 55 = .ok (.iload_n 1, 1) := by decide +kernel
theorem dX5_makesWay_56 : decode cX5_makesWay 56 = .ok (.bipush 6, 2) := by decide +kernel
theorem dX5_makesWay_58 : decode cX5_makesWay 58 = .ok (.iload 4, 2) := by decide +kernel
theorem dX5_makesWay_60 : decode cX5_makesWay 60 = .ok (.invokevirtual 73, 3) := by decide +kernel
theorem dX5_makesWay_63 : decode cX5_makesWay 63 = .ok (.aload_n 0, 1) := by decide +kernel
theorem dX5_makesWay_64 : decode cX5_makesWay 64 = .ok (.iload_n 1, 1) := by decide +kernel
theorem dX5_makesWay_65 : decode cX5_makesWay 65 = .ok (.iconst 5, 1) := by decide +kernel
theorem dX5_makesWay_66 : decode cX5_makesWay 66 = .ok (.iconst 1, 1) := by decide +kernel
theorem dX5_makesWay_67 : decode cX5_makesWay 67 = .ok (.invokevirtual 73, 3) := by decide +kernel
theorem dX5_makesWay_70 : decode cX5_makesWay 70 = .ok (.aload_n 0, 1) := by decide +kernel
theorem dX5_makesWay_71 : decode cX5_makesWay 71 = .ok (.getfield 7, 3) := by decide +kernel
theorem dX5_makesWay_74 : decode cX5_makesWay 74 = .ok (.bipush 6, 2) := by decide +kernel
theorem dX5_makesWay_76 : decode cX5_makesWay 76 = .ok (.dup2, 1) := by decide +kernel
theorem dX5_makesWay_77 : decode cX5_makesWay 77 = .ok (.iaload, 1) := by decide +kernel
theorem dX5_makesWay_78 : decode cX5_makesWay 78 = .ok (.iload 4, 2) := by decide +kernel
theorem dX5_makesWay_80 : decode cX5_makesWay 80 = .ok (.iadd, 1) := by decide +kernel
theorem dX5_makesWay_81 : decode cX5_makesWay 81 = .ok (.iastore, 1) := by decide +kernel
theorem dX5_makesWay_82 : decode cX5_makesWay 82 = .ok (.aload_n 0, 1) := by decide +kernel
theorem dX5_makesWay_83 : decode cX5_makesWay 83 = .ok (.getfield 7, 3) := by decide +kernel
theorem dX5_makesWay_86 : decode cX5_makesWay 86 = .ok (.bipush 7, 2) := by decide +kernel
theorem dX5_makesWay_88 : decode cX5_makesWay 88 = .ok (.dup2, 1) := by decide +kernel
theorem dX5_makesWay_89 : decode cX5_makesWay 89 = .ok (.iaload, 1) := by decide +kernel
theorem dX5_makesWay_90 : decode cX5_makesWay 90 = .ok (.iconst 1, 1) := by decide +kernel
theorem dX5_makesWay_91 : decode cX5_makesWay 91 = .ok (.iadd, 1) := by decide +kernel
theorem dX5_makesWay_92 : decode cX5_makesWay 92 = .ok (.iastore, 1) := by decide +kernel
theorem dX5_makesWay_93 : decode cX5_makesWay 93 = .ok (.iload_n 3, 1) := by decide +kernel
theorem dX5_makesWay_94 : decode cX5_makesWay 94 = .ok (.invokestatic 67, 3) := by decide +kernel
theorem dX5_makesWay_97 : decode cX5_makesWay 97 = .ok (.ifCond .eq 13, 3) := by decide +kernel
theorem dX5_makesWay_100 : decode cX5_makesWay 100 = .ok (.aload_n 0, 1) := by decide +kernel
theorem dX5_makesWay_101 : decode cX5_makesWay 101 = .ok (.iload_n 1, 1) := by decide +kernel
theorem dX5_makesWay_102 : decode cX5_makesWay 102 = .ok (.iload_n 3, 1) := by decide +kernel
theorem dX5_makesWay_103 : decode cX5_makesWay 103 = .ok (.iconst 4, 1) := by decide +kernel
theorem dX5_makesWay_104 : decode cX5_makesWay 104 = .ok (.invokevirtual 76, 3) := by decide +kernel
theorem dX5_makesWay_107 : decode cX5_makesWay 107 = .ok (.goto 9, 3) := by decide +kernel
theorem dX5_makesWay_110 : decode cX5_makesWay 110 = .ok (.aload_n 0, 1) := by decide +kernel
theorem dX5_makesWay_111 : decode cX5_makesWay 111 = .ok (.iload_n 1, 1) := by decide +kernel
theorem dX5_makesWay_112 : decode cX5_makesWay 112 = .ok (.iconst 3, 1) := by decide +kernel
theorem dX5_makesWay_113 : decode cX5_makesWay 113 = .ok (.invokevirtual 79, 3) := by decide +kernel
theorem dX5_makesWay_116 : decode cX5_makesWay 116 = .ok (.iconst 1, 1) := by decide +kernel
theorem dX5_makesWay_117 : decode cX5_makesWay 117 = .ok (.ireturn, 1) := by decide +kernel
theorem dX5_acts_0 : decode cX5_acts 0 = .ok (.aload_n 0, 1) := by decide +kernel
theorem dX5_acts_1 : decode cX5_acts 1 = .ok (.iload_n 1, 1) := by decide +kernel
theorem dX5_acts_2 : decode cX5_acts 2 = .ok (.invokevirtual 83, 3) := by decide +kernel
theorem dX5_acts_5 : decode cX5_acts 5 = .ok (.istore_n 2, 1) := by decide +kernel
theorem dX5_acts_6 : decode cX5_acts 6 = .ok (.iload_n 2, 1) := by decide +kernel
theorem dX5_acts_7 : decode cX5_acts 7 = .ok (.invokestatic 67, 3) := by decide +kernel
theorem dX5_acts_10 : decode cX5_acts 10 = .ok (.ifCond .ne 10, 3) := by decide +kernel
theorem dX5_acts_13 : decode cX5_acts 13 = .ok (.aload_n 0, 1) := by decide +kernel
theorem dX5_acts_14 : decode cX5_acts 14 = .ok (.iload_n 1, 1) := by decide +kernel
theorem dX5_acts_15 : decode cX5_acts 15 = .ok (.iconst 2, 1) := by decide +kernel
theorem dX5_acts_16 : decode cX5_acts 16 = .ok (.invokevirtual 79, 3) := by decide +kernel
theorem dX5_acts_19 : decode cX5_acts 19 = .ok (.return_, 1) := by decide +kernel
theorem dX5_acts_20 : decode cX5_acts 20 = .ok (.aload_n 0, 1) := by decide +kernel
theorem dX5_acts_21 : decode cX5_acts 21 = .ok (.iload_n 2, 1) := by decide +kernel
theorem dX5_acts_22 : decode cX5_acts 22 = .ok (.invokevirtual 70, 3) := by decide +kernel
theorem dX5_acts_25 : decode cX5_acts 25 = .ok (.ifCond .le 7, 3) := by decide +kernel
theorem dX5_acts_28 : decode cX5_acts 28 = .ok (.iconst 1, 1) := by decide +kernel
theorem dX5_acts_29 : decode cX5_acts 29 = .ok (.goto 4, 3) := by decide +kernel
theorem dX5_acts_32 : decode cX5_acts 32 = .ok (.iconst 0, 1) := by decide +kernel
theorem dX5_acts_33 : decode cX5_acts 33 = .ok (.istore_n 3, 1) := by decide +kernel
theorem dX5_acts_34 : decode cX5_acts 34 = .ok (.iload_n 3, 1) := by decide +kernel
theorem dX5_acts_35 : decode cX5_acts 35 = .ok (.ifCond .eq 8, 3) := by decide +kernel
theorem dX5_acts_38 : decode cX5_acts 38 = .ok (.bipush (-6), 2) := by decide +kernel
theorem dX5_acts_40 : decode cX5_acts 40 = .ok (.goto 9, 3) := by decide +kernel
theorem dX5_acts_43 : decode cX5_acts 43 = .ok (.aload_n 0, 1) := by decide +kernel
theorem dX5_acts_44 : decode cX5_acts 44 = .ok (.iload_n 2, 1) := by decide +kernel
theorem dX5_acts_45 : decode cX5_acts 45 = .ok (.iload_n 1, 1) := by decide +kernel
theorem dX5_acts_46 : decode cX5_acts 46 = .ok (.invokevirtual 86, 3) := by decide +kernel
theorem dX5_acts_49 : decode cX5_acts 49 = .ok (.istore 4, 2) := by decide +kernel
theorem dX5_acts_51 : decode cX5_acts 51 = .ok (.iload_n 3, 1) := by decide +kernel
theorem dX5_acts_52 : decode cX5_acts 52 = .ok (.ifCond .ne 20, 3) := by decide +kernel
theorem dX5_acts_55 : decode cX5_acts 55 = .ok (.iload 4, 2) := by decide +kernel
theorem dX5_acts_57 : decode cX5_acts 57 = .ok (.bipush (-6), 2) := by decide +kernel
theorem dX5_acts_59 : decode cX5_acts 59 = .ok (.if_icmp .eq 21, 3) := by decide +kernel
theorem dX5_acts_62 : decode cX5_acts 62 = .ok (.aload_n 0, 1) := by decide +kernel
theorem dX5_acts_63 : decode cX5_acts 63 = .ok (.iload 4, 2) := by decide +kernel
theorem dX5_acts_65 : decode cX5_acts 65 = .ok (.iload_n 1, 1) := by decide +kernel
theorem dX5_acts_66 : decode cX5_acts 66 = .ok (.invokevirtual 89, 3) := by decide +kernel
theorem dX5_acts_69 : decode cX5_acts 69 = .ok (.ifCond .eq 11, 3) := by decide +kernel
theorem dX5_acts_72 : decode cX5_acts 72 = .ok (.aload_n 0, 1) := by decide +kernel
theorem dX5_acts_73 : decode cX5_acts 73 = .ok (.iload_n 1, 1) := by decide +kernel
theorem dX5_acts_74 : decode cX5_acts 74 = .ok (.iload_n 2, 1) := by decide +kernel
theorem dX5_acts_75 : decode cX5_acts 75 = .ok (.iconst 1, 1) := by decide +kernel
theorem dX5_acts_76 : decode cX5_acts 76 = .ok (.invokevirtual 76, 3) := by decide +kernel
theorem dX5_acts_79 : decode cX5_acts 79 = .ok (.return_, 1) := by decide +kernel
theorem dX5_acts_80 : decode cX5_acts 80 = .ok (.aload_n 0, 1) := by decide +kernel
theorem dX5_acts_81 : decode cX5_acts 81 = .ok (.iload_n 1, 1) := by decide +kernel
theorem dX5_acts_82 : decode cX5_acts 82 = .ok (.iconst 4, 1) := by decide +kernel
theorem dX5_acts_83 : decode cX5_acts 83 = .ok (.iconst 1, 1) := by decide +kernel
theorem dX5_acts_84 : decode cX5_acts 84 = .ok (.invokevirtual 73, 3) := by decide +kernel
theorem dX5_acts_87 : decode cX5_acts 87 = .ok (.aload_n 0, 1) := by decide +kernel
theorem dX5_acts_88 : decode cX5_acts 88 = .ok (.iload_n 1, 1) := by decide +kernel
theorem dX5_acts_89 : decode cX5_acts 89 = .ok (.bipush 8, 2) := by decide +kernel
theorem dX5_acts_91 : decode cX5_acts 91 = .ok (.iconst 1, 1) := by decide +kernel
theorem dX5_acts_92 : decode cX5_acts 92 = .ok (.invokevirtual 73, 3) := by decide +kernel
theorem dX5_acts_95 : decode cX5_acts 95 = .ok (.aload_n 0, 1) := by decide +kernel
theorem dX5_acts_96 : decode cX5_acts 96 = .ok (.getfield 7, 3) := by decide +kernel
theorem dX5_acts_99 : decode cX5_acts 99 = .ok (.bipush 8, 2) := by decide +kernel
theorem dX5_acts_101 : decode cX5_acts 101 = .ok (.dup2, 1) := by decide +kernel
theorem dX5_acts_102 : decode cX5_acts 102 = .ok (.iaload, 1) := by decide +kernel
theorem dX5_acts_103 : decode cX5_acts 103 = .ok (.iconst 1, 1) := by decide +kernel
theorem dX5_acts_104 : decode cX5_acts 104 = .ok (.iadd, 1) := by decide +kernel
theorem dX5_acts_105 : decode cX5_acts 105 = .ok (.iastore, 1) := by decide +kernel
theorem dX5_acts_106 : decode cX5_acts 106 = .ok (.aload_n 0, 1) := by decide +kernel
theorem dX5_acts_107 : decode cX5_acts 107 = .ok (.getfield 25, 3) := by decide +kernel
theorem dX5_acts_110 : decode cX5_acts 110 = .ok (.iload_n 1, 1) := by decide +kernel
theorem dX5_acts_111 : decode cX5_acts 111 = .ok (.iconst 3, 1) := by decide +kernel
theorem dX5_acts_112 : decode cX5_acts 112 = .ok (.iastore, 1) := by decide +kernel
theorem dX5_acts_113 : decode cX5_acts 113 = .ok (.return_, 1) := by decide +kernel
theorem dX5_ticks_0 : decode cX5_ticks 0 = .ok (.iconst 0, 1) := by decide +kernel
theorem dX5_ticks_1 : decode cX5_ticks 1 = .ok (.istore_n 1, 1) := by decide +kernel
theorem dX5_ticks_2 : decode cX5_ticks 2 = .ok (.iload_n 1, 1) := by decide +kernel
theorem dX5_ticks_3 : decode cX5_ticks 3 = .ok (.bipush 24, 2) := by decide +kernel
theorem dX5_ticks_5 : decode cX5_ticks 5 = .ok (.if_icmp .ge 16, 3) := by decide +kernel
theorem dX5_ticks_8 : decode cX5_ticks 8 = .ok (.aload_n 0, 1) := by decide +kernel
theorem dX5_ticks_9 : decode cX5_ticks 9 = .ok (.getfield 25, 3) := by decide +kernel
theorem dX5_ticks_12 : decode cX5_ticks 12 = .ok (.iload_n 1, 1) := by decide +kernel
theorem dX5_ticks_13 : decode cX5_ticks 13 = .ok (.iconst 0, 1) := by decide +kernel
theorem dX5_ticks_14 : decode cX5_ticks 14 = .ok (.iastore, 1) := by decide +kernel
theorem dX5_ticks_15 : decode cX5_ticks 15 = .ok (.iinc 1 1, 3) := by decide +kernel
theorem dX5_ticks_18 : decode cX5_ticks 18 = .ok (.goto (-16), 3) := by decide +kernel
theorem dX5_ticks_21 : decode cX5_ticks 21 = .ok (.bipush 9, 2) := by decide +kernel
theorem dX5_ticks_23 : decode cX5_ticks 23 = .ok (.istore_n 1, 1) := by decide +kernel
theorem dX5_ticks_24 : decode cX5_ticks 24 = .ok (.iload_n 1, 1) := by decide +kernel
theorem dX5_ticks_25 : decode cX5_ticks 25 = .ok (.ifCond .le 61, 3) := by decide +kernel
theorem dX5_ticks_28 : decode cX5_ticks 28 = .ok (.iconst 0, 1) := by decide +kernel
theorem dX5_ticks_29 : decode cX5_ticks 29 = .ok (.istore_n 2, 1) := by decide +kernel
theorem dX5_ticks_30 : decode cX5_ticks 30 = .ok (.iload_n 2, 1) := by decide +kernel
theorem dX5_ticks_31 : decode cX5_ticks 31 = .ok (.aload_n 0, 1) := by decide +kernel
theorem dX5_ticks_32 : decode cX5_ticks 32 = .ok (.getfield 7, 3) := by decide +kernel
theorem dX5_ticks_35 : decode cX5_ticks 35 = .ok (.iconst 4, 1) := by decide +kernel
theorem dX5_ticks_36 : decode cX5_ticks 36 = .ok (.iaload, 1) := by decide +kernel
theorem dX5_ticks_37 : decode cX5_ticks 37 = .ok (.if_icmp .ge 43, 3) := by decide +kernel
theorem dX5_ticks_40 : decode cX5_ticks 40 = .ok (.aload_n 0, 1) := by decide +kernel
theorem dX5_ticks_41 : decode cX5_ticks 41 = .ok (.iload_n 2, 1) := by decide +kernel
theorem dX5_ticks_42 : decode cX5_ticks 42 = .ok (.iconst 0, 1) := by decide +kernel
theorem dX5_ticks_43 : decode cX5_ticks 43 = .ok (.invokevirtual 41, 3) := by decide +kernel
theorem dX5_ticks_46 : decode cX5_ticks 46 = .ok (.iload_n 1, 1) := by decide +kernel
theorem dX5_ticks_47 : decode cX5_ticks 47 = .ok (.if_icmp .ne 27, 3) := by decide +kernel
theorem dX5_ticks_50 : decode cX5_ticks 50 = .ok (.aload_n 0, 1) := by decide +kernel
theorem dX5_ticks_51 : decode cX5_ticks 51 = .ok (.iload_n 2, 1) := by decide +kernel
theorem dX5_ticks_52 : decode cX5_ticks 52 = .ok (.iconst 2, 1) := by decide +kernel
theorem dX5_ticks_53 : decode cX5_ticks 53 = .ok (.invokevirtual 41, 3) := by decide +kernel
theorem dX5_ticks_56 : decode cX5_ticks 56 = .ok (.iconst 2, 1) := by decide +kernel
theorem dX5_ticks_57 : decode cX5_ticks 57 = .ok (.if_icmp .ge 17, 3) := by decide +kernel
theorem dX5_ticks_60 : decode cX5_ticks 60 = .ok (.aload_n 0, 1) := by decide +kernel
theorem dX5_ticks_61 : decode cX5_ticks 61 = .ok (.getfield 25, 3) := by decide +kernel
theorem dX5_ticks_64 : decode cX5_ticks 64 = .ok (.iload_n 2, 1) := by decide +kernel
theorem dX5_ticks_65 : decode cX5_ticks 65 = .ok (.iaload, 1) := by decide +kernel
theorem dX5_ticks_66 : decode cX5_ticks 66 = .ok (.ifCond .ne 8, 3) := by decide +kernel
theorem dX5_ticks_69 : decode cX5_ticks 69 = .ok (.aload_n 0, 1) := by decide +kernel
theorem dX5_ticks_70 : decode cX5_ticks 70 = .ok (.iload_n 2, 1) := by decide +kernel
theorem dX5_ticks_71 : decode cX5_ticks 71 = .ok (.invokevirtual 92, 3) := by decide +kernel
theorem dX5_ticks_74 : decode cX5_ticks 74 = .ok (.iinc 2 1, 3) := by decide +kernel
theorem dX5_ticks_77 : decode cX5_ticks 77 = .ok (.goto (-47), 3) := by decide +kernel
theorem dX5_ticks_80 : decode cX5_ticks 80 = .ok (.iinc 1 (-1), 3) := by decide +kernel
theorem dX5_ticks_83 : decode cX5_ticks 83 = .ok (.goto (-59), 3) := by decide +kernel
theorem dX5_ticks_86 : decode cX5_ticks 86 = .ok (.aload_n 0, 1) := by decide +kernel
theorem dX5_ticks_87 : decode cX5_ticks 87 = .ok (.getfield 7, 3) := by decide +kernel
theorem dX5_ticks_90 : decode cX5_ticks 90 = .ok (.iconst 3, 1) := by decide +kernel
theorem dX5_ticks_91 : decode cX5_ticks 91 = .ok (.dup2, 1) := by decide +kernel
theorem dX5_ticks_92 : decode cX5_ticks 92 = .ok (.iaload, 1) := by decide +kernel
theorem dX5_ticks_93 : decode cX5_ticks 93 = .ok (.iconst 1, 1) := by decide +kernel
theorem dX5_ticks_94 : decode cX5_ticks 94 = .ok (.iadd, 1) := by decide +kernel
theorem dX5_ticks_95 : decode cX5_ticks 95 = .ok (.iastore, 1) := by decide +kernel
theorem dX5_ticks_96 : decode cX5_ticks 96 = .ok (.return_, 1) := by decide +kernel
theorem dX5_thatAre_0 : decode cX5_thatAre 0 = .ok (.iconst 0, 1) := by decide +kernel
theorem dX5_thatAre_1 : decode cX5_thatAre 1 = .ok (.istore_n 2, 1) := by decide +kernel
theorem dX5_thatAre_2 : decode cX5_thatAre 2 = .ok (.iconst 0, 1) := by decide +kernel
theorem dX5_thatAre_3 : decode cX5_thatAre 3 = .ok (.istore_n 3, 1) := by decide +kernel
theorem dX5_thatAre_4 : decode cX5_thatAre 4 = .ok (.iload_n 3, 1) := by decide +kernel
theorem dX5_thatAre_5 : decode cX5_thatAre 5 = .ok (.aload_n 0, 1) := by decide +kernel
theorem dX5_thatAre_6 : decode cX5_thatAre 6 = .ok (.getfield 7, 3) := by decide +kernel
theorem dX5_thatAre_9 : decode cX5_thatAre 9 = .ok (.iconst 4, 1) := by decide +kernel
theorem dX5_thatAre_10 : decode cX5_thatAre 10 = .ok (.iaload, 1) := by decide +kernel
theorem dX5_thatAre_11 : decode cX5_thatAre 11 = .ok (.if_icmp .ge 27, 3) := by decide +kernel
theorem dX5_thatAre_14 : decode cX5_thatAre 14 = .ok (.iload_n 2, 1) := by decide +kernel
theorem dX5_thatAre_15 : decode cX5_thatAre 15 = .ok (.aload_n 0, 1) := by decide +kernel
theorem dX5_thatAre_16 : decode cX5_thatAre 16 = .ok (.iload_n 3, 1) := by decide +kernel
theorem dX5_thatAre_17 : decode cX5_thatAre 17 = .ok (.iconst 2, 1) := by decide +kernel
theorem dX5_thatAre_18 : decode cX5_thatAre 18 = .ok (.invokevirtual 41, 3) := by decide +kernel
theorem dX5_thatAre_21 : decode cX5_thatAre 21 = .ok (.iload_n 1, 1) := by decide +kernel
theorem dX5_thatAre_22 : decode cX5_thatAre 22 = .ok (.if_icmp .ne 7, 3) := by decide +kernel
theorem dX5_thatAre_25 : decode cX5_thatAre 25 = .ok (.iconst 1, 1) := by decide +kernel
theorem dX5_thatAre_26 : decode cX5_thatAre 26 = .ok (.goto 4, 3) := by decide +kernel
theorem dX5_thatAre_29 : decode cX5_thatAre 29 = .ok (.iconst 0, 1) := by decide +kernel
theorem dX5_thatAre_30 : decode cX5_thatAre 30 = .ok (.iadd, 1) := by decide +kernel
theorem dX5_thatAre_31 : decode cX5_thatAre 31 = .ok (.istore_n 2, 1) := by decide +kernel
theorem dX5_thatAre_32 : decode cX5_thatAre 32 = .ok (.iinc 3 1, 3) := by decide +kernel
theorem dX5_thatAre_35 : decode cX5_thatAre 35 = .ok (.goto (-31), 3) := by decide +kernel
theorem dX5_thatAre_38 : decode cX5_thatAre 38 = .ok (.iload_n 2, 1) := by decide +kernel
theorem dX5_thatAre_39 : decode cX5_thatAre 39 = .ok (.ireturn, 1) := by decide +kernel
theorem dX5_isSetting_0 : decode cX5_isSetting 0 = .ok (.iload_n 0, 1) := by decide +kernel
theorem dX5_isSetting_1 : decode cX5_isSetting 1 = .ok (.tableswitch 57 0 2 #[27, 37, 47], 27) := by decide +kernel
theorem dX5_isSetting_28 : decode cX5_isSetting 28 = .ok (.iload_n 1, 1) := by decide +kernel
theorem dX5_isSetting_29 : decode cX5_isSetting 29 = .ok (.i2l, 1) := by decide +kernel
theorem dX5_isSetting_30 : decode cX5_isSetting 30 = .ok (.lconst 1, 1) := by decide +kernel
theorem dX5_isSetting_31 : decode cX5_isSetting 31 = .ok (.ldc2_w 96, 3) := by decide +kernel
theorem dX5_isSetting_34 : decode cX5_isSetting 34 = .ok (.invokestatic 35, 3) := by decide +kernel
theorem dX5_isSetting_37 : decode cX5_isSetting 37 = .ok (.ireturn, 1) := by decide +kernel
theorem dX5_isSetting_38 : decode cX5_isSetting 38 = .ok (.iload_n 1, 1) := by decide +kernel
theorem dX5_isSetting_39 : decode cX5_isSetting 39 = .ok (.i2l, 1) := by decide +kernel
theorem dX5_isSetting_40 : decode cX5_isSetting 40 = .ok (.lconst 1, 1) := by decide +kernel
theorem dX5_isSetting_41 : decode cX5_isSetting 41 = .ok (.ldc2_w 98, 3) := by decide +kernel
theorem dX5_isSetting_44 : decode cX5_isSetting 44 = .ok (.invokestatic 35, 3) := by decide +kernel
theorem dX5_isSetting_47 : decode cX5_isSetting 47 = .ok (.ireturn, 1) := by decide +kernel
theorem dX5_isSetting_48 : decode cX5_isSetting 48 = .ok (.iload_n 1, 1) := by decide +kernel
theorem dX5_isSetting_49 : decode cX5_isSetting 49 = .ok (.i2l, 1) := by decide +kernel
theorem dX5_isSetting_50 : decode cX5_isSetting 50 = .ok (.lconst 0, 1) := by decide +kernel
theorem dX5_isSetting_51 : decode cX5_isSetting 51 = .ok (.ldc2_w 100, 3) := by decide +kernel
theorem dX5_isSetting_54 : decode cX5_isSetting 54 = .ok (.invokestatic 35, 3) := by decide +kernel
theorem dX5_isSetting_57 : decode cX5_isSetting 57 = .ok (.ireturn, 1) := by decide +kernel
theorem dX5_isSetting_58 : decode cX5_isSetting 58 = .ok (.iconst 0, 1) := by decide +kernel
theorem dX5_isSetting_59 : decode cX5_isSetting 59 = .ok (.ireturn, 1) := by decide +kernel
theorem dX5_isTooFull_0 : decode cX5_isTooFull 0 = .ok (.iconst 0, 1) := by decide +kernel
theorem dX5_isTooFull_1 : decode cX5_isTooFull 1 = .ok (.istore_n 2, 1) := by decide +kernel
theorem dX5_isTooFull_2 : decode cX5_isTooFull 2 = .ok (.iconst 0, 1) := by decide +kernel
theorem dX5_isTooFull_3 : decode cX5_isTooFull 3 = .ok (.istore_n 3, 1) := by decide +kernel
theorem dX5_isTooFull_4 : decode cX5_isTooFull 4 = .ok (.iload_n 3, 1) := by decide +kernel
theorem dX5_isTooFull_5 : decode cX5_isTooFull 5 = .ok (.bipush 12, 2) := by decide +kernel
theorem dX5_isTooFull_7 : decode cX5_isTooFull 7 = .ok (.if_icmp .ge 36, 3) := by decide +kernel
theorem dX5_isTooFull_10 : decode cX5_isTooFull 10 = .ok (.iload_n 2, 1) := by decide +kernel
theorem dX5_isTooFull_11 : decode cX5_isTooFull 11 = .ok (.ifCond .ne 20, 3) := by decide +kernel
theorem dX5_isTooFull_14 : decode cX5_isTooFull 14 = .ok (.aload_n 0, 1) := by decide +kernel
theorem dX5_isTooFull_15 : decode cX5_isTooFull 15 = .ok (.iload_n 3, 1) := by decide +kernel
theorem dX5_isTooFull_16 : decode cX5_isTooFull 16 = .ok (.invokevirtual 49, 3) := by decide +kernel
theorem dX5_isTooFull_19 : decode cX5_isTooFull 19 = .ok (.ifCond .eq 16, 3) := by decide +kernel
theorem dX5_isTooFull_22 : decode cX5_isTooFull 22 = .ok (.aload_n 0, 1) := by decide +kernel
theorem dX5_isTooFull_23 : decode cX5_isTooFull 23 = .ok (.iload_n 3, 1) := by decide +kernel
theorem dX5_isTooFull_24 : decode cX5_isTooFull 24 = .ok (.invokevirtual 53, 3) := by decide +kernel
theorem dX5_isTooFull_27 : decode cX5_isTooFull 27 = .ok (.iload_n 1, 1) := by decide +kernel
theorem dX5_isTooFull_28 : decode cX5_isTooFull 28 = .ok (.if_icmp .le 7, 3) := by decide +kernel
theorem dX5_isTooFull_31 : decode cX5_isTooFull 31 = .ok (.iconst 1, 1) := by decide +kernel
theorem dX5_isTooFull_32 : decode cX5_isTooFull 32 = .ok (.goto 4, 3) := by decide +kernel
theorem dX5_isTooFull_35 : decode cX5_isTooFull 35 = .ok (.iconst 0, 1) := by decide +kernel
theorem dX5_isTooFull_36 : decode cX5_isTooFull 36 = .ok (.istore_n 2, 1) := by decide +kernel
theorem dX5_isTooFull_37 : decode cX5_isTooFull 37 = .ok (.iinc 3 1, 3) := by decide +kernel
theorem dX5_isTooFull_40 : decode cX5_isTooFull 40 = .ok (.goto (-36), 3) := by decide +kernel
theorem dX5_isTooFull_43 : decode cX5_isTooFull 43 = .ok (.iload_n 2, 1) := by decide +kernel
theorem dX5_isTooFull_44 : decode cX5_isTooFull 44 = .ok (.ireturn, 1) := by decide +kernel
theorem dX5_set_0 : decode cX5_set 0 = .ok (.iload_n 1, 1) := by decide +kernel
theorem dX5_set_1 : decode cX5_set 1 = .ok (.iload_n 2, 1) := by decide +kernel
theorem dX5_set_2 : decode cX5_set 2 = .ok (.invokestatic 102, 3) := by decide +kernel
theorem dX5_set_5 : decode cX5_set 5 = .ok (.ifCond .ne 6, 3) := by decide +kernel
theorem dX5_set_8 : decode cX5_set 8 = .ok (.bipush (-2), 2) := by decide +kernel
theorem dX5_set_10 : decode cX5_set 10 = .ok (.ireturn, 1) := by decide +kernel
theorem dX5_set_11 : decode cX5_set 11 = .ok (.iload_n 1, 1) := by decide +kernel
theorem dX5_set_12 : decode cX5_set 12 = .ok (.ifCond .ne 14, 3) := by decide +kernel
theorem dX5_set_15 : decode cX5_set 15 = .ok (.aload_n 0, 1) := by decide +kernel
theorem dX5_set_16 : decode cX5_set 16 = .ok (.iload_n 2, 1) := by decide +kernel
theorem dX5_set_17 : decode cX5_set 17 = .ok (.invokevirtual 105, 3) := by decide +kernel
theorem dX5_set_20 : decode cX5_set 20 = .ok (.ifCond .eq 6, 3) := by decide +kernel
theorem dX5_set_23 : decode cX5_set 23 = .ok (.bipush (-5), 2) := by decide +kernel
theorem dX5_set_25 : decode cX5_set 25 = .ok (.ireturn, 1) := by decide +kernel
theorem dX5_set_26 : decode cX5_set 26 = .ok (.aload_n 0, 1) := by decide +kernel
theorem dX5_set_27 : decode cX5_set 27 = .ok (.invokevirtual 108, 3) := by decide +kernel
theorem dX5_set_30 : decode cX5_set 30 = .ok (.aload_n 0, 1) := by decide +kernel
theorem dX5_set_31 : decode cX5_set 31 = .ok (.getfield 7, 3) := by decide +kernel
theorem dX5_set_34 : decode cX5_set 34 = .ok (.iload_n 1, 1) := by decide +kernel
theorem dX5_set_35 : decode cX5_set 35 = .ok (.iaload, 1) := by decide +kernel
theorem dX5_set_36 : decode cX5_set 36 = .ok (.istore_n 3, 1) := by decide +kernel
theorem dX5_set_37 : decode cX5_set 37 = .ok (.aload_n 0, 1) := by decide +kernel
theorem dX5_set_38 : decode cX5_set 38 = .ok (.getfield 7, 3) := by decide +kernel
theorem dX5_set_41 : decode cX5_set 41 = .ok (.iload_n 1, 1) := by decide +kernel
theorem dX5_set_42 : decode cX5_set 42 = .ok (.iload_n 2, 1) := by decide +kernel
theorem dX5_set_43 : decode cX5_set 43 = .ok (.iastore, 1) := by decide +kernel
theorem dX5_set_44 : decode cX5_set 44 = .ok (.iload_n 3, 1) := by decide +kernel
theorem dX5_set_45 : decode cX5_set 45 = .ok (.ireturn, 1) := by decide +kernel
theorem dX5_landings_0 : decode cX5_landings 0 = .ok (.iconst 0, 1) := by decide +kernel
theorem dX5_landings_1 : decode cX5_landings 1 = .ok (.istore_n 1, 1) := by decide +kernel
theorem dX5_landings_2 : decode cX5_landings 2 = .ok (.iconst 0, 1) := by decide +kernel
theorem dX5_landings_3 : decode cX5_landings 3 = .ok (.istore_n 2, 1) := by decide +kernel
theorem dX5_landings_4 : decode cX5_landings 4 = .ok (.iload_n 2, 1) := by decide +kernel
theorem dX5_landings_5 : decode cX5_landings 5 = .ok (.bipush 12, 2) := by decide +kernel
theorem dX5_landings_7 : decode cX5_landings 7 = .ok (.if_icmp .ge 25, 3) := by decide +kernel
theorem dX5_landings_10 : decode cX5_landings 10 = .ok (.iload_n 1, 1) := by decide +kernel
theorem dX5_landings_11 : decode cX5_landings 11 = .ok (.aload_n 0, 1) := by decide +kernel
theorem dX5_landings_12 : decode cX5_landings 12 = .ok (.iload_n 2, 1) := by decide +kernel
theorem dX5_landings_13 : decode cX5_landings 13 = .ok (.invokevirtual 49, 3) := by decide +kernel
theorem dX5_landings_16 : decode cX5_landings 16 = .ok (.ifCond .eq 7, 3) := by decide +kernel
theorem dX5_landings_19 : decode cX5_landings 19 = .ok (.iconst 1, 1) := by decide +kernel
theorem dX5_landings_20 : decode cX5_landings 20 = .ok (.goto 4, 3) := by decide +kernel
theorem dX5_landings_23 : decode cX5_landings 23 = .ok (.iconst 0, 1) := by decide +kernel
theorem dX5_landings_24 : decode cX5_landings 24 = .ok (.iadd, 1) := by decide +kernel
theorem dX5_landings_25 : decode cX5_landings 25 = .ok (.istore_n 1, 1) := by decide +kernel
theorem dX5_landings_26 : decode cX5_landings 26 = .ok (.iinc 2 1, 3) := by decide +kernel
theorem dX5_landings_29 : decode cX5_landings 29 = .ok (.goto (-25), 3) := by decide +kernel
theorem dX5_landings_32 : decode cX5_landings 32 = .ok (.iload_n 1, 1) := by decide +kernel
theorem dX5_landings_33 : decode cX5_landings 33 = .ok (.ireturn, 1) := by decide +kernel
theorem dX5_landing_0 : decode cX5_landing 0 = .ok (.iload_n 1, 1) := by decide +kernel
theorem dX5_landing_1 : decode cX5_landing 1 = .ok (.invokestatic 67, 3) := by decide +kernel
theorem dX5_landing_4 : decode cX5_landing 4 = .ok (.ifCond .ne 5, 3) := by decide +kernel
theorem dX5_landing_7 : decode cX5_landing 7 = .ok (.iconst (-1), 1) := by decide +kernel
theorem dX5_landing_8 : decode cX5_landing 8 = .ok (.ireturn, 1) := by decide +kernel
theorem dX5_landing_9 : decode cX5_landing 9 = .ok (.aload_n 0, 1) := by decide +kernel
theorem dX5_landing_10 : decode cX5_landing 10 = .ok (.iload_n 1, 1) := by decide +kernel
theorem dX5_landing_11 : decode cX5_landing 11 = .ok (.invokevirtual 49, 3) := by decide +kernel
theorem dX5_landing_14 : decode cX5_landing 14 = .ok (.iload_n 2, 1) := by decide +kernel
theorem dX5_landing_15 : decode cX5_landing 15 = .ok (.if_icmp .eq 12, 3) := by decide +kernel
theorem dX5_landing_18 : decode cX5_landing 18 = .ok (.aload_n 0, 1) := by decide +kernel
theorem dX5_landing_19 : decode cX5_landing 19 = .ok (.iload_n 1, 1) := by decide +kernel
theorem dX5_landing_20 : decode cX5_landing 20 = .ok (.invokevirtual 53, 3) := by decide +kernel
theorem dX5_landing_23 : decode cX5_landing 23 = .ok (.iconst 1, 1) := by decide +kernel
theorem dX5_landing_24 : decode cX5_landing 24 = .ok (.if_icmp .le 6, 3) := by decide +kernel
theorem dX5_landing_27 : decode cX5_landing 27 = .ok (.bipush (-5), 2) := by decide +kernel
theorem dX5_landing_29 : decode cX5_landing 29 = .ok (.ireturn, 1) := by decide +kernel
theorem dX5_landing_30 : decode cX5_landing 30 = .ok (.aload_n 0, 1) := by decide +kernel
theorem dX5_landing_31 : decode cX5_landing 31 = .ok (.invokevirtual 108, 3) := by decide +kernel
theorem dX5_landing_34 : decode cX5_landing 34 = .ok (.aload_n 0, 1) := by decide +kernel
theorem dX5_landing_35 : decode cX5_landing 35 = .ok (.getfield 7, 3) := by decide +kernel
theorem dX5_landing_38 : decode cX5_landing 38 = .ok (.iconst 5, 1) := by decide +kernel
theorem dX5_landing_39 : decode cX5_landing 39 = .ok (.dup2, 1) := by decide +kernel
theorem dX5_landing_40 : decode cX5_landing 40 = .ok (.iaload, 1) := by decide +kernel
theorem dX5_landing_41 : decode cX5_landing 41 = .ok (.iconst 1, 1) := by decide +kernel
theorem dX5_landing_42 : decode cX5_landing 42 = .ok (.iload_n 1, 1) := by decide +kernel
theorem dX5_landing_43 : decode cX5_landing 43 = .ok (.ishl, 1) := by decide +kernel
theorem dX5_landing_44 : decode cX5_landing 44 = .ok (.ixor, 1) := by decide +kernel
theorem dX5_landing_45 : decode cX5_landing 45 = .ok (.iastore, 1) := by decide +kernel
theorem dX5_landing_46 : decode cX5_landing 46 = .ok (.aload_n 0, 1) := by decide +kernel
theorem dX5_landing_47 : decode cX5_landing 47 = .ok (.invokevirtual 111, 3) := by decide +kernel
theorem dX5_landing_50 : decode cX5_landing 50 = .ok (.ireturn, 1) := by decide +kernel
theorem dX5_comes_0 : decode cX5_comes 0 = .ok (.aload_n 0, 1) := by decide +kernel
theorem dX5_comes_1 : decode cX5_comes 1 = .ok (.getfield 7, 3) := by decide +kernel
theorem dX5_comes_4 : decode cX5_comes 4 = .ok (.iconst 4, 1) := by decide +kernel
theorem dX5_comes_5 : decode cX5_comes 5 = .ok (.iaload, 1) := by decide +kernel
theorem dX5_comes_6 : decode cX5_comes 6 = .ok (.istore_n 3, 1) := by decide +kernel
theorem dX5_comes_7 : decode cX5_comes 7 = .ok (.aload_n 0, 1) := by decide +kernel
theorem dX5_comes_8 : decode cX5_comes 8 = .ok (.getfield 7, 3) := by decide +kernel
theorem dX5_comes_11 : decode cX5_comes 11 = .ok (.iconst 4, 1) := by decide +kernel
theorem dX5_comes_12 : decode cX5_comes 12 = .ok (.dup2, 1) := by decide +kernel
theorem dX5_comes_13 : decode cX5_comes 13 = .ok (.iaload, 1) := by decide +kernel
theorem dX5_comes_14 : decode cX5_comes 14 = .ok (.iconst 1, 1) := by decide +kernel
theorem dX5_comes_15 : decode cX5_comes 15 = .ok (.iadd, 1) := by decide +kernel
theorem dX5_comes_16 : decode cX5_comes 16 = .ok (.iastore, 1) := by decide +kernel
theorem dX5_comes_17 : decode cX5_comes 17 = .ok (.iconst 0, 1) := by decide +kernel
theorem dX5_comes_18 : decode cX5_comes 18 = .ok (.istore 4, 2) := by decide +kernel
theorem dX5_comes_20 : decode cX5_comes 20 = .ok (.iload 4, 2) := by decide +kernel
theorem dX5_comes_22 : decode cX5_comes 22 = .ok (.bipush 9, 2) := by decide +kernel
theorem dX5_comes_24 : decode cX5_comes 24 = .ok (.if_icmp .ge 17, 3) := by decide +kernel
theorem dX5_comes_27 : decode cX5_comes 27 = .ok (.aload_n 0, 1) := by decide +kernel
theorem dX5_comes_28 : decode cX5_comes 28 = .ok (.iload_n 3, 1) := by decide +kernel
theorem dX5_comes_29 : decode cX5_comes 29 = .ok (.iload 4, 2) := by decide +kernel
theorem dX5_comes_31 : decode cX5_comes 31 = .ok (.iconst 0, 1) := by decide +kernel
theorem dX5_comes_32 : decode cX5_comes 32 = .ok (.invokevirtual 63, 3) := by decide +kernel
theorem dX5_comes_35 : decode cX5_comes 35 = .ok (.iinc 4 1, 3) := by decide +kernel
theorem dX5_comes_38 : decode cX5_comes 38 = .ok (.goto (-18), 3) := by decide +kernel
theorem dX5_comes_41 : decode cX5_comes 41 = .ok (.aload_n 0, 1) := by decide +kernel
theorem dX5_comes_42 : decode cX5_comes 42 = .ok (.iload_n 3, 1) := by decide +kernel
theorem dX5_comes_43 : decode cX5_comes 43 = .ok (.iconst 0, 1) := by decide +kernel
theorem dX5_comes_44 : decode cX5_comes 44 = .ok (.iload_n 1, 1) := by decide +kernel
theorem dX5_comes_45 : decode cX5_comes 45 = .ok (.invokevirtual 63, 3) := by decide +kernel
theorem dX5_comes_48 : decode cX5_comes 48 = .ok (.aload_n 0, 1) := by decide +kernel
theorem dX5_comes_49 : decode cX5_comes 49 = .ok (.iload_n 3, 1) := by decide +kernel
theorem dX5_comes_50 : decode cX5_comes 50 = .ok (.iconst 1, 1) := by decide +kernel
theorem dX5_comes_51 : decode cX5_comes 51 = .ok (.iload_n 2, 1) := by decide +kernel
theorem dX5_comes_52 : decode cX5_comes 52 = .ok (.invokevirtual 63, 3) := by decide +kernel
theorem dX5_comes_55 : decode cX5_comes 55 = .ok (.aload_n 0, 1) := by decide +kernel
theorem dX5_comes_56 : decode cX5_comes 56 = .ok (.iload_n 3, 1) := by decide +kernel
theorem dX5_comes_57 : decode cX5_comes 57 = .ok (.iconst 3, 1) := by decide +kernel
theorem dX5_comes_58 : decode cX5_comes 58 = .ok (.bipush (-6), 2) := by decide +kernel
theorem dX5_comes_60 : decode cX5_comes 60 = .ok (.invokevirtual 63, 3) := by decide +kernel
theorem dX5_comes_63 : decode cX5_comes 63 = .ok (.aload_n 0, 1) := by decide +kernel
theorem dX5_comes_64 : decode cX5_comes 64 = .ok (.iload_n 3, 1) := by decide +kernel
theorem dX5_comes_65 : decode cX5_comes 65 = .ok (.bipush 7, 2) := by decide +kernel
theorem dX5_comes_67 : decode cX5_comes 67 = .ok (.bipush (-6), 2) := by decide +kernel
theorem dX5_comes_69 : decode cX5_comes 69 = .ok (.invokevirtual 63, 3) := by decide +kernel
theorem dX5_comes_72 : decode cX5_comes 72 = .ok (.return_, 1) := by decide +kernel
theorem dX5_come_0 : decode cX5_come 0 = .ok (.iload_n 1, 1) := by decide +kernel
theorem dX5_come_1 : decode cX5_come 1 = .ok (.i2l, 1) := by decide +kernel
theorem dX5_come_2 : decode cX5_come 2 = .ok (.lconst 1, 1) := by decide +kernel
theorem dX5_come_3 : decode cX5_come 3 = .ok (.ldc2_w 100, 3) := by decide +kernel
theorem dX5_come_6 : decode cX5_come 6 = .ok (.invokestatic 35, 3) := by decide +kernel
theorem dX5_come_9 : decode cX5_come 9 = .ok (.ifCond .ne 6, 3) := by decide +kernel
theorem dX5_come_12 : decode cX5_come 12 = .ok (.bipush (-2), 2) := by decide +kernel
theorem dX5_come_14 : decode cX5_come 14 = .ok (.ireturn, 1) := by decide +kernel
theorem dX5_come_15 : decode cX5_come 15 = .ok (.aload_n 0, 1) := by decide +kernel
theorem dX5_come_16 : decode cX5_come 16 = .ok (.getfield 7, 3) := by decide +kernel
theorem dX5_come_19 : decode cX5_come 19 = .ok (.iconst 4, 1) := by decide +kernel
theorem dX5_come_20 : decode cX5_come 20 = .ok (.iaload, 1) := by decide +kernel
theorem dX5_come_21 : decode cX5_come 21 = .ok (.bipush 24, 2) := by decide +kernel
theorem dX5_come_23 : decode cX5_come 23 = .ok (.if_icmp .ne 6, 3) := by decide +kernel
theorem dX5_come_26 : decode cX5_come 26 = .ok (.bipush (-4), 2) := by decide +kernel
theorem dX5_come_28 : decode cX5_come 28 = .ok (.ireturn, 1) := by decide +kernel
theorem dX5_come_29 : decode cX5_come 29 = .ok (.aload_n 0, 1) := by decide +kernel
theorem dX5_come_30 : decode cX5_come 30 = .ok (.invokevirtual 108, 3) := by decide +kernel
theorem dX5_come_33 : decode cX5_come 33 = .ok (.aload_n 0, 1) := by decide +kernel
theorem dX5_come_34 : decode cX5_come 34 = .ok (.iload_n 1, 1) := by decide +kernel
theorem dX5_come_35 : decode cX5_come 35 = .ok (.iload_n 2, 1) := by decide +kernel
theorem dX5_come_36 : decode cX5_come 36 = .ok (.ifCond .eq 7, 3) := by decide +kernel
theorem dX5_come_39 : decode cX5_come 39 = .ok (.iconst 1, 1) := by decide +kernel
theorem dX5_come_40 : decode cX5_come 40 = .ok (.goto 4, 3) := by decide +kernel
theorem dX5_come_43 : decode cX5_come 43 = .ok (.iconst 0, 1) := by decide +kernel
theorem dX5_come_44 : decode cX5_come 44 = .ok (.invokevirtual 115, 3) := by decide +kernel
theorem dX5_come_47 : decode cX5_come 47 = .ok (.aload_n 0, 1) := by decide +kernel
theorem dX5_come_48 : decode cX5_come 48 = .ok (.getfield 7, 3) := by decide +kernel
theorem dX5_come_51 : decode cX5_come 51 = .ok (.iconst 4, 1) := by decide +kernel
theorem dX5_come_52 : decode cX5_come 52 = .ok (.iaload, 1) := by decide +kernel
theorem dX5_come_53 : decode cX5_come 53 = .ok (.iconst 1, 1) := by decide +kernel
theorem dX5_come_54 : decode cX5_come 54 = .ok (.isub, 1) := by decide +kernel
theorem dX5_come_55 : decode cX5_come 55 = .ok (.ireturn, 1) := by decide +kernel
theorem dX5_isAllowed_0 : decode cX5_isAllowed 0 = .ok (.iload_n 1, 1) := by decide +kernel
theorem dX5_isAllowed_1 : decode cX5_isAllowed 1 = .ok (.iconst 2, 1) := by decide +kernel
theorem dX5_isAllowed_2 : decode cX5_isAllowed 2 = .ok (.irem, 1) := by decide +kernel
theorem dX5_isAllowed_3 : decode cX5_isAllowed 3 = .ok (.ifCond .ne 33, 3) := by decide +kernel
theorem dX5_isAllowed_6 : decode cX5_isAllowed 6 = .ok (.aload_n 0, 1) := by decide +kernel
theorem dX5_isAllowed_7 : decode cX5_isAllowed 7 = .ok (.getfield 28, 3) := by decide +kernel
theorem dX5_isAllowed_10 : decode cX5_isAllowed 10 = .ok (.iload_n 1, 1) := by decide +kernel
theorem dX5_isAllowed_11 : decode cX5_isAllowed 11 = .ok (.iaload, 1) := by decide +kernel
theorem dX5_isAllowed_12 : decode cX5_isAllowed 12 = .ok (.bipush 117, 2) := by decide +kernel
theorem dX5_isAllowed_14 : decode cX5_isAllowed 14 = .ok (.if_icmp .eq 14, 3) := by decide +kernel
theorem dX5_isAllowed_17 : decode cX5_isAllowed 17 = .ok (.aload_n 0, 1) := by decide +kernel
theorem dX5_isAllowed_18 : decode cX5_isAllowed 18 = .ok (.getfield 28, 3) := by decide +kernel
theorem dX5_isAllowed_21 : decode cX5_isAllowed 21 = .ok (.iload_n 1, 1) := by decide +kernel
theorem dX5_isAllowed_22 : decode cX5_isAllowed 22 = .ok (.iaload, 1) := by decide +kernel
theorem dX5_isAllowed_23 : decode cX5_isAllowed 23 = .ok (.bipush 100, 2) := by decide +kernel
theorem dX5_isAllowed_25 : decode cX5_isAllowed 25 = .ok (.if_icmp .ne 7, 3) := by decide +kernel
theorem dX5_isAllowed_28 : decode cX5_isAllowed 28 = .ok (.iconst 1, 1) := by decide +kernel
theorem dX5_isAllowed_29 : decode cX5_isAllowed 29 = .ok (.goto 23, 3) := by decide +kernel
theorem dX5_isAllowed_32 : decode cX5_isAllowed 32 = .ok (.iconst 0, 1) := by decide +kernel
theorem dX5_isAllowed_33 : decode cX5_isAllowed 33 = .ok (.goto 19, 3) := by decide +kernel
theorem dX5_isAllowed_36 : decode cX5_isAllowed 36 = .ok (.aload_n 0, 1) := by decide +kernel
theorem dX5_isAllowed_37 : decode cX5_isAllowed 37 = .ok (.getfield 28, 3) := by decide +kernel
theorem dX5_isAllowed_40 : decode cX5_isAllowed 40 = .ok (.iload_n 1, 1) := by decide +kernel
theorem dX5_isAllowed_41 : decode cX5_isAllowed 41 = .ok (.iaload, 1) := by decide +kernel
theorem dX5_isAllowed_42 : decode cX5_isAllowed 42 = .ok (.i2l, 1) := by decide +kernel
theorem dX5_isAllowed_43 : decode cX5_isAllowed 43 = .ok (.ldc2_w 172, 3) := by decide +kernel
theorem dX5_isAllowed_46 : decode cX5_isAllowed 46 = .ok (.ldc2_w 174, 3) := by decide +kernel
theorem dX5_isAllowed_49 : decode cX5_isAllowed 49 = .ok (.invokestatic 35, 3) := by decide +kernel
theorem dX5_isAllowed_52 : decode cX5_isAllowed 52 = .ok (.ireturn, 1) := by decide +kernel
theorem dX5_fault_0 : decode cX5_fault 0 = .ok (.iconst 0, 1) := by decide +kernel
theorem dX5_fault_1 : decode cX5_fault 1 = .ok (.istore_n 1, 1) := by decide +kernel
theorem dX5_fault_2 : decode cX5_fault 2 = .ok (.iload_n 1, 1) := by decide +kernel
theorem dX5_fault_3 : decode cX5_fault 3 = .ok (.aload_n 0, 1) := by decide +kernel
theorem dX5_fault_4 : decode cX5_fault 4 = .ok (.getfield 121, 3) := by decide +kernel
theorem dX5_fault_7 : decode cX5_fault 7 = .ok (.if_icmp .ge 17, 3) := by decide +kernel
theorem dX5_fault_10 : decode cX5_fault 10 = .ok (.aload_n 0, 1) := by decide +kernel
theorem dX5_fault_11 : decode cX5_fault 11 = .ok (.iload_n 1, 1) := by decide +kernel
theorem dX5_fault_12 : decode cX5_fault 12 = .ok (.invokevirtual 176, 3) := by decide +kernel
theorem dX5_fault_15 : decode cX5_fault 15 = .ok (.ifCond .eq 9, 3) := by decide +kernel
theorem dX5_fault_18 : decode cX5_fault 18 = .ok (.iinc 1 1, 3) := by decide +kernel
theorem dX5_fault_21 : decode cX5_fault 21 = .ok (.goto (-19), 3) := by decide +kernel
theorem dX5_fault_24 : decode cX5_fault 24 = .ok (.iload_n 1, 1) := by decide +kernel
theorem dX5_fault_25 : decode cX5_fault 25 = .ok (.aload_n 0, 1) := by decide +kernel
theorem dX5_fault_26 : decode cX5_fault 26 = .ok (.getfield 121, 3) := by decide +kernel
theorem dX5_fault_29 : decode cX5_fault 29 = .ok (.if_icmp .ne 18, 3) := by decide +kernel
theorem dX5_fault_32 : decode cX5_fault 32 = .ok (.iload_n 1, 1) := by decide +kernel
theorem dX5_fault_33 : decode cX5_fault 33 = .ok (.ifCond .le 14, 3) := by decide +kernel
theorem dX5_fault_36 : decode cX5_fault 36 = .ok (.iload_n 1, 1) := by decide +kernel
theorem dX5_fault_37 : decode cX5_fault 37 = .ok (.iconst 2, 1) := by decide +kernel
theorem dX5_fault_38 : decode cX5_fault 38 = .ok (.irem, 1) := by decide +kernel
theorem dX5_fault_39 : decode cX5_fault 39 = .ok (.ifCond .ne 8, 3) := by decide +kernel
theorem dX5_fault_42 : decode cX5_fault 42 = .ok (.bipush (-6), 2) := by decide +kernel
theorem dX5_fault_44 : decode cX5_fault 44 = .ok (.goto 4, 3) := by decide +kernel
theorem dX5_fault_47 : decode cX5_fault 47 = .ok (.iload_n 1, 1) := by decide +kernel
theorem dX5_fault_48 : decode cX5_fault 48 = .ok (.ireturn, 1) := by decide +kernel
theorem dX5_read_0 : decode cX5_read 0 = .ok (.aload_n 0, 1) := by decide +kernel
theorem dX5_read_1 : decode cX5_read 1 = .ok (.invokevirtual 118, 3) := by decide +kernel
theorem dX5_read_4 : decode cX5_read 4 = .ok (.bipush (-6), 2) := by decide +kernel
theorem dX5_read_6 : decode cX5_read 6 = .ok (.if_icmp .eq 6, 3) := by decide +kernel
theorem dX5_read_9 : decode cX5_read 9 = .ok (.bipush (-3), 2) := by decide +kernel
theorem dX5_read_11 : decode cX5_read 11 = .ok (.ireturn, 1) := by decide +kernel
theorem dX5_read_12 : decode cX5_read 12 = .ok (.aload_n 0, 1) := by decide +kernel
theorem dX5_read_13 : decode cX5_read 13 = .ok (.getfield 7, 3) := by decide +kernel
theorem dX5_read_16 : decode cX5_read 16 = .ok (.iconst 4, 1) := by decide +kernel
theorem dX5_read_17 : decode cX5_read 17 = .ok (.iaload, 1) := by decide +kernel
theorem dX5_read_18 : decode cX5_read 18 = .ok (.aload_n 0, 1) := by decide +kernel
theorem dX5_read_19 : decode cX5_read 19 = .ok (.getfield 121, 3) := by decide +kernel
theorem dX5_read_22 : decode cX5_read 22 = .ok (.iconst 2, 1) := by decide +kernel
theorem dX5_read_23 : decode cX5_read 23 = .ok (.idiv, 1) := by decide +kernel
theorem dX5_read_24 : decode cX5_read 24 = .ok (.iadd, 1) := by decide +kernel
theorem dX5_read_25 : decode cX5_read 25 = .ok (.bipush 24, 2) := by decide +kernel
theorem dX5_read_27 : decode cX5_read 27 = .ok (.if_icmp .le 6, 3) := by decide +kernel
theorem dX5_read_30 : decode cX5_read 30 = .ok (.bipush (-4), 2) := by decide +kernel
theorem dX5_read_32 : decode cX5_read 32 = .ok (.ireturn, 1) := by decide +kernel
theorem dX5_read_33 : decode cX5_read 33 = .ok (.aload_n 0, 1) := by decide +kernel
theorem dX5_read_34 : decode cX5_read 34 = .ok (.invokevirtual 108, 3) := by decide +kernel
theorem dX5_read_37 : decode cX5_read 37 = .ok (.iconst 0, 1) := by decide +kernel
theorem dX5_read_38 : decode cX5_read 38 = .ok (.istore_n 1, 1) := by decide +kernel
theorem dX5_read_39 : decode cX5_read 39 = .ok (.iload_n 1, 1) := by decide +kernel
theorem dX5_read_40 : decode cX5_read 40 = .ok (.aload_n 0, 1) := by decide +kernel
theorem dX5_read_41 : decode cX5_read 41 = .ok (.getfield 121, 3) := by decide +kernel
theorem dX5_read_44 : decode cX5_read 44 = .ok (.if_icmp .ge 40, 3) := by decide +kernel
theorem dX5_read_47 : decode cX5_read 47 = .ok (.aload_n 0, 1) := by decide +kernel
theorem dX5_read_48 : decode cX5_read 48 = .ok (.aload_n 0, 1) := by decide +kernel
theorem dX5_read_49 : decode cX5_read 49 = .ok (.getfield 28, 3) := by decide +kernel
theorem dX5_read_52 : decode cX5_read 52 = .ok (.iload_n 1, 1) := by decide +kernel
theorem dX5_read_53 : decode cX5_read 53 = .ok (.iconst 1, 1) := by decide +kernel
theorem dX5_read_54 : decode cX5_read 54 = .ok (.iadd, 1) := by decide +kernel
theorem dX5_read_55 : decode cX5_read 55 = .ok (.iaload, 1) := by decide +kernel
theorem dX5_read_56 : decode cX5_read 56 = .ok (.bipush 48, 2) := by decide +kernel
theorem dX5_read_58 : decode cX5_read 58 = .ok (.isub, 1) := by decide +kernel
theorem dX5_read_59 : decode cX5_read 59 = .ok (.aload_n 0, 1) := by decide +kernel
theorem dX5_read_60 : decode cX5_read 60 = .ok (.getfield 28, 3) := by decide +kernel
theorem dX5_read_63 : decode cX5_read 63 = .ok (.iload_n 1, 1) := by decide +kernel
theorem dX5_read_64 : decode cX5_read 64 = .ok (.iaload, 1) := by decide +kernel
theorem dX5_read_65 : decode cX5_read 65 = .ok (.bipush 117, 2) := by decide +kernel
theorem dX5_read_67 : decode cX5_read 67 = .ok (.if_icmp .ne 7, 3) := by decide +kernel
theorem dX5_read_70 : decode cX5_read 70 = .ok (.iconst 1, 1) := by decide +kernel
theorem dX5_read_71 : decode cX5_read 71 = .ok (.goto 4, 3) := by decide +kernel
theorem dX5_read_74 : decode cX5_read 74 = .ok (.iconst 0, 1) := by decide +kernel
theorem dX5_read_75 : decode cX5_read 75 = .ok (.invokevirtual 115, 3) := by decide +kernel
theorem dX5_read_78 : decode cX5_read 78 = .ok (.iinc 1 2, 3) := by decide +kernel
theorem dX5_read_81 : decode cX5_read 81 = .ok (.goto (-42), 3) := by decide +kernel
theorem dX5_read_84 : decode cX5_read 84 = .ok (.aload_n 0, 1) := by decide +kernel
theorem dX5_read_85 : decode cX5_read 85 = .ok (.iconst 0, 1) := by decide +kernel
theorem dX5_read_86 : decode cX5_read 86 = .ok (.putfield 121, 3) := by decide +kernel
theorem dX5_read_89 : decode cX5_read 89 = .ok (.aload_n 0, 1) := by decide +kernel
theorem dX5_read_90 : decode cX5_read 90 = .ok (.getfield 7, 3) := by decide +kernel
theorem dX5_read_93 : decode cX5_read 93 = .ok (.iconst 4, 1) := by decide +kernel
theorem dX5_read_94 : decode cX5_read 94 = .ok (.iaload, 1) := by decide +kernel
theorem dX5_read_95 : decode cX5_read 95 = .ok (.ireturn, 1) := by decide +kernel
theorem dX5_turn_0 : decode cX5_turn 0 = .ok (.aload_n 0, 1) := by decide +kernel
theorem dX5_turn_1 : decode cX5_turn 1 = .ok (.iload_n 1, 1) := by decide +kernel
theorem dX5_turn_2 : decode cX5_turn 2 = .ok (.invokevirtual 124, 3) := by decide +kernel
theorem dX5_turn_5 : decode cX5_turn 5 = .ok (.ifCond .ne 5, 3) := by decide +kernel
theorem dX5_turn_8 : decode cX5_turn 8 = .ok (.iconst (-1), 1) := by decide +kernel
theorem dX5_turn_9 : decode cX5_turn 9 = .ok (.ireturn, 1) := by decide +kernel
theorem dX5_turn_10 : decode cX5_turn 10 = .ok (.aload_n 0, 1) := by decide +kernel
theorem dX5_turn_11 : decode cX5_turn 11 = .ok (.iload_n 1, 1) := by decide +kernel
theorem dX5_turn_12 : decode cX5_turn 12 = .ok (.iconst 2, 1) := by decide +kernel
theorem dX5_turn_13 : decode cX5_turn 13 = .ok (.invokevirtual 41, 3) := by decide +kernel
theorem dX5_turn_16 : decode cX5_turn 16 = .ok (.iconst 1, 1) := by decide +kernel
theorem dX5_turn_17 : decode cX5_turn 17 = .ok (.if_icmp .eq 6, 3) := by decide +kernel
theorem dX5_turn_20 : decode cX5_turn 20 = .ok (.bipush (-5), 2) := by decide +kernel
theorem dX5_turn_22 : decode cX5_turn 22 = .ok (.ireturn, 1) := by decide +kernel
theorem dX5_turn_23 : decode cX5_turn 23 = .ok (.aload_n 0, 1) := by decide +kernel
theorem dX5_turn_24 : decode cX5_turn 24 = .ok (.invokevirtual 108, 3) := by decide +kernel
theorem dX5_turn_27 : decode cX5_turn 27 = .ok (.aload_n 0, 1) := by decide +kernel
theorem dX5_turn_28 : decode cX5_turn 28 = .ok (.iload_n 1, 1) := by decide +kernel
theorem dX5_turn_29 : decode cX5_turn 29 = .ok (.iconst 1, 1) := by decide +kernel
theorem dX5_turn_30 : decode cX5_turn 30 = .ok (.iconst 1, 1) := by decide +kernel
theorem dX5_turn_31 : decode cX5_turn 31 = .ok (.aload_n 0, 1) := by decide +kernel
theorem dX5_turn_32 : decode cX5_turn 32 = .ok (.iload_n 1, 1) := by decide +kernel
theorem dX5_turn_33 : decode cX5_turn 33 = .ok (.iconst 1, 1) := by decide +kernel
theorem dX5_turn_34 : decode cX5_turn 34 = .ok (.invokevirtual 41, 3) := by decide +kernel
theorem dX5_turn_37 : decode cX5_turn 37 = .ok (.isub, 1) := by decide +kernel
theorem dX5_turn_38 : decode cX5_turn 38 = .ok (.invokevirtual 63, 3) := by decide +kernel
theorem dX5_turn_41 : decode cX5_turn 41 = .ok (.aload_n 0, 1) := by decide +kernel
theorem dX5_turn_42 : decode cX5_turn 42 = .ok (.iload_n 1, 1) := by decide +kernel
theorem dX5_turn_43 : decode cX5_turn 43 = .ok (.iconst 1, 1) := by decide +kernel
theorem dX5_turn_44 : decode cX5_turn 44 = .ok (.invokevirtual 41, 3) := by decide +kernel
theorem dX5_turn_47 : decode cX5_turn 47 = .ok (.ireturn, 1) := by decide +kernel
theorem dX5_pass_0 : decode cX5_pass 0 = .ok (.iload_n 1, 1) := by decide +kernel
theorem dX5_pass_1 : decode cX5_pass 1 = .ok (.i2l, 1) := by decide +kernel
theorem dX5_pass_2 : decode cX5_pass 2 = .ok (.lconst 1, 1) := by decide +kernel
theorem dX5_pass_3 : decode cX5_pass 3 = .ok (.ldc2_w 127, 3) := by decide +kernel
theorem dX5_pass_6 : decode cX5_pass 6 = .ok (.invokestatic 35, 3) := by decide +kernel
theorem dX5_pass_9 : decode cX5_pass 9 = .ok (.ifCond .ne 6, 3) := by decide +kernel
theorem dX5_pass_12 : decode cX5_pass 12 = .ok (.bipush (-2), 2) := by decide +kernel
theorem dX5_pass_14 : decode cX5_pass 14 = .ok (.ireturn, 1) := by decide +kernel
theorem dX5_pass_15 : decode cX5_pass 15 = .ok (.aload_n 0, 1) := by decide +kernel
theorem dX5_pass_16 : decode cX5_pass 16 = .ok (.getfield 7, 3) := by decide +kernel
theorem dX5_pass_19 : decode cX5_pass 19 = .ok (.iconst 3, 1) := by decide +kernel
theorem dX5_pass_20 : decode cX5_pass 20 = .ok (.iaload, 1) := by decide +kernel
theorem dX5_pass_21 : decode cX5_pass 21 = .ok (.iload_n 1, 1) := by decide +kernel
theorem dX5_pass_22 : decode cX5_pass 22 = .ok (.iadd, 1) := by decide +kernel
theorem dX5_pass_23 : decode cX5_pass 23 = .ok (.sipush 9999, 3) := by decide +kernel
theorem dX5_pass_26 : decode cX5_pass 26 = .ok (.if_icmp .le 6, 3) := by decide +kernel
theorem dX5_pass_29 : decode cX5_pass 29 = .ok (.bipush (-4), 2) := by decide +kernel
theorem dX5_pass_31 : decode cX5_pass 31 = .ok (.ireturn, 1) := by decide +kernel
theorem dX5_pass_32 : decode cX5_pass 32 = .ok (.aload_n 0, 1) := by decide +kernel
theorem dX5_pass_33 : decode cX5_pass 33 = .ok (.invokevirtual 108, 3) := by decide +kernel
theorem dX5_pass_36 : decode cX5_pass 36 = .ok (.aload_n 0, 1) := by decide +kernel
theorem dX5_pass_37 : decode cX5_pass 37 = .ok (.iconst 2, 1) := by decide +kernel
theorem dX5_pass_38 : decode cX5_pass 38 = .ok (.invokevirtual 129, 3) := by decide +kernel
theorem dX5_pass_41 : decode cX5_pass 41 = .ok (.istore_n 2, 1) := by decide +kernel
theorem dX5_pass_42 : decode cX5_pass 42 = .ok (.iconst 0, 1) := by decide +kernel
theorem dX5_pass_43 : decode cX5_pass 43 = .ok (.istore_n 3, 1) := by decide +kernel
theorem dX5_pass_44 : decode cX5_pass 44 = .ok (.iload_n 3, 1) := by decide +kernel
theorem dX5_pass_45 : decode cX5_pass 45 = .ok (.iload_n 1, 1) := by decide +kernel
theorem dX5_pass_46 : decode cX5_pass 46 = .ok (.if_icmp .ge 13, 3) := by decide +kernel
theorem dX5_pass_49 : decode cX5_pass 49 = .ok (.aload_n 0, 1) := by decide +kernel
theorem dX5_pass_50 : decode cX5_pass 50 = .ok (.invokevirtual 132, 3) := by decide +kernel
theorem dX5_pass_53 : decode cX5_pass 53 = .ok (.iinc 3 1, 3) := by decide +kernel
theorem dX5_pass_56 : decode cX5_pass 56 = .ok (.goto (-12), 3) := by decide +kernel
theorem dX5_pass_59 : decode cX5_pass 59 = .ok (.aload_n 0, 1) := by decide +kernel
theorem dX5_pass_60 : decode cX5_pass 60 = .ok (.iconst 2, 1) := by decide +kernel
theorem dX5_pass_61 : decode cX5_pass 61 = .ok (.invokevirtual 129, 3) := by decide +kernel
theorem dX5_pass_64 : decode cX5_pass 64 = .ok (.iload_n 2, 1) := by decide +kernel
theorem dX5_pass_65 : decode cX5_pass 65 = .ok (.isub, 1) := by decide +kernel
theorem dX5_pass_66 : decode cX5_pass 66 = .ok (.ireturn, 1) := by decide +kernel
theorem dX5_person_0 : decode cX5_person 0 = .ok (.aload_n 0, 1) := by decide +kernel
theorem dX5_person_1 : decode cX5_person 1 = .ok (.iload_n 1, 1) := by decide +kernel
theorem dX5_person_2 : decode cX5_person 2 = .ok (.invokevirtual 124, 3) := by decide +kernel
theorem dX5_person_5 : decode cX5_person 5 = .ok (.ifCond .ne 5, 3) := by decide +kernel
theorem dX5_person_8 : decode cX5_person 8 = .ok (.iconst (-1), 1) := by decide +kernel
theorem dX5_person_9 : decode cX5_person 9 = .ok (.ireturn, 1) := by decide +kernel
theorem dX5_person_10 : decode cX5_person 10 = .ok (.iload_n 2, 1) := by decide +kernel
theorem dX5_person_11 : decode cX5_person 11 = .ok (.i2l, 1) := by decide +kernel
theorem dX5_person_12 : decode cX5_person 12 = .ok (.lconst 0, 1) := by decide +kernel
theorem dX5_person_13 : decode cX5_person 13 = .ok (.ldc2_w 135, 3) := by decide +kernel
theorem dX5_person_16 : decode cX5_person 16 = .ok (.invokestatic 35, 3) := by decide +kernel
theorem dX5_person_19 : decode cX5_person 19 = .ok (.ifCond .eq 12, 3) := by decide +kernel
theorem dX5_person_22 : decode cX5_person 22 = .ok (.aload_n 0, 1) := by decide +kernel
theorem dX5_person_23 : decode cX5_person 23 = .ok (.iload_n 1, 1) := by decide +kernel
theorem dX5_person_24 : decode cX5_person 24 = .ok (.iload_n 2, 1) := by decide +kernel
theorem dX5_person_25 : decode cX5_person 25 = .ok (.invokevirtual 41, 3) := by decide +kernel
theorem dX5_person_28 : decode cX5_person 28 = .ok (.goto 5, 3) := by decide +kernel
theorem dX5_person_31 : decode cX5_person 31 = .ok (.bipush (-2), 2) := by decide +kernel
theorem dX5_person_33 : decode cX5_person 33 = .ok (.ireturn, 1) := by decide +kernel
theorem dX5_highestAt_0 : decode cX5_highestAt 0 = .ok (.bipush (-6), 2) := by decide +kernel
theorem dX5_highestAt_2 : decode cX5_highestAt 2 = .ok (.istore_n 2, 1) := by decide +kernel
theorem dX5_highestAt_3 : decode cX5_highestAt 3 = .ok (.iconst 0, 1) := by decide +kernel
theorem dX5_highestAt_4 : decode cX5_highestAt 4 = .ok (.istore_n 3, 1) := by decide +kernel
theorem dX5_highestAt_5 : decode cX5_highestAt 5 = .ok (.iload_n 3, 1) := by decide +kernel
theorem dX5_highestAt_6 : decode cX5_highestAt 6 = .ok (.aload_n 0, 1) := by decide +kernel
theorem dX5_highestAt_7 : decode cX5_highestAt 7 = .ok (.getfield 7, 3) := by decide +kernel
theorem dX5_highestAt_10 : decode cX5_highestAt 10 = .ok (.iconst 4, 1) := by decide +kernel
theorem dX5_highestAt_11 : decode cX5_highestAt 11 = .ok (.iaload, 1) := by decide +kernel
theorem dX5_highestAt_12 : decode cX5_highestAt 12 = .ok (.if_icmp .ge 45, 3) := by decide +kernel
theorem dX5_highestAt_15 : decode cX5_highestAt 15 = .ok (.aload_n 0, 1) := by decide +kernel
theorem dX5_highestAt_16 : decode cX5_highestAt 16 = .ok (.iload_n 3, 1) := by decide +kernel
theorem dX5_highestAt_17 : decode cX5_highestAt 17 = .ok (.iload_n 1, 1) := by decide +kernel
theorem dX5_highestAt_18 : decode cX5_highestAt 18 = .ok (.invokevirtual 45, 3) := by decide +kernel
theorem dX5_highestAt_21 : decode cX5_highestAt 21 = .ok (.ifCond .eq 28, 3) := by decide +kernel
theorem dX5_highestAt_24 : decode cX5_highestAt 24 = .ok (.iload_n 2, 1) := by decide +kernel
theorem dX5_highestAt_25 : decode cX5_highestAt 25 = .ok (.bipush (-6), 2) := by decide +kernel
theorem dX5_highestAt_27 : decode cX5_highestAt 27 = .ok (.if_icmp .eq 18, 3) := by decide +kernel
theorem dX5_highestAt_30 : decode cX5_highestAt 30 = .ok (.aload_n 0, 1) := by decide +kernel
theorem dX5_highestAt_31 : decode cX5_highestAt 31 = .ok (.iload_n 3, 1) := by decide +kernel
theorem dX5_highestAt_32 : decode cX5_highestAt 32 = .ok (.iconst 0, 1) := by decide +kernel
theorem dX5_highestAt_33 : decode cX5_highestAt 33 = .ok (.invokevirtual 41, 3) := by decide +kernel
theorem dX5_highestAt_36 : decode cX5_highestAt 36 = .ok (.aload_n 0, 1) := by decide +kernel
theorem dX5_highestAt_37 : decode cX5_highestAt 37 = .ok (.iload_n 2, 1) := by decide +kernel
theorem dX5_highestAt_38 : decode cX5_highestAt 38 = .ok (.iconst 0, 1) := by decide +kernel
theorem dX5_highestAt_39 : decode cX5_highestAt 39 = .ok (.invokevirtual 41, 3) := by decide +kernel
theorem dX5_highestAt_42 : decode cX5_highestAt 42 = .ok (.if_icmp .le 7, 3) := by decide +kernel
theorem dX5_highestAt_45 : decode cX5_highestAt 45 = .ok (.iload_n 3, 1) := by decide +kernel
theorem dX5_highestAt_46 : decode cX5_highestAt 46 = .ok (.goto 4, 3) := by decide +kernel
theorem dX5_highestAt_49 : decode cX5_highestAt 49 = .ok (.iload_n 2, 1) := by decide +kernel
theorem dX5_highestAt_50 : decode cX5_highestAt 50 = .ok (.istore_n 2, 1) := by decide +kernel
theorem dX5_highestAt_51 : decode cX5_highestAt 51 = .ok (.iinc 3 1, 3) := by decide +kernel
theorem dX5_highestAt_54 : decode cX5_highestAt 54 = .ok (.goto (-49), 3) := by decide +kernel
theorem dX5_highestAt_57 : decode cX5_highestAt 57 = .ok (.iload_n 2, 1) := by decide +kernel
theorem dX5_highestAt_58 : decode cX5_highestAt 58 = .ok (.ireturn, 1) := by decide +kernel
theorem dX5_step_0 : decode cX5_step 0 = .ok (.iload_n 1, 1) := by decide +kernel
theorem dX5_step_1 : decode cX5_step 1 = .ok (.invokestatic 67, 3) := by decide +kernel
theorem dX5_step_4 : decode cX5_step 4 = .ok (.ifCond .ne 5, 3) := by decide +kernel
theorem dX5_step_7 : decode cX5_step 7 = .ok (.iconst (-1), 1) := by decide +kernel
theorem dX5_step_8 : decode cX5_step 8 = .ok (.ireturn, 1) := by decide +kernel
theorem dX5_step_9 : decode cX5_step 9 = .ok (.iload_n 2, 1) := by decide +kernel
theorem dX5_step_10 : decode cX5_step 10 = .ok (.tableswitch 62 0 3 #[30, 44, 50, 56], 30) := by decide +kernel
theorem dX5_step_40 : decode cX5_step 40 = .ok (.aload_n 0, 1) := by decide +kernel
theorem dX5_step_41 : decode cX5_step 41 = .ok (.iload_n 1, 1) := by decide +kernel
theorem dX5_step_42 : decode cX5_step 42 = .ok (.invokevirtual 49, 3) := by decide +kernel
theorem dX5_step_45 : decode cX5_step 45 = .ok (.ifCond .eq 7, 3) := by decide +kernel
theorem dX5_step_48 : decode cX5_step 48 = .ok (.iconst 1, 1) := by decide +kernel
theorem dX5_step_49 : decode cX5_step 49 = .ok (.goto 4, 3) := by decide +kernel
theorem dX5_step_52 : decode cX5_step 52 = .ok (.iconst 0, 1) := by decide +kernel
theorem dX5_step_53 : decode cX5_step 53 = .ok (.ireturn, 1) := by decide +kernel
theorem dX5_step_54 : decode cX5_step 54 = .ok (.aload_n 0, 1) := by decide +kernel
theorem dX5_step_55 : decode cX5_step 55 = .ok (.iload_n 1, 1) := by decide +kernel
theorem dX5_step_56 : decode cX5_step 56 = .ok (.invokevirtual 53, 3) := by decide +kernel
theorem dX5_step_59 : decode cX5_step 59 = .ok (.ireturn, 1) := by decide +kernel
theorem dX5_step_60 : decode cX5_step 60 = .ok (.aload_n 0, 1) := by decide +kernel
theorem dX5_step_61 : decode cX5_step 61 = .ok (.iload_n 1, 1) := by decide +kernel
theorem dX5_step_62 : decode cX5_step 62 = .ok (.invokevirtual 70, 3) := by decide +kernel
theorem dX5_step_65 : decode cX5_step 65 = .ok (.ireturn, 1) := by decide +kernel
theorem dX5_step_66 : decode cX5_step 66 = .ok (.aload_n 0, 1) := by decide +kernel
theorem dX5_step_67 : decode cX5_step 67 = .ok (.iload_n 1, 1) := by decide +kernel
theorem dX5_step_68 : decode cX5_step 68 = .ok (.invokevirtual 137, 3) := by decide +kernel
theorem dX5_step_71 : decode cX5_step 71 = .ok (.ireturn, 1) := by decide +kernel
theorem dX5_step_72 : decode cX5_step 72 = .ok (.bipush (-2), 2) := by decide +kernel
theorem dX5_step_74 : decode cX5_step 74 = .ok (.ireturn, 1) := by decide +kernel
theorem dX5_does_0 : decode cX5_does 0 = .ok (.aload_n 0, 1) := by decide +kernel
theorem dX5_does_1 : decode cX5_does 1 = .ok (.iload_n 1, 1) := by decide +kernel
theorem dX5_does_2 : decode cX5_does 2 = .ok (.invokevirtual 124, 3) := by decide +kernel
theorem dX5_does_5 : decode cX5_does 5 = .ok (.ifCond .ne 5, 3) := by decide +kernel
theorem dX5_does_8 : decode cX5_does 8 = .ok (.iconst (-1), 1) := by decide +kernel
theorem dX5_does_9 : decode cX5_does 9 = .ok (.ireturn, 1) := by decide +kernel
theorem dX5_does_10 : decode cX5_does 10 = .ok (.aload_n 0, 1) := by decide +kernel
theorem dX5_does_11 : decode cX5_does 11 = .ok (.invokevirtual 140, 3) := by decide +kernel
theorem dX5_does_14 : decode cX5_does 14 = .ok (.aload_n 0, 1) := by decide +kernel
theorem dX5_does_15 : decode cX5_does 15 = .ok (.invokevirtual 132, 3) := by decide +kernel
theorem dX5_does_18 : decode cX5_does 18 = .ok (.aload_n 0, 1) := by decide +kernel
theorem dX5_does_19 : decode cX5_does 19 = .ok (.getfield 25, 3) := by decide +kernel
theorem dX5_does_22 : decode cX5_does 22 = .ok (.iload_n 1, 1) := by decide +kernel
theorem dX5_does_23 : decode cX5_does 23 = .ok (.iaload, 1) := by decide +kernel
theorem dX5_does_24 : decode cX5_does 24 = .ok (.istore_n 2, 1) := by decide +kernel
theorem dX5_does_25 : decode cX5_does 25 = .ok (.aload_n 0, 1) := by decide +kernel
theorem dX5_does_26 : decode cX5_does 26 = .ok (.invokevirtual 143, 3) := by decide +kernel
theorem dX5_does_29 : decode cX5_does 29 = .ok (.iload_n 2, 1) := by decide +kernel
theorem dX5_does_30 : decode cX5_does 30 = .ok (.ireturn, 1) := by decide +kernel
theorem dX5_count_0 : decode cX5_count 0 = .ok (.iload_n 1, 1) := by decide +kernel
theorem dX5_count_1 : decode cX5_count 1 = .ok (.tableswitch 100 3 14 #[63, 63, 70, 70, 70, 70, 78, 78, 78, 78, 90, 95], 63) := by decide +kernel
theorem dX5_count_64 : decode cX5_count 64 = .ok (.aload_n 0, 1) := by decide +kernel
theorem dX5_count_65 : decode cX5_count 65 = .ok (.getfield 7, 3) := by decide +kernel
theorem dX5_count_68 : decode cX5_count 68 = .ok (.iload_n 1, 1) := by decide +kernel
theorem dX5_count_69 : decode cX5_count 69 = .ok (.iaload, 1) := by decide +kernel
theorem dX5_count_70 : decode cX5_count 70 = .ok (.ireturn, 1) := by decide +kernel
theorem dX5_count_71 : decode cX5_count 71 = .ok (.aload_n 0, 1) := by decide +kernel
theorem dX5_count_72 : decode cX5_count 72 = .ok (.iload_n 1, 1) := by decide +kernel
theorem dX5_count_73 : decode cX5_count 73 = .ok (.iconst 5, 1) := by decide +kernel
theorem dX5_count_74 : decode cX5_count 74 = .ok (.isub, 1) := by decide +kernel
theorem dX5_count_75 : decode cX5_count 75 = .ok (.invokevirtual 129, 3) := by decide +kernel
theorem dX5_count_78 : decode cX5_count 78 = .ok (.ireturn, 1) := by decide +kernel
theorem dX5_count_79 : decode cX5_count 79 = .ok (.aload_n 0, 1) := by decide +kernel
theorem dX5_count_80 : decode cX5_count 80 = .ok (.getfield 7, 3) := by decide +kernel
theorem dX5_count_83 : decode cX5_count 83 = .ok (.iconst 5, 1) := by decide +kernel
theorem dX5_count_84 : decode cX5_count 84 = .ok (.iload_n 1, 1) := by decide +kernel
theorem dX5_count_85 : decode cX5_count 85 = .ok (.iadd, 1) := by decide +kernel
theorem dX5_count_86 : decode cX5_count 86 = .ok (.bipush 9, 2) := by decide +kernel
theorem dX5_count_88 : decode cX5_count 88 = .ok (.isub, 1) := by decide +kernel
theorem dX5_count_89 : decode cX5_count 89 = .ok (.iaload, 1) := by decide +kernel
theorem dX5_count_90 : decode cX5_count 90 = .ok (.ireturn, 1) := by decide +kernel
theorem dX5_count_91 : decode cX5_count 91 = .ok (.aload_n 0, 1) := by decide +kernel
theorem dX5_count_92 : decode cX5_count 92 = .ok (.getfield 121, 3) := by decide +kernel
theorem dX5_count_95 : decode cX5_count 95 = .ok (.ireturn, 1) := by decide +kernel
theorem dX5_count_96 : decode cX5_count 96 = .ok (.aload_n 0, 1) := by decide +kernel
theorem dX5_count_97 : decode cX5_count 97 = .ok (.getfield 31, 3) := by decide +kernel
theorem dX5_count_100 : decode cX5_count 100 = .ok (.ireturn, 1) := by decide +kernel
theorem dX5_count_101 : decode cX5_count 101 = .ok (.iload_n 1, 1) := by decide +kernel
theorem dX5_count_102 : decode cX5_count 102 = .ok (.i2l, 1) := by decide +kernel
theorem dX5_count_103 : decode cX5_count 103 = .ok (.lconst 0, 1) := by decide +kernel
theorem dX5_count_104 : decode cX5_count 104 = .ok (.ldc2_w 146, 3) := by decide +kernel
theorem dX5_count_107 : decode cX5_count 107 = .ok (.invokestatic 35, 3) := by decide +kernel
theorem dX5_count_110 : decode cX5_count 110 = .ok (.ifCond .eq 12, 3) := by decide +kernel
theorem dX5_count_113 : decode cX5_count 113 = .ok (.aload_n 0, 1) := by decide +kernel
theorem dX5_count_114 : decode cX5_count 114 = .ok (.getfield 7, 3) := by decide +kernel
theorem dX5_count_117 : decode cX5_count 117 = .ok (.iload_n 1, 1) := by decide +kernel
theorem dX5_count_118 : decode cX5_count 118 = .ok (.iaload, 1) := by decide +kernel
theorem dX5_count_119 : decode cX5_count 119 = .ok (.goto 5, 3) := by decide +kernel
theorem dX5_count_122 : decode cX5_count 122 = .ok (.bipush (-2), 2) := by decide +kernel
theorem dX5_count_124 : decode cX5_count 124 = .ok (.ireturn, 1) := by decide +kernel
theorem dX5_isEmpty_0 : decode cX5_isEmpty 0 = .ok (.aload_n 0, 1) := by decide +kernel
theorem dX5_isEmpty_1 : decode cX5_isEmpty 1 = .ok (.iconst 0, 1) := by decide +kernel
theorem dX5_isEmpty_2 : decode cX5_isEmpty 2 = .ok (.invokevirtual 129, 3) := by decide +kernel
theorem dX5_isEmpty_5 : decode cX5_isEmpty 5 = .ok (.aload_n 0, 1) := by decide +kernel
theorem dX5_isEmpty_6 : decode cX5_isEmpty 6 = .ok (.iconst 1, 1) := by decide +kernel
theorem dX5_isEmpty_7 : decode cX5_isEmpty 7 = .ok (.invokevirtual 129, 3) := by decide +kernel
theorem dX5_isEmpty_10 : decode cX5_isEmpty 10 = .ok (.iadd, 1) := by decide +kernel
theorem dX5_isEmpty_11 : decode cX5_isEmpty 11 = .ok (.ifCond .ne 7, 3) := by decide +kernel
theorem dX5_isEmpty_14 : decode cX5_isEmpty 14 = .ok (.iconst 1, 1) := by decide +kernel
theorem dX5_isEmpty_15 : decode cX5_isEmpty 15 = .ok (.goto 4, 3) := by decide +kernel
theorem dX5_isEmpty_18 : decode cX5_isEmpty 18 = .ok (.iconst 0, 1) := by decide +kernel
theorem dX5_isEmpty_19 : decode cX5_isEmpty 19 = .ok (.ireturn, 1) := by decide +kernel
theorem dX5_until_0 : decode cX5_until 0 = .ok (.aload_n 0, 1) := by decide +kernel
theorem dX5_until_1 : decode cX5_until 1 = .ok (.invokevirtual 140, 3) := by decide +kernel
theorem dX5_until_4 : decode cX5_until 4 = .ok (.iconst 0, 1) := by decide +kernel
theorem dX5_until_5 : decode cX5_until 5 = .ok (.istore_n 2, 1) := by decide +kernel
theorem dX5_until_6 : decode cX5_until 6 = .ok (.iload_n 2, 1) := by decide +kernel
theorem dX5_until_7 : decode cX5_until 7 = .ok (.sipush 200, 3) := by decide +kernel
theorem dX5_until_10 : decode cX5_until 10 = .ok (.if_icmp .gt 39, 3) := by decide +kernel
theorem dX5_until_13 : decode cX5_until 13 = .ok (.iload_n 1, 1) := by decide +kernel
theorem dX5_until_14 : decode cX5_until 14 = .ok (.bipush (-6), 2) := by decide +kernel
theorem dX5_until_16 : decode cX5_until 16 = .ok (.if_icmp .ne 13, 3) := by decide +kernel
theorem dX5_until_19 : decode cX5_until 19 = .ok (.aload_n 0, 1) := by decide +kernel
theorem dX5_until_20 : decode cX5_until 20 = .ok (.invokevirtual 148, 3) := by decide +kernel
theorem dX5_until_23 : decode cX5_until 23 = .ok (.ifCond .eq 16, 3) := by decide +kernel
theorem dX5_until_26 : decode cX5_until 26 = .ok (.goto 23, 3) := by decide +kernel
theorem dX5_until_29 : decode cX5_until 29 = .ok (.aload_n 0, 1) := by decide +kernel
theorem dX5_until_30 : decode cX5_until 30 = .ok (.iload_n 1, 1) := by decide +kernel
theorem dX5_until_31 : decode cX5_until 31 = .ok (.iconst 2, 1) := by decide +kernel
theorem dX5_until_32 : decode cX5_until 32 = .ok (.invokevirtual 41, 3) := by decide +kernel
theorem dX5_until_35 : decode cX5_until 35 = .ok (.iconst 2, 1) := by decide +kernel
theorem dX5_until_36 : decode cX5_until 36 = .ok (.if_icmp .eq 13, 3) := by decide +kernel
theorem dX5_until_39 : decode cX5_until 39 = .ok (.aload_n 0, 1) := by decide +kernel
theorem dX5_until_40 : decode cX5_until 40 = .ok (.invokevirtual 132, 3) := by decide +kernel
theorem dX5_until_43 : decode cX5_until 43 = .ok (.iinc 2 1, 3) := by decide +kernel
theorem dX5_until_46 : decode cX5_until 46 = .ok (.goto (-40), 3) := by decide +kernel
theorem dX5_until_49 : decode cX5_until 49 = .ok (.aload_n 0, 1) := by decide +kernel
theorem dX5_until_50 : decode cX5_until 50 = .ok (.invokevirtual 143, 3) := by decide +kernel
theorem dX5_until_53 : decode cX5_until 53 = .ok (.iload_n 2, 1) := by decide +kernel
theorem dX5_until_54 : decode cX5_until 54 = .ok (.sipush 200, 3) := by decide +kernel
theorem dX5_until_57 : decode cX5_until 57 = .ok (.if_icmp .le 8, 3) := by decide +kernel
theorem dX5_until_60 : decode cX5_until 60 = .ok (.bipush (-6), 2) := by decide +kernel
theorem dX5_until_62 : decode cX5_until 62 = .ok (.goto 4, 3) := by decide +kernel
theorem dX5_until_65 : decode cX5_until 65 = .ok (.iload_n 2, 1) := by decide +kernel
theorem dX5_until_66 : decode cX5_until 66 = .ok (.ireturn, 1) := by decide +kernel
theorem dX5_untilArrived_0 : decode cX5_untilArrived 0 = .ok (.aload_n 0, 1) := by decide +kernel
theorem dX5_untilArrived_1 : decode cX5_untilArrived 1 = .ok (.iload_n 1, 1) := by decide +kernel
theorem dX5_untilArrived_2 : decode cX5_untilArrived 2 = .ok (.invokevirtual 124, 3) := by decide +kernel
theorem dX5_untilArrived_5 : decode cX5_untilArrived 5 = .ok (.ifCond .eq 11, 3) := by decide +kernel
theorem dX5_untilArrived_8 : decode cX5_untilArrived 8 = .ok (.aload_n 0, 1) := by decide +kernel
theorem dX5_untilArrived_9 : decode cX5_untilArrived 9 = .ok (.iload_n 1, 1) := by decide +kernel
theorem dX5_untilArrived_10 : decode cX5_untilArrived 10 = .ok (.invokevirtual 152, 3) := by decide +kernel
theorem dX5_untilArrived_13 : decode cX5_untilArrived 13 = .ok (.goto 4, 3) := by decide +kernel
theorem dX5_untilArrived_16 : decode cX5_untilArrived 16 = .ok (.iconst (-1), 1) := by decide +kernel
theorem dX5_untilArrived_17 : decode cX5_untilArrived 17 = .ok (.ireturn, 1) := by decide +kernel
theorem dX5_untilEmpty_0 : decode cX5_untilEmpty 0 = .ok (.aload_n 0, 1) := by decide +kernel
theorem dX5_untilEmpty_1 : decode cX5_untilEmpty 1 = .ok (.bipush (-6), 2) := by decide +kernel
theorem dX5_untilEmpty_3 : decode cX5_untilEmpty 3 = .ok (.invokevirtual 152, 3) := by decide +kernel
theorem dX5_untilEmpty_6 : decode cX5_untilEmpty 6 = .ok (.ireturn, 1) := by decide +kernel
theorem dX5_ifPassed_0 : decode cX5_ifPassed 0 = .ok (.iload_n 1, 1) := by decide +kernel
theorem dX5_ifPassed_1 : decode cX5_ifPassed 1 = .ok (.i2l, 1) := by decide +kernel
theorem dX5_ifPassed_2 : decode cX5_ifPassed 2 = .ok (.lconst 1, 1) := by decide +kernel
theorem dX5_ifPassed_3 : decode cX5_ifPassed 3 = .ok (.ldc2_w 155, 3) := by decide +kernel
theorem dX5_ifPassed_6 : decode cX5_ifPassed 6 = .ok (.invokestatic 35, 3) := by decide +kernel
theorem dX5_ifPassed_9 : decode cX5_ifPassed 9 = .ok (.ifCond .eq 15, 3) := by decide +kernel
theorem dX5_ifPassed_12 : decode cX5_ifPassed 12 = .ok (.iload_n 2, 1) := by decide +kernel
theorem dX5_ifPassed_13 : decode cX5_ifPassed 13 = .ok (.i2l, 1) := by decide +kernel
theorem dX5_ifPassed_14 : decode cX5_ifPassed 14 = .ok (.lconst 0, 1) := by decide +kernel
theorem dX5_ifPassed_15 : decode cX5_ifPassed 15 = .ok (.ldc2_w 157, 3) := by decide +kernel
theorem dX5_ifPassed_18 : decode cX5_ifPassed 18 = .ok (.invokestatic 35, 3) := by decide +kernel
theorem dX5_ifPassed_21 : decode cX5_ifPassed 21 = .ok (.ifCond .ne 6, 3) := by decide +kernel
theorem dX5_ifPassed_24 : decode cX5_ifPassed 24 = .ok (.bipush (-2), 2) := by decide +kernel
theorem dX5_ifPassed_26 : decode cX5_ifPassed 26 = .ok (.ireturn, 1) := by decide +kernel
theorem dX5_ifPassed_27 : decode cX5_ifPassed 27 = .ok (.aload_n 0, 1) := by decide +kernel
theorem dX5_ifPassed_28 : decode cX5_ifPassed 28 = .ok (.iconst 2, 1) := by decide +kernel
theorem dX5_ifPassed_29 : decode cX5_ifPassed 29 = .ok (.invokevirtual 129, 3) := by decide +kernel
theorem dX5_ifPassed_32 : decode cX5_ifPassed 32 = .ok (.istore_n 3, 1) := by decide +kernel
theorem dX5_ifPassed_33 : decode cX5_ifPassed 33 = .ok (.aload_n 0, 1) := by decide +kernel
theorem dX5_ifPassed_34 : decode cX5_ifPassed 34 = .ok (.iconst 3, 1) := by decide +kernel
theorem dX5_ifPassed_35 : decode cX5_ifPassed 35 = .ok (.invokevirtual 129, 3) := by decide +kernel
theorem dX5_ifPassed_38 : decode cX5_ifPassed 38 = .ok (.istore 4, 2) := by decide +kernel
theorem dX5_ifPassed_40 : decode cX5_ifPassed 40 = .ok (.aload_n 0, 1) := by decide +kernel
theorem dX5_ifPassed_41 : decode cX5_ifPassed 41 = .ok (.invokevirtual 140, 3) := by decide +kernel
theorem dX5_ifPassed_44 : decode cX5_ifPassed 44 = .ok (.iconst 0, 1) := by decide +kernel
theorem dX5_ifPassed_45 : decode cX5_ifPassed 45 = .ok (.istore 5, 2) := by decide +kernel
theorem dX5_ifPassed_47 : decode cX5_ifPassed 47 = .ok (.iload 5, 2) := by decide +kernel
theorem dX5_ifPassed_49 : decode cX5_ifPassed 49 = .ok (.iload_n 1, 1) := by decide +kernel
theorem dX5_ifPassed_50 : decode cX5_ifPassed 50 = .ok (.if_icmp .ge 13, 3) := by decide +kernel
theorem dX5_ifPassed_53 : decode cX5_ifPassed 53 = .ok (.aload_n 0, 1) := by decide +kernel
theorem dX5_ifPassed_54 : decode cX5_ifPassed 54 = .ok (.invokevirtual 132, 3) := by decide +kernel
theorem dX5_ifPassed_57 : decode cX5_ifPassed 57 = .ok (.iinc 5 1, 3) := by decide +kernel
theorem dX5_ifPassed_60 : decode cX5_ifPassed 60 = .ok (.goto (-13), 3) := by decide +kernel
theorem dX5_ifPassed_63 : decode cX5_ifPassed 63 = .ok (.iload_n 2, 1) := by decide +kernel
theorem dX5_ifPassed_64 : decode cX5_ifPassed 64 = .ok (.ifCond .ne 13, 3) := by decide +kernel
theorem dX5_ifPassed_67 : decode cX5_ifPassed 67 = .ok (.aload_n 0, 1) := by decide +kernel
theorem dX5_ifPassed_68 : decode cX5_ifPassed 68 = .ok (.iconst 2, 1) := by decide +kernel
theorem dX5_ifPassed_69 : decode cX5_ifPassed 69 = .ok (.invokevirtual 129, 3) := by decide +kernel
theorem dX5_ifPassed_72 : decode cX5_ifPassed 72 = .ok (.iload_n 3, 1) := by decide +kernel
theorem dX5_ifPassed_73 : decode cX5_ifPassed 73 = .ok (.isub, 1) := by decide +kernel
theorem dX5_ifPassed_74 : decode cX5_ifPassed 74 = .ok (.goto 57, 3) := by decide +kernel
theorem dX5_ifPassed_77 : decode cX5_ifPassed 77 = .ok (.iload_n 2, 1) := by decide +kernel
theorem dX5_ifPassed_78 : decode cX5_ifPassed 78 = .ok (.iconst 1, 1) := by decide +kernel
theorem dX5_ifPassed_79 : decode cX5_ifPassed 79 = .ok (.if_icmp .ne 14, 3) := by decide +kernel
theorem dX5_ifPassed_82 : decode cX5_ifPassed 82 = .ok (.aload_n 0, 1) := by decide +kernel
theorem dX5_ifPassed_83 : decode cX5_ifPassed 83 = .ok (.iconst 3, 1) := by decide +kernel
theorem dX5_ifPassed_84 : decode cX5_ifPassed 84 = .ok (.invokevirtual 129, 3) := by decide +kernel
theorem dX5_ifPassed_87 : decode cX5_ifPassed 87 = .ok (.iload 4, 2) := by decide +kernel
theorem dX5_ifPassed_89 : decode cX5_ifPassed 89 = .ok (.isub, 1) := by decide +kernel
theorem dX5_ifPassed_90 : decode cX5_ifPassed 90 = .ok (.goto 41, 3) := by decide +kernel
theorem dX5_ifPassed_93 : decode cX5_ifPassed 93 = .ok (.iload_n 2, 1) := by decide +kernel
theorem dX5_ifPassed_94 : decode cX5_ifPassed 94 = .ok (.iconst 2, 1) := by decide +kernel
theorem dX5_ifPassed_95 : decode cX5_ifPassed 95 = .ok (.if_icmp .ne 21, 3) := by decide +kernel
theorem dX5_ifPassed_98 : decode cX5_ifPassed 98 = .ok (.aload_n 0, 1) := by decide +kernel
theorem dX5_ifPassed_99 : decode cX5_ifPassed 99 = .ok (.getfield 7, 3) := by decide +kernel
theorem dX5_ifPassed_102 : decode cX5_ifPassed 102 = .ok (.bipush 6, 2) := by decide +kernel
theorem dX5_ifPassed_104 : decode cX5_ifPassed 104 = .ok (.iaload, 1) := by decide +kernel
theorem dX5_ifPassed_105 : decode cX5_ifPassed 105 = .ok (.aload_n 0, 1) := by decide +kernel
theorem dX5_ifPassed_106 : decode cX5_ifPassed 106 = .ok (.getfield 13, 3) := by decide +kernel
theorem dX5_ifPassed_109 : decode cX5_ifPassed 109 = .ok (.bipush 6, 2) := by decide +kernel
theorem dX5_ifPassed_111 : decode cX5_ifPassed 111 = .ok (.iaload, 1) := by decide +kernel
theorem dX5_ifPassed_112 : decode cX5_ifPassed 112 = .ok (.isub, 1) := by decide +kernel
theorem dX5_ifPassed_113 : decode cX5_ifPassed 113 = .ok (.goto 18, 3) := by decide +kernel
theorem dX5_ifPassed_116 : decode cX5_ifPassed 116 = .ok (.aload_n 0, 1) := by decide +kernel
theorem dX5_ifPassed_117 : decode cX5_ifPassed 117 = .ok (.getfield 7, 3) := by decide +kernel
theorem dX5_ifPassed_120 : decode cX5_ifPassed 120 = .ok (.bipush 8, 2) := by decide +kernel
theorem dX5_ifPassed_122 : decode cX5_ifPassed 122 = .ok (.iaload, 1) := by decide +kernel
theorem dX5_ifPassed_123 : decode cX5_ifPassed 123 = .ok (.aload_n 0, 1) := by decide +kernel
theorem dX5_ifPassed_124 : decode cX5_ifPassed 124 = .ok (.getfield 13, 3) := by decide +kernel
theorem dX5_ifPassed_127 : decode cX5_ifPassed 127 = .ok (.bipush 8, 2) := by decide +kernel
theorem dX5_ifPassed_129 : decode cX5_ifPassed 129 = .ok (.iaload, 1) := by decide +kernel
theorem dX5_ifPassed_130 : decode cX5_ifPassed 130 = .ok (.isub, 1) := by decide +kernel
theorem dX5_ifPassed_131 : decode cX5_ifPassed 131 = .ok (.istore 5, 2) := by decide +kernel
theorem dX5_ifPassed_133 : decode cX5_ifPassed 133 = .ok (.aload_n 0, 1) := by decide +kernel
theorem dX5_ifPassed_134 : decode cX5_ifPassed 134 = .ok (.invokevirtual 143, 3) := by decide +kernel
theorem dX5_ifPassed_137 : decode cX5_ifPassed 137 = .ok (.iload 5, 2) := by decide +kernel
theorem dX5_ifPassed_139 : decode cX5_ifPassed 139 = .ok (.ireturn, 1) := by decide +kernel
theorem dX5_bestLanding_0 : decode cX5_bestLanding 0 = .ok (.bipush (-6), 2) := by decide +kernel
theorem dX5_bestLanding_2 : decode cX5_bestLanding 2 = .ok (.istore_n 1, 1) := by decide +kernel
theorem dX5_bestLanding_3 : decode cX5_bestLanding 3 = .ok (.iconst 0, 1) := by decide +kernel
theorem dX5_bestLanding_4 : decode cX5_bestLanding 4 = .ok (.istore_n 2, 1) := by decide +kernel
theorem dX5_bestLanding_5 : decode cX5_bestLanding 5 = .ok (.aload_n 0, 1) := by decide +kernel
theorem dX5_bestLanding_6 : decode cX5_bestLanding 6 = .ok (.getfield 7, 3) := by decide +kernel
theorem dX5_bestLanding_9 : decode cX5_bestLanding 9 = .ok (.iconst 5, 1) := by decide +kernel
theorem dX5_bestLanding_10 : decode cX5_bestLanding 10 = .ok (.iaload, 1) := by decide +kernel
theorem dX5_bestLanding_11 : decode cX5_bestLanding 11 = .ok (.istore_n 3, 1) := by decide +kernel
theorem dX5_bestLanding_12 : decode cX5_bestLanding 12 = .ok (.iconst 0, 1) := by decide +kernel
theorem dX5_bestLanding_13 : decode cX5_bestLanding 13 = .ok (.istore 4, 2) := by decide +kernel
theorem dX5_bestLanding_15 : decode cX5_bestLanding 15 = .ok (.iload 4, 2) := by decide +kernel
theorem dX5_bestLanding_17 : decode cX5_bestLanding 17 = .ok (.bipush 12, 2) := by decide +kernel
theorem dX5_bestLanding_19 : decode cX5_bestLanding 19 = .ok (.if_icmp .ge 89, 3) := by decide +kernel
theorem dX5_bestLanding_22 : decode cX5_bestLanding 22 = .ok (.aload_n 0, 1) := by decide +kernel
theorem dX5_bestLanding_23 : decode cX5_bestLanding 23 = .ok (.iload 4, 2) := by decide +kernel
theorem dX5_bestLanding_25 : decode cX5_bestLanding 25 = .ok (.invokevirtual 49, 3) := by decide +kernel
theorem dX5_bestLanding_28 : decode cX5_bestLanding 28 = .ok (.ifCond .ne 74, 3) := by decide +kernel
theorem dX5_bestLanding_31 : decode cX5_bestLanding 31 = .ok (.aload_n 0, 1) := by decide +kernel
theorem dX5_bestLanding_32 : decode cX5_bestLanding 32 = .ok (.getfield 7, 3) := by decide +kernel
theorem dX5_bestLanding_35 : decode cX5_bestLanding 35 = .ok (.iconst 5, 1) := by decide +kernel
theorem dX5_bestLanding_36 : decode cX5_bestLanding 36 = .ok (.iload_n 3, 1) := by decide +kernel
theorem dX5_bestLanding_37 : decode cX5_bestLanding 37 = .ok (.iconst 1, 1) := by decide +kernel
theorem dX5_bestLanding_38 : decode cX5_bestLanding 38 = .ok (.iload 4, 2) := by decide +kernel
theorem dX5_bestLanding_40 : decode cX5_bestLanding 40 = .ok (.ishl, 1) := by decide +kernel
theorem dX5_bestLanding_41 : decode cX5_bestLanding 41 = .ok (.ior, 1) := by decide +kernel
theorem dX5_bestLanding_42 : decode cX5_bestLanding 42 = .ok (.iastore, 1) := by decide +kernel
theorem dX5_bestLanding_43 : decode cX5_bestLanding 43 = .ok (.aload_n 0, 1) := by decide +kernel
theorem dX5_bestLanding_44 : decode cX5_bestLanding 44 = .ok (.bipush 50, 2) := by decide +kernel
theorem dX5_bestLanding_46 : decode cX5_bestLanding 46 = .ok (.iconst 2, 1) := by decide +kernel
theorem dX5_bestLanding_47 : decode cX5_bestLanding 47 = .ok (.invokevirtual 159, 3) := by decide +kernel
theorem dX5_bestLanding_50 : decode cX5_bestLanding 50 = .ok (.istore 5, 2) := by decide +kernel
theorem dX5_bestLanding_52 : decode cX5_bestLanding 52 = .ok (.aload_n 0, 1) := by decide +kernel
theorem dX5_bestLanding_53 : decode cX5_bestLanding 53 = .ok (.getfield 7, 3) := by decide +kernel
theorem dX5_bestLanding_56 : decode cX5_bestLanding 56 = .ok (.iconst 5, 1) := by decide +kernel
theorem dX5_bestLanding_57 : decode cX5_bestLanding 57 = .ok (.iload_n 3, 1) := by decide +kernel
theorem dX5_bestLanding_58 : decode cX5_bestLanding 58 = .ok (.iastore, 1) := by decide +kernel
theorem dX5_bestLanding_59 : decode cX5_bestLanding 59 = .ok (.iload_n 1, 1) := by decide +kernel
theorem dX5_bestLanding_60 : decode cX5_bestLanding 60 = .ok (.bipush (-6), 2) := by decide +kernel
theorem dX5_bestLanding_62 : decode cX5_bestLanding 62 = .ok (.if_icmp .eq 9, 3) := by decide +kernel
theorem dX5_bestLanding_65 : decode cX5_bestLanding 65 = .ok (.iload 5, 2) := by decide +kernel
theorem dX5_bestLanding_67 : decode cX5_bestLanding 67 = .ok (.iload_n 2, 1) := by decide +kernel
theorem dX5_bestLanding_68 : decode cX5_bestLanding 68 = .ok (.if_icmp .ge 7, 3) := by decide +kernel
theorem dX5_bestLanding_71 : decode cX5_bestLanding 71 = .ok (.iconst 1, 1) := by decide +kernel
theorem dX5_bestLanding_72 : decode cX5_bestLanding 72 = .ok (.goto 4, 3) := by decide +kernel
theorem dX5_bestLanding_75 : decode cX5_bestLanding 75 = .ok (.iconst 0, 1) := by decide +kernel
theorem dX5_bestLanding_76 : decode cX5_bestLanding 76 = .ok (.istore 6, 2) := by decide +kernel
theorem dX5_bestLanding_78 : decode cX5_bestLanding 78 = .ok (.iload 6, 2) := by decide +kernel
theorem dX5_bestLanding_80 : decode cX5_bestLanding 80 = .ok (.ifCond .eq 8, 3) := by decide +kernel
theorem dX5_bestLanding_83 : decode cX5_bestLanding 83 = .ok (.iload 4, 2) := by decide +kernel
theorem dX5_bestLanding_85 : decode cX5_bestLanding 85 = .ok (.goto 4, 3) := by decide +kernel
theorem dX5_bestLanding_88 : decode cX5_bestLanding 88 = .ok (.iload_n 1, 1) := by decide +kernel
theorem dX5_bestLanding_89 : decode cX5_bestLanding 89 = .ok (.istore_n 1, 1) := by decide +kernel
theorem dX5_bestLanding_90 : decode cX5_bestLanding 90 = .ok (.iload 6, 2) := by decide +kernel
theorem dX5_bestLanding_92 : decode cX5_bestLanding 92 = .ok (.ifCond .eq 8, 3) := by decide +kernel
theorem dX5_bestLanding_95 : decode cX5_bestLanding 95 = .ok (.iload 5, 2) := by decide +kernel
theorem dX5_bestLanding_97 : decode cX5_bestLanding 97 = .ok (.goto 4, 3) := by decide +kernel
theorem dX5_bestLanding_100 : decode cX5_bestLanding 100 = .ok (.iload_n 2, 1) := by decide +kernel
theorem dX5_bestLanding_101 : decode cX5_bestLanding 101 = .ok (.istore_n 2, 1) := by decide +kernel
theorem dX5_bestLanding_102 : decode cX5_bestLanding 102 = .ok (.iinc 4 1, 3) := by decide +kernel
theorem dX5_bestLanding_105 : decode cX5_bestLanding 105 = .ok (.goto (-90), 3) := by decide +kernel
theorem dX5_bestLanding_108 : decode cX5_bestLanding 108 = .ok (.iload_n 1, 1) := by decide +kernel
theorem dX5_bestLanding_109 : decode cX5_bestLanding 109 = .ok (.ireturn, 1) := by decide +kernel
theorem dX5_charactersOf_0 : decode cX5_charactersOf 0 = .ok (.lload_n 0, 1) := by decide +kernel
theorem dX5_charactersOf_1 : decode cX5_charactersOf 1 = .ok (.lstore_n 2, 1) := by decide +kernel
theorem dX5_charactersOf_2 : decode cX5_charactersOf 2 = .ok (.iconst 0, 1) := by decide +kernel
theorem dX5_charactersOf_3 : decode cX5_charactersOf 3 = .ok (.istore 4, 2) := by decide +kernel
theorem dX5_charactersOf_5 : decode cX5_charactersOf 5 = .ok (.iload 4, 2) := by decide +kernel
theorem dX5_charactersOf_7 : decode cX5_charactersOf 7 = .ok (.bipush 8, 2) := by decide +kernel
theorem dX5_charactersOf_9 : decode cX5_charactersOf 9 = .ok (.if_icmp .ge 31, 3) := by decide +kernel
theorem dX5_charactersOf_12 : decode cX5_charactersOf 12 = .ok (.lload_n 2, 1) := by decide +kernel
theorem dX5_charactersOf_13 : decode cX5_charactersOf 13 = .ok (.ldc2_w 162, 3) := by decide +kernel
theorem dX5_charactersOf_16 : decode cX5_charactersOf 16 = .ok (.land, 1) := by decide +kernel
theorem dX5_charactersOf_17 : decode cX5_charactersOf 17 = .ok (.ldc2_w 164, 3) := by decide +kernel
theorem dX5_charactersOf_20 : decode cX5_charactersOf 20 = .ok (.ldc2_w 166, 3) := by decide +kernel
theorem dX5_charactersOf_23 : decode cX5_charactersOf 23 = .ok (.invokestatic 35, 3) := by decide +kernel
theorem dX5_charactersOf_26 : decode cX5_charactersOf 26 = .ok (.ifCond .eq 14, 3) := by decide +kernel
theorem dX5_charactersOf_29 : decode cX5_charactersOf 29 = .ok (.lload_n 2, 1) := by decide +kernel
theorem dX5_charactersOf_30 : decode cX5_charactersOf 30 = .ok (.bipush 8, 2) := by decide +kernel
theorem dX5_charactersOf_32 : decode cX5_charactersOf 32 = .ok (.lushr, 1) := by decide +kernel
theorem dX5_charactersOf_33 : decode cX5_charactersOf 33 = .ok (.lstore_n 2, 1) := by decide +kernel
theorem dX5_charactersOf_34 : decode cX5_charactersOf 34 = .ok (.iinc 4 1, 3) := by decide +kernel
theorem dX5_charactersOf_37 : decode cX5_charactersOf 37 = .ok (.goto (-32), 3) := by decide +kernel
theorem dX5_charactersOf_40 : decode cX5_charactersOf 40 = .ok (.lload_n 2, 1) := by decide +kernel
theorem dX5_charactersOf_41 : decode cX5_charactersOf 41 = .ok (.lconst 0, 1) := by decide +kernel
theorem dX5_charactersOf_42 : decode cX5_charactersOf 42 = .ok (.lcmp, 1) := by decide +kernel
theorem dX5_charactersOf_43 : decode cX5_charactersOf 43 = .ok (.ifCond .ne 8, 3) := by decide +kernel
theorem dX5_charactersOf_46 : decode cX5_charactersOf 46 = .ok (.iload 4, 2) := by decide +kernel
theorem dX5_charactersOf_48 : decode cX5_charactersOf 48 = .ok (.goto 4, 3) := by decide +kernel
theorem dX5_charactersOf_51 : decode cX5_charactersOf 51 = .ok (.iconst 0, 1) := by decide +kernel
theorem dX5_charactersOf_52 : decode cX5_charactersOf 52 = .ok (.ireturn, 1) := by decide +kernel
theorem dX5_put_0 : decode cX5_put 0 = .ok (.lload_n 1, 1) := by decide +kernel
theorem dX5_put_1 : decode cX5_put 1 = .ok (.invokestatic 168, 3) := by decide +kernel
theorem dX5_put_4 : decode cX5_put 4 = .ok (.istore_n 3, 1) := by decide +kernel
theorem dX5_put_5 : decode cX5_put 5 = .ok (.iload_n 3, 1) := by decide +kernel
theorem dX5_put_6 : decode cX5_put 6 = .ok (.ifCond .ne 6, 3) := by decide +kernel
theorem dX5_put_9 : decode cX5_put 9 = .ok (.bipush (-2), 2) := by decide +kernel
theorem dX5_put_11 : decode cX5_put 11 = .ok (.ireturn, 1) := by decide +kernel
theorem dX5_put_12 : decode cX5_put 12 = .ok (.aload_n 0, 1) := by decide +kernel
theorem dX5_put_13 : decode cX5_put 13 = .ok (.getfield 121, 3) := by decide +kernel
theorem dX5_put_16 : decode cX5_put 16 = .ok (.iload_n 3, 1) := by decide +kernel
theorem dX5_put_17 : decode cX5_put 17 = .ok (.iadd, 1) := by decide +kernel
theorem dX5_put_18 : decode cX5_put 18 = .ok (.bipush 60, 2) := by decide +kernel
theorem dX5_put_20 : decode cX5_put 20 = .ok (.if_icmp .le 6, 3) := by decide +kernel
theorem dX5_put_23 : decode cX5_put 23 = .ok (.bipush (-4), 2) := by decide +kernel
theorem dX5_put_25 : decode cX5_put 25 = .ok (.ireturn, 1) := by decide +kernel
theorem dX5_put_26 : decode cX5_put 26 = .ok (.iconst 0, 1) := by decide +kernel
theorem dX5_put_27 : decode cX5_put 27 = .ok (.istore 4, 2) := by decide +kernel
theorem dX5_put_29 : decode cX5_put 29 = .ok (.iload 4, 2) := by decide +kernel
theorem dX5_put_31 : decode cX5_put 31 = .ok (.iload_n 3, 1) := by decide +kernel
theorem dX5_put_32 : decode cX5_put 32 = .ok (.if_icmp .ge 37, 3) := by decide +kernel
theorem dX5_put_35 : decode cX5_put 35 = .ok (.aload_n 0, 1) := by decide +kernel
theorem dX5_put_36 : decode cX5_put 36 = .ok (.getfield 28, 3) := by decide +kernel
theorem dX5_put_39 : decode cX5_put 39 = .ok (.aload_n 0, 1) := by decide +kernel
theorem dX5_put_40 : decode cX5_put 40 = .ok (.getfield 121, 3) := by decide +kernel
theorem dX5_put_43 : decode cX5_put 43 = .ok (.iload 4, 2) := by decide +kernel
theorem dX5_put_45 : decode cX5_put 45 = .ok (.iadd, 1) := by decide +kernel
theorem dX5_put_46 : decode cX5_put 46 = .ok (.lload_n 1, 1) := by decide +kernel
theorem dX5_put_47 : decode cX5_put 47 = .ok (.bipush 8, 2) := by decide +kernel
theorem dX5_put_49 : decode cX5_put 49 = .ok (.iload_n 3, 1) := by decide +kernel
theorem dX5_put_50 : decode cX5_put 50 = .ok (.iconst 1, 1) := by decide +kernel
theorem dX5_put_51 : decode cX5_put 51 = .ok (.isub, 1) := by decide +kernel
theorem dX5_put_52 : decode cX5_put 52 = .ok (.iload 4, 2) := by decide +kernel
theorem dX5_put_54 : decode cX5_put 54 = .ok (.isub, 1) := by decide +kernel
theorem dX5_put_55 : decode cX5_put 55 = .ok (.imul, 1) := by decide +kernel
theorem dX5_put_56 : decode cX5_put 56 = .ok (.lushr, 1) := by decide +kernel
theorem dX5_put_57 : decode cX5_put 57 = .ok (.ldc2_w 162, 3) := by decide +kernel
theorem dX5_put_60 : decode cX5_put 60 = .ok (.land, 1) := by decide +kernel
theorem dX5_put_61 : decode cX5_put 61 = .ok (.l2i, 1) := by decide +kernel
theorem dX5_put_62 : decode cX5_put 62 = .ok (.iastore, 1) := by decide +kernel
theorem dX5_put_63 : decode cX5_put 63 = .ok (.iinc 4 1, 3) := by decide +kernel
theorem dX5_put_66 : decode cX5_put 66 = .ok (.goto (-37), 3) := by decide +kernel
theorem dX5_put_69 : decode cX5_put 69 = .ok (.aload_n 0, 1) := by decide +kernel
theorem dX5_put_70 : decode cX5_put 70 = .ok (.dup, 1) := by decide +kernel
theorem dX5_put_71 : decode cX5_put 71 = .ok (.getfield 121, 3) := by decide +kernel
theorem dX5_put_74 : decode cX5_put 74 = .ok (.iload_n 3, 1) := by decide +kernel
theorem dX5_put_75 : decode cX5_put 75 = .ok (.iadd, 1) := by decide +kernel
theorem dX5_put_76 : decode cX5_put 76 = .ok (.putfield 121, 3) := by decide +kernel
theorem dX5_put_79 : decode cX5_put 79 = .ok (.aload_n 0, 1) := by decide +kernel
theorem dX5_put_80 : decode cX5_put 80 = .ok (.getfield 121, 3) := by decide +kernel
theorem dX5_put_83 : decode cX5_put 83 = .ok (.ireturn, 1) := by decide +kernel
theorem dX5_wipe_0 : decode cX5_wipe 0 = .ok (.aload_n 0, 1) := by decide +kernel
theorem dX5_wipe_1 : decode cX5_wipe 1 = .ok (.getfield 121, 3) := by decide +kernel
theorem dX5_wipe_4 : decode cX5_wipe 4 = .ok (.istore_n 1, 1) := by decide +kernel
theorem dX5_wipe_5 : decode cX5_wipe 5 = .ok (.aload_n 0, 1) := by decide +kernel
theorem dX5_wipe_6 : decode cX5_wipe 6 = .ok (.iconst 0, 1) := by decide +kernel
theorem dX5_wipe_7 : decode cX5_wipe 7 = .ok (.putfield 121, 3) := by decide +kernel
theorem dX5_wipe_10 : decode cX5_wipe 10 = .ok (.iload_n 1, 1) := by decide +kernel
theorem dX5_wipe_11 : decode cX5_wipe 11 = .ok (.ireturn, 1) := by decide +kernel
theorem dX5_undo_0 : decode cX5_undo 0 = .ok (.aload_n 0, 1) := by decide +kernel
theorem dX5_undo_1 : decode cX5_undo 1 = .ok (.getfield 31, 3) := by decide +kernel
theorem dX5_undo_4 : decode cX5_undo 4 = .ok (.ifCond .ne 6, 3) := by decide +kernel
theorem dX5_undo_7 : decode cX5_undo 7 = .ok (.bipush (-5), 2) := by decide +kernel
theorem dX5_undo_9 : decode cX5_undo 9 = .ok (.ireturn, 1) := by decide +kernel
theorem dX5_undo_10 : decode cX5_undo 10 = .ok (.aload_n 0, 1) := by decide +kernel
theorem dX5_undo_11 : decode cX5_undo 11 = .ok (.dup, 1) := by decide +kernel
theorem dX5_undo_12 : decode cX5_undo 12 = .ok (.getfield 31, 3) := by decide +kernel
theorem dX5_undo_15 : decode cX5_undo 15 = .ok (.iconst 1, 1) := by decide +kernel
theorem dX5_undo_16 : decode cX5_undo 16 = .ok (.isub, 1) := by decide +kernel
theorem dX5_undo_17 : decode cX5_undo 17 = .ok (.putfield 31, 3) := by decide +kernel
theorem dX5_undo_20 : decode cX5_undo 20 = .ok (.iconst 0, 1) := by decide +kernel
theorem dX5_undo_21 : decode cX5_undo 21 = .ok (.istore_n 1, 1) := by decide +kernel
theorem dX5_undo_22 : decode cX5_undo 22 = .ok (.iload_n 1, 1) := by decide +kernel
theorem dX5_undo_23 : decode cX5_undo 23 = .ok (.sipush 225, 3) := by decide +kernel
theorem dX5_undo_26 : decode cX5_undo 26 = .ok (.if_icmp .ge 30, 3) := by decide +kernel
theorem dX5_undo_29 : decode cX5_undo 29 = .ok (.aload_n 0, 1) := by decide +kernel
theorem dX5_undo_30 : decode cX5_undo 30 = .ok (.getfield 7, 3) := by decide +kernel
theorem dX5_undo_33 : decode cX5_undo 33 = .ok (.iload_n 1, 1) := by decide +kernel
theorem dX5_undo_34 : decode cX5_undo 34 = .ok (.aload_n 0, 1) := by decide +kernel
theorem dX5_undo_35 : decode cX5_undo 35 = .ok (.getfield 16, 3) := by decide +kernel
theorem dX5_undo_38 : decode cX5_undo 38 = .ok (.sipush 225, 3) := by decide +kernel
theorem dX5_undo_41 : decode cX5_undo 41 = .ok (.aload_n 0, 1) := by decide +kernel
theorem dX5_undo_42 : decode cX5_undo 42 = .ok (.getfield 31, 3) := by decide +kernel
theorem dX5_undo_45 : decode cX5_undo 45 = .ok (.imul, 1) := by decide +kernel
theorem dX5_undo_46 : decode cX5_undo 46 = .ok (.iload_n 1, 1) := by decide +kernel
theorem dX5_undo_47 : decode cX5_undo 47 = .ok (.iadd, 1) := by decide +kernel
theorem dX5_undo_48 : decode cX5_undo 48 = .ok (.iaload, 1) := by decide +kernel
theorem dX5_undo_49 : decode cX5_undo 49 = .ok (.iastore, 1) := by decide +kernel
theorem dX5_undo_50 : decode cX5_undo 50 = .ok (.iinc 1 1, 3) := by decide +kernel
theorem dX5_undo_53 : decode cX5_undo 53 = .ok (.goto (-31), 3) := by decide +kernel
theorem dX5_undo_56 : decode cX5_undo 56 = .ok (.aload_n 0, 1) := by decide +kernel
theorem dX5_undo_57 : decode cX5_undo 57 = .ok (.getfield 31, 3) := by decide +kernel
theorem dX5_undo_60 : decode cX5_undo 60 = .ok (.ireturn, 1) := by decide +kernel
theorem dX5_isSlot_0 : decode cX5_isSlot 0 = .ok (.iload_n 0, 1) := by decide +kernel
theorem dX5_isSlot_1 : decode cX5_isSlot 1 = .ok (.ifCond .eq 8, 3) := by decide +kernel
theorem dX5_isSlot_4 : decode cX5_isSlot 4 = .ok (.iload_n 0, 1) := by decide +kernel
theorem dX5_isSlot_5 : decode cX5_isSlot 5 = .ok (.iconst 1, 1) := by decide +kernel
theorem dX5_isSlot_6 : decode cX5_isSlot 6 = .ok (.if_icmp .ne 7, 3) := by decide +kernel
theorem dX5_isSlot_9 : decode cX5_isSlot 9 = .ok (.iconst 1, 1) := by decide +kernel
theorem dX5_isSlot_10 : decode cX5_isSlot 10 = .ok (.goto 4, 3) := by decide +kernel
theorem dX5_isSlot_13 : decode cX5_isSlot 13 = .ok (.iconst 0, 1) := by decide +kernel
theorem dX5_isSlot_14 : decode cX5_isSlot 14 = .ok (.ireturn, 1) := by decide +kernel
theorem dX5_save_0 : decode cX5_save 0 = .ok (.iload_n 1, 1) := by decide +kernel
theorem dX5_save_1 : decode cX5_save 1 = .ok (.invokestatic 179, 3) := by decide +kernel
theorem dX5_save_4 : decode cX5_save 4 = .ok (.ifCond .ne 6, 3) := by decide +kernel
theorem dX5_save_7 : decode cX5_save 7 = .ok (.bipush (-2), 2) := by decide +kernel
theorem dX5_save_9 : decode cX5_save 9 = .ok (.ireturn, 1) := by decide +kernel
theorem dX5_save_10 : decode cX5_save 10 = .ok (.iconst 0, 1) := by decide +kernel
theorem dX5_save_11 : decode cX5_save 11 = .ok (.istore_n 2, 1) := by decide +kernel
theorem dX5_save_12 : decode cX5_save 12 = .ok (.iload_n 2, 1) := by decide +kernel
theorem dX5_save_13 : decode cX5_save 13 = .ok (.sipush 225, 3) := by decide +kernel
theorem dX5_save_16 : decode cX5_save 16 = .ok (.if_icmp .ge 27, 3) := by decide +kernel
theorem dX5_save_19 : decode cX5_save 19 = .ok (.aload_n 0, 1) := by decide +kernel
theorem dX5_save_20 : decode cX5_save 20 = .ok (.getfield 19, 3) := by decide +kernel
theorem dX5_save_23 : decode cX5_save 23 = .ok (.sipush 225, 3) := by decide +kernel
theorem dX5_save_26 : decode cX5_save 26 = .ok (.iload_n 1, 1) := by decide +kernel
theorem dX5_save_27 : decode cX5_save 27 = .ok (.imul, 1) := by decide +kernel
theorem dX5_save_28 : decode cX5_save 28 = .ok (.iload_n 2, 1) := by decide +kernel
theorem dX5_save_29 : decode cX5_save 29 = .ok (.iadd, 1) := by decide +kernel
theorem dX5_save_30 : decode cX5_save 30 = .ok (.aload_n 0, 1) := by decide +kernel
theorem dX5_save_31 : decode cX5_save 31 = .ok (.getfield 7, 3) := by decide +kernel
theorem dX5_save_34 : decode cX5_save 34 = .ok (.iload_n 2, 1) := by decide +kernel
theorem dX5_save_35 : decode cX5_save 35 = .ok (.iaload, 1) := by decide +kernel
theorem dX5_save_36 : decode cX5_save 36 = .ok (.iastore, 1) := by decide +kernel
theorem dX5_save_37 : decode cX5_save 37 = .ok (.iinc 2 1, 3) := by decide +kernel
theorem dX5_save_40 : decode cX5_save 40 = .ok (.goto (-28), 3) := by decide +kernel
theorem dX5_save_43 : decode cX5_save 43 = .ok (.aload_n 0, 1) := by decide +kernel
theorem dX5_save_44 : decode cX5_save 44 = .ok (.getfield 22, 3) := by decide +kernel
theorem dX5_save_47 : decode cX5_save 47 = .ok (.iload_n 1, 1) := by decide +kernel
theorem dX5_save_48 : decode cX5_save 48 = .ok (.iconst 1, 1) := by decide +kernel
theorem dX5_save_49 : decode cX5_save 49 = .ok (.iastore, 1) := by decide +kernel
theorem dX5_save_50 : decode cX5_save 50 = .ok (.aload_n 0, 1) := by decide +kernel
theorem dX5_save_51 : decode cX5_save 51 = .ok (.getfield 7, 3) := by decide +kernel
theorem dX5_save_54 : decode cX5_save 54 = .ok (.iconst 3, 1) := by decide +kernel
theorem dX5_save_55 : decode cX5_save 55 = .ok (.iaload, 1) := by decide +kernel
theorem dX5_save_56 : decode cX5_save 56 = .ok (.ireturn, 1) := by decide +kernel
theorem dX5_restore_0 : decode cX5_restore 0 = .ok (.iload_n 1, 1) := by decide +kernel
theorem dX5_restore_1 : decode cX5_restore 1 = .ok (.invokestatic 179, 3) := by decide +kernel
theorem dX5_restore_4 : decode cX5_restore 4 = .ok (.ifCond .ne 6, 3) := by decide +kernel
theorem dX5_restore_7 : decode cX5_restore 7 = .ok (.bipush (-2), 2) := by decide +kernel
theorem dX5_restore_9 : decode cX5_restore 9 = .ok (.ireturn, 1) := by decide +kernel
theorem dX5_restore_10 : decode cX5_restore 10 = .ok (.aload_n 0, 1) := by decide +kernel
theorem dX5_restore_11 : decode cX5_restore 11 = .ok (.getfield 22, 3) := by decide +kernel
theorem dX5_restore_14 : decode cX5_restore 14 = .ok (.iload_n 1, 1) := by decide +kernel
theorem dX5_restore_15 : decode cX5_restore 15 = .ok (.iaload, 1) := by decide +kernel
theorem dX5_restore_16 : decode cX5_restore 16 = .ok (.ifCond .ne 6, 3) := by decide +kernel
theorem dX5_restore_19 : decode cX5_restore 19 = .ok (.bipush (-5), 2) := by decide +kernel
theorem dX5_restore_21 : decode cX5_restore 21 = .ok (.ireturn, 1) := by decide +kernel
theorem dX5_restore_22 : decode cX5_restore 22 = .ok (.aload_n 0, 1) := by decide +kernel
theorem dX5_restore_23 : decode cX5_restore 23 = .ok (.invokevirtual 108, 3) := by decide +kernel
theorem dX5_restore_26 : decode cX5_restore 26 = .ok (.iconst 0, 1) := by decide +kernel
theorem dX5_restore_27 : decode cX5_restore 27 = .ok (.istore_n 2, 1) := by decide +kernel
theorem dX5_restore_28 : decode cX5_restore 28 = .ok (.iload_n 2, 1) := by decide +kernel
theorem dX5_restore_29 : decode cX5_restore 29 = .ok (.sipush 225, 3) := by decide +kernel
theorem dX5_restore_32 : decode cX5_restore 32 = .ok (.if_icmp .ge 27, 3) := by decide +kernel
theorem dX5_restore_35 : decode cX5_restore 35 = .ok (.aload_n 0, 1) := by decide +kernel
theorem dX5_restore_36 : decode cX5_restore 36 = .ok (.getfield 7, 3) := by decide +kernel
theorem dX5_restore_39 : decode cX5_restore 39 = .ok (.iload_n 2, 1) := by decide +kernel
theorem dX5_restore_40 : decode cX5_restore 40 = .ok (.aload_n 0, 1) := by decide +kernel
theorem dX5_restore_41 : decode cX5_restore 41 = .ok (.getfield 19, 3) := by decide +kernel
theorem dX5_restore_44 : decode cX5_restore 44 = .ok (.sipush 225, 3) := by decide +kernel
theorem dX5_restore_47 : decode cX5_restore 47 = .ok (.iload_n 1, 1) := by decide +kernel
theorem dX5_restore_48 : decode cX5_restore 48 = .ok (.imul, 1) := by decide +kernel
theorem dX5_restore_49 : decode cX5_restore 49 = .ok (.iload_n 2, 1) := by decide +kernel
theorem dX5_restore_50 : decode cX5_restore 50 = .ok (.iadd, 1) := by decide +kernel
theorem dX5_restore_51 : decode cX5_restore 51 = .ok (.iaload, 1) := by decide +kernel
theorem dX5_restore_52 : decode cX5_restore 52 = .ok (.iastore, 1) := by decide +kernel
theorem dX5_restore_53 : decode cX5_restore 53 = .ok (.iinc 2 1, 3) := by decide +kernel
theorem dX5_restore_56 : decode cX5_restore 56 = .ok (.goto (-28), 3) := by decide +kernel
theorem dX5_restore_59 : decode cX5_restore 59 = .ok (.aload_n 0, 1) := by decide +kernel
theorem dX5_restore_60 : decode cX5_restore 60 = .ok (.getfield 7, 3) := by decide +kernel
theorem dX5_restore_63 : decode cX5_restore 63 = .ok (.iconst 3, 1) := by decide +kernel
theorem dX5_restore_64 : decode cX5_restore 64 = .ok (.iaload, 1) := by decide +kernel
theorem dX5_restore_65 : decode cX5_restore 65 = .ok (.ireturn, 1) := by decide +kernel
end
section
/-! METHODS, by program: conditions and contracts -/
abbrev rm_X4_isStep : Room := { frames := 0, cells := 0, slots := 0, locals := 0 }
noncomputable def wp_X4_isStep (a0 : Int32) (μ : Mem) (K : Int32 → Mem → Prop) : Prop :=
    ((a0 < 0 → K 0 μ) ∧ (¬ a0 < 0 → ((12 ≤ a0 → K 0 μ) ∧ (¬ 12 ≤ a0 → K 1 μ))))
set_option maxHeartbeats 4000000 in
set_option maxRecDepth 100000 in
theorem c_X4_isStep (l : Launch) (g : Gv) (ad : Nat → Nat) (μ : Mem) (sz : Nat) (a0 : Int32) {K : Int32 → Mem → Prop} (h : wp_X4_isStep a0 μ K) : Met l yX4_isStep (wX yX4_isStep cX4_isStep 1 (some .boolean)) rm_X4_isStep (Pre g ad μ sz [.int a0]) (PostI g ad sz K) 0 0 (Aw ad sz) := by
  refine Met.ofW (cc := cX4_isStep) (maxL := 1) (ret := (some .boolean)) (by decide) rfl ?_
  intro p e s m args below meth c s₁ B hml hv
  obtain ⟨rfl, rfl, C, w⟩ := x_start B hml hv
  obtain ⟨hx, hb, hml, -, hts, hown, -, -, hN⟩ := id C
  have hl := lv_entry ([.int a0]) (n := 1) (Nat.le_of_ble_eq_true rfl)
  rw [lg_entry_eq]
  generalize (lg_sl ([.int a0]) ++ List.replicate (1 - (lg_sl ([.int a0])).length) Slot.unset).toArray = ls at hl ⊢
  have hl : lv_has ls 1 [(0, .int a0)] := hl
  show W p l e rm_X4_isStep s m _ below meth c s.heap [] 0 0 _ _
  unfold wp_X4_isStep at h
  refine lv_iload_n hx hb dX4_isStep_0 rfl (lv_at hl 0 rfl) ?_
  refine lv_if_lt (tgt := 14) hx hb dX4_isStep_1 (by decide) (fun c_1 => ?_) (fun c_1 => ?_)
  · have h := h.1 c_1
    refine lv_iconst (v := 0) hx hb dX4_isStep_14 (by decide) ?_
    exact x_zret C w (show bz 0 from Or.inl rfl) h dX4_isStep_15
  · have h := h.2 c_1
    refine lv_iload_n hx hb dX4_isStep_4 rfl (lv_at hl 0 rfl) ?_
    refine lv_bipush (v := 12) hx hb dX4_isStep_5 (by decide) ?_
    refine lv_icmp_ge (tgt := 14) hx hb dX4_isStep_7 (by decide) (fun c_2 => ?_) (fun c_2 => ?_)
    · have h := h.1 c_2
      refine lv_iconst (v := 0) hx hb dX4_isStep_14 (by decide) ?_
      exact x_zret C w (show bz 0 from Or.inl rfl) h dX4_isStep_15
    · have h := h.2 c_2
      refine lv_iconst (v := 1) hx hb dX4_isStep_10 (by decide) ?_
      refine lv_goto (tgt := 15) hx hb dX4_isStep_11 (by decide) ?_
      exact x_zret C w (show bz 1 from Or.inr rfl) h dX4_isStep_15
abbrev rm_X2_takeFrom : Room := { frames := 0, cells := 0, slots := 0, locals := 0 }
noncomputable def wp_X2_takeFrom (b0 : Nat) (a1 : Nat) (μ : Mem) (K : Mem → Prop) : Prop :=
    (∀ m_1, m_1 = up2 μ b0 0 (μ a1 0) → (bz (m_1 a1 1) ∧ (∀ m_3, m_3 = up2 m_1 b0 1 (m_1 a1 1) → (∀ m_5, m_5 = up2 m_3 b0 2 (m_3 a1 2) → (∀ m_7, m_7 = up2 m_5 b0 3 (m_5 a1 3) → (∀ m_9, m_9 = up2 m_7 b0 4 (m_7 a1 4) → (∀ m_11, m_11 = up2 m_9 b0 5 (m_9 a1 5) → (∀ m_13, m_13 = up2 m_11 b0 6 (m_11 a1 6) → (∀ m_15, m_15 = up2 m_13 b0 7 (m_13 a1 7) → (∀ m_17, m_17 = up2 m_15 b0 8 (m_15 a1 8) → K m_17))))))))))
set_option maxHeartbeats 4000000 in
set_option maxRecDepth 100000 in
theorem c_X2_takeFrom (l : Launch) (g : Gv) (ad : Nat → Nat) (μ : Mem) (sz : Nat) (b0 : Nat) (k0 : kd b0 = 13) (a1 : Nat) (k1 : kd a1 = 13) {K : Mem → Prop} (h : wp_X2_takeFrom b0 a1 μ K) : Met l yX2_takeFrom (wX yX2_takeFrom cX2_takeFrom 2 none) rm_X2_takeFrom (Pre g ad μ sz [.ref (ad b0), .ref (ad a1)]) (PostV g ad sz K) 0 0 (Aw ad sz) := by
  refine Met.ofW (cc := cX2_takeFrom) (maxL := 2) (ret := none) (by decide) rfl ?_
  intro p e s m args below meth c s₁ B hml hv
  obtain ⟨rfl, rfl, C, w⟩ := x_start B hml hv
  obtain ⟨hx, hb, hml, -, hts, hown, -, -, hN⟩ := id C
  have hl := lv_entry ([.ref (ad b0), .ref (ad a1)]) (n := 2) (Nat.le_of_ble_eq_true rfl)
  rw [lg_entry_eq]
  generalize (lg_sl ([.ref (ad b0), .ref (ad a1)]) ++ List.replicate (2 - (lg_sl ([.ref (ad b0), .ref (ad a1)])).length) Slot.unset).toArray = ls at hl ⊢
  have hl : lv_has ls 2 [(0, .ref (ad b0)), (1, .ref (ad a1))] := hl
  show W p l e rm_X2_takeFrom s m _ below meth c s.heap [] 0 0 _ _
  unfold wp_X2_takeFrom at h
  refine lv_aload_n hx hb dX2_takeFrom_0 rfl (lv_at hl 0 rfl) ?_
  refine lv_aload_n hx hb dX2_takeFrom_1 rfl (lv_at hl 1 rfl) ?_
  refine x_getP C w (i := a1) (k := 0) k1 (by decide) mf_Person_9 dX2_takeFrom_2 ?_
  refine x_putP C w (i := b0) (k := 0) k0 (by decide) mf_Person_9 rfl rfl rfl rfl dX2_takeFrom_5 (fun m_1 e_2 H locs w => ?_)
  have h := h m_1 e_2
  refine lv_aload_n hx hb dX2_takeFrom_8 rfl (lv_at hl 0 rfl) ?_
  refine lv_aload_n hx hb dX2_takeFrom_9 rfl (lv_at hl 1 rfl) ?_
  refine x_getP C w (i := a1) (k := 1) k1 (by decide) mf_Person_15 dX2_takeFrom_10 ?_
  have hz := h.1
  have h := h.2
  refine x_putP C w (i := b0) (k := 1) k0 (by decide) mf_Person_15 rfl rfl (bz_narrow hz) (bz_fits hz) dX2_takeFrom_13 (fun m_3 e_4 H locs w => ?_)
  have h := h m_3 e_4
  refine lv_aload_n hx hb dX2_takeFrom_16 rfl (lv_at hl 0 rfl) ?_
  refine lv_aload_n hx hb dX2_takeFrom_17 rfl (lv_at hl 1 rfl) ?_
  refine x_getP C w (i := a1) (k := 2) k1 (by decide) mf_Person_19 dX2_takeFrom_18 ?_
  refine x_putP C w (i := b0) (k := 2) k0 (by decide) mf_Person_19 rfl rfl rfl rfl dX2_takeFrom_21 (fun m_5 e_6 H locs w => ?_)
  have h := h m_5 e_6
  refine lv_aload_n hx hb dX2_takeFrom_24 rfl (lv_at hl 0 rfl) ?_
  refine lv_aload_n hx hb dX2_takeFrom_25 rfl (lv_at hl 1 rfl) ?_
  refine x_getP C w (i := a1) (k := 3) k1 (by decide) mf_Person_22 dX2_takeFrom_26 ?_
  refine x_putP C w (i := b0) (k := 3) k0 (by decide) mf_Person_22 rfl rfl rfl rfl dX2_takeFrom_29 (fun m_7 e_8 H locs w => ?_)
  have h := h m_7 e_8
  refine lv_aload_n hx hb dX2_takeFrom_32 rfl (lv_at hl 0 rfl) ?_
  refine lv_aload_n hx hb dX2_takeFrom_33 rfl (lv_at hl 1 rfl) ?_
  refine x_getP C w (i := a1) (k := 4) k1 (by decide) mf_Person_25 dX2_takeFrom_34 ?_
  refine x_putP C w (i := b0) (k := 4) k0 (by decide) mf_Person_25 rfl rfl rfl rfl dX2_takeFrom_37 (fun m_9 e_10 H locs w => ?_)
  have h := h m_9 e_10
  refine lv_aload_n hx hb dX2_takeFrom_40 rfl (lv_at hl 0 rfl) ?_
  refine lv_aload_n hx hb dX2_takeFrom_41 rfl (lv_at hl 1 rfl) ?_
  refine x_getP C w (i := a1) (k := 5) k1 (by decide) mf_Person_28 dX2_takeFrom_42 ?_
  refine x_putP C w (i := b0) (k := 5) k0 (by decide) mf_Person_28 rfl rfl rfl rfl dX2_takeFrom_45 (fun m_11 e_12 H locs w => ?_)
  have h := h m_11 e_12
  refine lv_aload_n hx hb dX2_takeFrom_48 rfl (lv_at hl 0 rfl) ?_
  refine lv_aload_n hx hb dX2_takeFrom_49 rfl (lv_at hl 1 rfl) ?_
  refine x_getP C w (i := a1) (k := 6) k1 (by decide) mf_Person_31 dX2_takeFrom_50 ?_
  refine x_putP C w (i := b0) (k := 6) k0 (by decide) mf_Person_31 rfl rfl rfl rfl dX2_takeFrom_53 (fun m_13 e_14 H locs w => ?_)
  have h := h m_13 e_14
  refine lv_aload_n hx hb dX2_takeFrom_56 rfl (lv_at hl 0 rfl) ?_
  refine lv_aload_n hx hb dX2_takeFrom_57 rfl (lv_at hl 1 rfl) ?_
  refine x_getP C w (i := a1) (k := 7) k1 (by decide) mf_Person_34 dX2_takeFrom_58 ?_
  refine x_putP C w (i := b0) (k := 7) k0 (by decide) mf_Person_34 rfl rfl rfl rfl dX2_takeFrom_61 (fun m_15 e_16 H locs w => ?_)
  have h := h m_15 e_16
  refine lv_aload_n hx hb dX2_takeFrom_64 rfl (lv_at hl 0 rfl) ?_
  refine lv_aload_n hx hb dX2_takeFrom_65 rfl (lv_at hl 1 rfl) ?_
  refine x_getP C w (i := a1) (k := 8) k1 (by decide) mf_Person_37 dX2_takeFrom_66 ?_
  refine x_putP C w (i := b0) (k := 8) k0 (by decide) mf_Person_37 rfl rfl rfl rfl dX2_takeFrom_69 (fun m_17 e_18 H locs w => ?_)
  have h := h m_17 e_18
  exact x_vret C w h dX2_takeFrom_72
abbrev rm_X2_enterHall : Room := { frames := 0, cells := 0, slots := 0, locals := 0 }
noncomputable def wp_X2_enterHall_B26 (v0 : Nat) (s0 : Int32) (s1 : Nat) (K : Mem → Prop) (μ : Mem) : Prop :=
    (∀ m_8, m_8 = up2 μ s1 3 s0 → (∀ m_10, m_10 = up2 m_8 v0 4 0 → (∀ m_12, m_12 = up2 m_10 v0 5 0 → (∀ m_14, m_14 = up2 m_12 v0 6 0 → (∀ m_16, m_16 = up2 m_14 v0 7 0 → (∀ m_18, m_18 = up2 m_16 v0 8 0 → K m_18))))))
noncomputable def wp_X2_enterHall (b0 : Nat) (a1 : Int32) (a2 : Int32) (μ : Mem) (K : Mem → Prop) : Prop :=
    (∀ m_1, m_1 = up2 μ b0 0 a1 → (bz a2 ∧ (∀ m_3, m_3 = up2 m_1 b0 1 a2 → (∀ m_5, m_5 = up2 m_3 b0 2 0 → ((a2 = 0 → wp_X2_enterHall_B26 b0 12 b0 K m_5) ∧ (¬ a2 = 0 → wp_X2_enterHall_B26 b0 (-1) b0 K m_5))))))
set_option maxHeartbeats 4000000 in
set_option maxRecDepth 100000 in
theorem t_X2_enterHall_B26 {g : Gv} {ad : Nat → Nat} {l : Launch} {p : Program} {e : Env} {s : State} {m : MethodId} {args : Array Value} {below : List Frame} {meth : Method} {c : Code} (C : Cx g p s m args meth c "StairBows$Person" cX2_enterHall 3 none) {v0 : Nat} {s0 : Int32} {s1 : Nat}  {K : Mem → Prop}  (kv0 : kd v0 = 13) (ks1 : kd s1 = 13)  (μ : Mem) (H : Heap) (locs : List Loc) (ls : Array Slot) (h : wp_X2_enterHall_B26 v0 s0 s1 K μ) (w : Wd g ad μ (Aw ad s.heap.size) s H locs) (hl : lv_has ls 3 [(0, .ref (ad v0))]) : W p l e rm_X2_enterHall s m args below meth c H locs 0 0 (MQ below (PostV g ad s.heap.size K) args s 0 0 (Aw ad s.heap.size)) (F0 m 26 ls [.int s0, .ref (ad s1)]) := by
  obtain ⟨hx, hb, hml, -, hts, hown, -, -, hN⟩ := id C
  unfold wp_X2_enterHall_B26 at h
  refine x_putP C w (i := s1) (k := 3) ks1 (by decide) mf_Person_22 rfl rfl rfl rfl dX2_enterHall_26 (fun m_8 e_9 H locs w => ?_)
  have h := h m_8 e_9
  refine lv_aload_n hx hb dX2_enterHall_29 rfl (lv_at hl 0 rfl) ?_
  refine lv_iconst (v := 0) hx hb dX2_enterHall_30 (by decide) ?_
  refine x_putP C w (i := v0) (k := 4) kv0 (by decide) mf_Person_25 rfl rfl rfl rfl dX2_enterHall_31 (fun m_10 e_11 H locs w => ?_)
  have h := h m_10 e_11
  refine lv_aload_n hx hb dX2_enterHall_34 rfl (lv_at hl 0 rfl) ?_
  refine lv_iconst (v := 0) hx hb dX2_enterHall_35 (by decide) ?_
  refine x_putP C w (i := v0) (k := 5) kv0 (by decide) mf_Person_28 rfl rfl rfl rfl dX2_enterHall_36 (fun m_12 e_13 H locs w => ?_)
  have h := h m_12 e_13
  refine lv_aload_n hx hb dX2_enterHall_39 rfl (lv_at hl 0 rfl) ?_
  refine lv_iconst (v := 0) hx hb dX2_enterHall_40 (by decide) ?_
  refine x_putP C w (i := v0) (k := 6) kv0 (by decide) mf_Person_31 rfl rfl rfl rfl dX2_enterHall_41 (fun m_14 e_15 H locs w => ?_)
  have h := h m_14 e_15
  refine lv_aload_n hx hb dX2_enterHall_44 rfl (lv_at hl 0 rfl) ?_
  refine lv_iconst (v := 0) hx hb dX2_enterHall_45 (by decide) ?_
  refine x_putP C w (i := v0) (k := 7) kv0 (by decide) mf_Person_34 rfl rfl rfl rfl dX2_enterHall_46 (fun m_16 e_17 H locs w => ?_)
  have h := h m_16 e_17
  refine lv_aload_n hx hb dX2_enterHall_49 rfl (lv_at hl 0 rfl) ?_
  refine lv_iconst (v := 0) hx hb dX2_enterHall_50 (by decide) ?_
  refine x_putP C w (i := v0) (k := 8) kv0 (by decide) mf_Person_37 rfl rfl rfl rfl dX2_enterHall_51 (fun m_18 e_19 H locs w => ?_)
  have h := h m_18 e_19
  exact x_vret C w h dX2_enterHall_54
set_option maxHeartbeats 4000000 in
set_option maxRecDepth 100000 in
theorem c_X2_enterHall (l : Launch) (g : Gv) (ad : Nat → Nat) (μ : Mem) (sz : Nat) (b0 : Nat) (k0 : kd b0 = 13) (a1 : Int32) (a2 : Int32) {K : Mem → Prop} (h : wp_X2_enterHall b0 a1 a2 μ K) : Met l yX2_enterHall (wX yX2_enterHall cX2_enterHall 3 none) rm_X2_enterHall (Pre g ad μ sz [.ref (ad b0), .int a1, .int a2]) (PostV g ad sz K) 0 0 (Aw ad sz) := by
  refine Met.ofW (cc := cX2_enterHall) (maxL := 3) (ret := none) (by decide) rfl ?_
  intro p e s m args below meth c s₁ B hml hv
  obtain ⟨rfl, rfl, C, w⟩ := x_start B hml hv
  obtain ⟨hx, hb, hml, -, hts, hown, -, -, hN⟩ := id C
  have hl := lv_entry ([.ref (ad b0), .int a1, .int a2]) (n := 3) (Nat.le_of_ble_eq_true rfl)
  rw [lg_entry_eq]
  generalize (lg_sl ([.ref (ad b0), .int a1, .int a2]) ++ List.replicate (3 - (lg_sl ([.ref (ad b0), .int a1, .int a2])).length) Slot.unset).toArray = ls at hl ⊢
  have hl : lv_has ls 3 [(0, .ref (ad b0)), (1, .int a1), (2, .int a2)] := hl
  show W p l e rm_X2_enterHall s m _ below meth c s.heap [] 0 0 _ _
  unfold wp_X2_enterHall at h
  refine lv_aload_n hx hb dX2_enterHall_0 rfl (lv_at hl 0 rfl) ?_
  refine lv_iload_n hx hb dX2_enterHall_1 rfl (lv_at hl 1 rfl) ?_
  refine x_putP C w (i := b0) (k := 0) k0 (by decide) mf_Person_9 rfl rfl rfl rfl dX2_enterHall_2 (fun m_1 e_2 H locs w => ?_)
  have h := h m_1 e_2
  refine lv_aload_n hx hb dX2_enterHall_5 rfl (lv_at hl 0 rfl) ?_
  refine lv_iload_n hx hb dX2_enterHall_6 rfl (lv_at hl 2 rfl) ?_
  have hz := h.1
  have h := h.2
  refine x_putP C w (i := b0) (k := 1) k0 (by decide) mf_Person_15 rfl rfl (bz_narrow hz) (bz_fits hz) dX2_enterHall_7 (fun m_3 e_4 H locs w => ?_)
  have h := h m_3 e_4
  refine lv_aload_n hx hb dX2_enterHall_10 rfl (lv_at hl 0 rfl) ?_
  refine lv_iconst (v := 0) hx hb dX2_enterHall_11 (by decide) ?_
  refine x_putP C w (i := b0) (k := 2) k0 (by decide) mf_Person_19 rfl rfl rfl rfl dX2_enterHall_12 (fun m_5 e_6 H locs w => ?_)
  have h := h m_5 e_6
  refine lv_aload_n hx hb dX2_enterHall_15 rfl (lv_at hl 0 rfl) ?_
  refine lv_iload_n hx hb dX2_enterHall_16 rfl (lv_at hl 2 rfl) ?_
  refine lv_if_eq (tgt := 24) hx hb dX2_enterHall_17 (by decide) (fun c_7 => ?_) (fun c_7 => ?_)
  · have h := h.1 c_7
    refine lv_bipush (v := 12) hx hb dX2_enterHall_24 (by decide) ?_
    exact t_X2_enterHall_B26 C k0 k0 m_5 _ _ _ h w (lv_sub hl [0] rfl)
  · have h := h.2 c_7
    refine lv_iconst (v := -1) hx hb dX2_enterHall_20 (by decide) ?_
    refine lv_goto (tgt := 26) hx hb dX2_enterHall_21 (by decide) ?_
    exact t_X2_enterHall_B26 C k0 k0 m_5 _ _ _ h w (lv_sub hl [0] rfl)
abbrev rm_X2_isOnWay : Room := { frames := 0, cells := 0, slots := 0, locals := 0 }
noncomputable def wp_X2_isOnWay (b0 : Nat) (μ : Mem) (K : Int32 → Mem → Prop) : Prop :=
    (((μ b0 2) = 0 → K 1 μ) ∧ (¬ (μ b0 2) = 0 → ((¬ (μ b0 2) = 1 → K 0 μ) ∧ ((μ b0 2) = 1 → K 1 μ))))
set_option maxHeartbeats 4000000 in
set_option maxRecDepth 100000 in
theorem c_X2_isOnWay (l : Launch) (g : Gv) (ad : Nat → Nat) (μ : Mem) (sz : Nat) (b0 : Nat) (k0 : kd b0 = 13) {K : Int32 → Mem → Prop} (h : wp_X2_isOnWay b0 μ K) : Met l yX2_isOnWay (wX yX2_isOnWay cX2_isOnWay 1 (some .boolean)) rm_X2_isOnWay (Pre g ad μ sz [.ref (ad b0)]) (PostI g ad sz K) 0 0 (Aw ad sz) := by
  refine Met.ofW (cc := cX2_isOnWay) (maxL := 1) (ret := (some .boolean)) (by decide) rfl ?_
  intro p e s m args below meth c s₁ B hml hv
  obtain ⟨rfl, rfl, C, w⟩ := x_start B hml hv
  obtain ⟨hx, hb, hml, -, hts, hown, -, -, hN⟩ := id C
  have hl := lv_entry ([.ref (ad b0)]) (n := 1) (Nat.le_of_ble_eq_true rfl)
  rw [lg_entry_eq]
  generalize (lg_sl ([.ref (ad b0)]) ++ List.replicate (1 - (lg_sl ([.ref (ad b0)])).length) Slot.unset).toArray = ls at hl ⊢
  have hl : lv_has ls 1 [(0, .ref (ad b0))] := hl
  show W p l e rm_X2_isOnWay s m _ below meth c s.heap [] 0 0 _ _
  unfold wp_X2_isOnWay at h
  refine lv_aload_n hx hb dX2_isOnWay_0 rfl (lv_at hl 0 rfl) ?_
  refine x_getP C w (i := b0) (k := 2) k0 (by decide) mf_Person_19 dX2_isOnWay_1 ?_
  refine lv_if_eq (tgt := 15) hx hb dX2_isOnWay_4 (by decide) (fun c_1 => ?_) (fun c_1 => ?_)
  · have h := h.1 c_1
    refine lv_iconst (v := 1) hx hb dX2_isOnWay_15 (by decide) ?_
    refine lv_goto (tgt := 20) hx hb dX2_isOnWay_16 (by decide) ?_
    exact x_zret C w (show bz 1 from Or.inr rfl) h dX2_isOnWay_20
  · have h := h.2 c_1
    refine lv_aload_n hx hb dX2_isOnWay_7 rfl (lv_at hl 0 rfl) ?_
    refine x_getP C w (i := b0) (k := 2) k0 (by decide) mf_Person_19 dX2_isOnWay_8 ?_
    refine lv_iconst (v := 1) hx hb dX2_isOnWay_11 (by decide) ?_
    refine lv_icmp_ne (tgt := 19) hx hb dX2_isOnWay_12 (by decide) (fun c_2 => ?_) (fun c_2 => ?_)
    · have h := h.1 c_2
      refine lv_iconst (v := 0) hx hb dX2_isOnWay_19 (by decide) ?_
      exact x_zret C w (show bz 0 from Or.inl rfl) h dX2_isOnWay_20
    · have h := h.2 c_2
      refine lv_iconst (v := 1) hx hb dX2_isOnWay_15 (by decide) ?_
      refine lv_goto (tgt := 20) hx hb dX2_isOnWay_16 (by decide) ?_
      exact x_zret C w (show bz 1 from Or.inr rfl) h dX2_isOnWay_20
abbrev rm_X2_standsOn : Room := { frames := 0, cells := 0, slots := 0, locals := 0 }
noncomputable def wp_X2_standsOn (b0 : Nat) (a1 : Int32) (μ : Mem) (K : Int32 → Mem → Prop) : Prop :=
    ((¬ (μ b0 2) = 1 → K 0 μ) ∧ ((μ b0 2) = 1 → ((¬ (μ b0 3) = a1 → K 0 μ) ∧ ((μ b0 3) = a1 → K 1 μ))))
set_option maxHeartbeats 4000000 in
set_option maxRecDepth 100000 in
theorem c_X2_standsOn (l : Launch) (g : Gv) (ad : Nat → Nat) (μ : Mem) (sz : Nat) (b0 : Nat) (k0 : kd b0 = 13) (a1 : Int32) {K : Int32 → Mem → Prop} (h : wp_X2_standsOn b0 a1 μ K) : Met l yX2_standsOn (wX yX2_standsOn cX2_standsOn 2 (some .boolean)) rm_X2_standsOn (Pre g ad μ sz [.ref (ad b0), .int a1]) (PostI g ad sz K) 0 0 (Aw ad sz) := by
  refine Met.ofW (cc := cX2_standsOn) (maxL := 2) (ret := (some .boolean)) (by decide) rfl ?_
  intro p e s m args below meth c s₁ B hml hv
  obtain ⟨rfl, rfl, C, w⟩ := x_start B hml hv
  obtain ⟨hx, hb, hml, -, hts, hown, -, -, hN⟩ := id C
  have hl := lv_entry ([.ref (ad b0), .int a1]) (n := 2) (Nat.le_of_ble_eq_true rfl)
  rw [lg_entry_eq]
  generalize (lg_sl ([.ref (ad b0), .int a1]) ++ List.replicate (2 - (lg_sl ([.ref (ad b0), .int a1])).length) Slot.unset).toArray = ls at hl ⊢
  have hl : lv_has ls 2 [(0, .ref (ad b0)), (1, .int a1)] := hl
  show W p l e rm_X2_standsOn s m _ below meth c s.heap [] 0 0 _ _
  unfold wp_X2_standsOn at h
  refine lv_aload_n hx hb dX2_standsOn_0 rfl (lv_at hl 0 rfl) ?_
  refine x_getP C w (i := b0) (k := 2) k0 (by decide) mf_Person_19 dX2_standsOn_1 ?_
  refine lv_iconst (v := 1) hx hb dX2_standsOn_4 (by decide) ?_
  refine lv_icmp_ne (tgt := 20) hx hb dX2_standsOn_5 (by decide) (fun c_1 => ?_) (fun c_1 => ?_)
  · have h := h.1 c_1
    refine lv_iconst (v := 0) hx hb dX2_standsOn_20 (by decide) ?_
    exact x_zret C w (show bz 0 from Or.inl rfl) h dX2_standsOn_21
  · have h := h.2 c_1
    refine lv_aload_n hx hb dX2_standsOn_8 rfl (lv_at hl 0 rfl) ?_
    refine x_getP C w (i := b0) (k := 3) k0 (by decide) mf_Person_22 dX2_standsOn_9 ?_
    refine lv_iload_n hx hb dX2_standsOn_12 rfl (lv_at hl 1 rfl) ?_
    refine lv_icmp_ne (tgt := 20) hx hb dX2_standsOn_13 (by decide) (fun c_2 => ?_) (fun c_2 => ?_)
    · have h := h.1 c_2
      refine lv_iconst (v := 0) hx hb dX2_standsOn_20 (by decide) ?_
      exact x_zret C w (show bz 0 from Or.inl rfl) h dX2_standsOn_21
    · have h := h.2 c_2
      refine lv_iconst (v := 1) hx hb dX2_standsOn_16 (by decide) ?_
      refine lv_goto (tgt := 21) hx hb dX2_standsOn_17 (by decide) ?_
      exact x_zret C w (show bz 1 from Or.inr rfl) h dX2_standsOn_21
abbrev rm_X2_nextStep : Room := { frames := 0, cells := 0, slots := 0, locals := 0 }
noncomputable def wp_X2_nextStep (b0 : Nat) (μ : Mem) (K : Int32 → Mem → Prop) : Prop :=
    (((μ b0 1) = 0 → K ((μ b0 3) - 1) μ) ∧ (¬ (μ b0 1) = 0 → K ((μ b0 3) + 1) μ))
set_option maxHeartbeats 4000000 in
set_option maxRecDepth 100000 in
theorem c_X2_nextStep (l : Launch) (g : Gv) (ad : Nat → Nat) (μ : Mem) (sz : Nat) (b0 : Nat) (k0 : kd b0 = 13) {K : Int32 → Mem → Prop} (h : wp_X2_nextStep b0 μ K) : Met l yX2_nextStep (wX yX2_nextStep cX2_nextStep 1 (some .int)) rm_X2_nextStep (Pre g ad μ sz [.ref (ad b0)]) (PostI g ad sz K) 0 0 (Aw ad sz) := by
  refine Met.ofW (cc := cX2_nextStep) (maxL := 1) (ret := (some .int)) (by decide) rfl ?_
  intro p e s m args below meth c s₁ B hml hv
  obtain ⟨rfl, rfl, C, w⟩ := x_start B hml hv
  obtain ⟨hx, hb, hml, -, hts, hown, -, -, hN⟩ := id C
  have hl := lv_entry ([.ref (ad b0)]) (n := 1) (Nat.le_of_ble_eq_true rfl)
  rw [lg_entry_eq]
  generalize (lg_sl ([.ref (ad b0)]) ++ List.replicate (1 - (lg_sl ([.ref (ad b0)])).length) Slot.unset).toArray = ls at hl ⊢
  have hl : lv_has ls 1 [(0, .ref (ad b0))] := hl
  show W p l e rm_X2_nextStep s m _ below meth c s.heap [] 0 0 _ _
  unfold wp_X2_nextStep at h
  refine lv_aload_n hx hb dX2_nextStep_0 rfl (lv_at hl 0 rfl) ?_
  refine x_getP C w (i := b0) (k := 1) k0 (by decide) mf_Person_15 dX2_nextStep_1 ?_
  refine lv_if_eq (tgt := 16) hx hb dX2_nextStep_4 (by decide) (fun c_1 => ?_) (fun c_1 => ?_)
  · have h := h.1 c_1
    refine lv_aload_n hx hb dX2_nextStep_16 rfl (lv_at hl 0 rfl) ?_
    refine x_getP C w (i := b0) (k := 3) k0 (by decide) mf_Person_22 dX2_nextStep_17 ?_
    refine lv_iconst (v := 1) hx hb dX2_nextStep_20 (by decide) ?_
    refine lv_isub hx hb dX2_nextStep_21 ?_
    exact x_iret C w h dX2_nextStep_22
  · have h := h.2 c_1
    refine lv_aload_n hx hb dX2_nextStep_7 rfl (lv_at hl 0 rfl) ?_
    refine x_getP C w (i := b0) (k := 3) k0 (by decide) mf_Person_22 dX2_nextStep_8 ?_
    refine lv_iconst (v := 1) hx hb dX2_nextStep_11 (by decide) ?_
    refine lv_iadd hx hb dX2_nextStep_12 ?_
    refine lv_goto (tgt := 22) hx hb dX2_nextStep_13 (by decide) ?_
    exact x_iret C w h dX2_nextStep_22
abbrev rm_X2_stepBehind : Room := { frames := 0, cells := 0, slots := 0, locals := 0 }
noncomputable def wp_X2_stepBehind (b0 : Nat) (μ : Mem) (K : Int32 → Mem → Prop) : Prop :=
    (((μ b0 1) = 0 → K ((μ b0 3) + 1) μ) ∧ (¬ (μ b0 1) = 0 → K ((μ b0 3) - 1) μ))
set_option maxHeartbeats 4000000 in
set_option maxRecDepth 100000 in
theorem c_X2_stepBehind (l : Launch) (g : Gv) (ad : Nat → Nat) (μ : Mem) (sz : Nat) (b0 : Nat) (k0 : kd b0 = 13) {K : Int32 → Mem → Prop} (h : wp_X2_stepBehind b0 μ K) : Met l yX2_stepBehind (wX yX2_stepBehind cX2_stepBehind 1 (some .int)) rm_X2_stepBehind (Pre g ad μ sz [.ref (ad b0)]) (PostI g ad sz K) 0 0 (Aw ad sz) := by
  refine Met.ofW (cc := cX2_stepBehind) (maxL := 1) (ret := (some .int)) (by decide) rfl ?_
  intro p e s m args below meth c s₁ B hml hv
  obtain ⟨rfl, rfl, C, w⟩ := x_start B hml hv
  obtain ⟨hx, hb, hml, -, hts, hown, -, -, hN⟩ := id C
  have hl := lv_entry ([.ref (ad b0)]) (n := 1) (Nat.le_of_ble_eq_true rfl)
  rw [lg_entry_eq]
  generalize (lg_sl ([.ref (ad b0)]) ++ List.replicate (1 - (lg_sl ([.ref (ad b0)])).length) Slot.unset).toArray = ls at hl ⊢
  have hl : lv_has ls 1 [(0, .ref (ad b0))] := hl
  show W p l e rm_X2_stepBehind s m _ below meth c s.heap [] 0 0 _ _
  unfold wp_X2_stepBehind at h
  refine lv_aload_n hx hb dX2_stepBehind_0 rfl (lv_at hl 0 rfl) ?_
  refine x_getP C w (i := b0) (k := 1) k0 (by decide) mf_Person_15 dX2_stepBehind_1 ?_
  refine lv_if_eq (tgt := 16) hx hb dX2_stepBehind_4 (by decide) (fun c_1 => ?_) (fun c_1 => ?_)
  · have h := h.1 c_1
    refine lv_aload_n hx hb dX2_stepBehind_16 rfl (lv_at hl 0 rfl) ?_
    refine x_getP C w (i := b0) (k := 3) k0 (by decide) mf_Person_22 dX2_stepBehind_17 ?_
    refine lv_iconst (v := 1) hx hb dX2_stepBehind_20 (by decide) ?_
    refine lv_iadd hx hb dX2_stepBehind_21 ?_
    exact x_iret C w h dX2_stepBehind_22
  · have h := h.2 c_1
    refine lv_aload_n hx hb dX2_stepBehind_7 rfl (lv_at hl 0 rfl) ?_
    refine x_getP C w (i := b0) (k := 3) k0 (by decide) mf_Person_22 dX2_stepBehind_8 ?_
    refine lv_iconst (v := 1) hx hb dX2_stepBehind_11 (by decide) ?_
    refine lv_isub hx hb dX2_stepBehind_12 ?_
    refine lv_goto (tgt := 22) hx hb dX2_stepBehind_13 (by decide) ?_
    exact x_iret C w h dX2_stepBehind_22
abbrev rm_X2_yieldsTo : Room := { frames := 0, cells := 0, slots := 0, locals := 0 }
noncomputable def wp_X2_yieldsTo (b0 : Nat) (a1 : Nat) (μ : Mem) (K : Int32 → Mem → Prop) : Prop :=
    (((μ b0 1) = (μ a1 1) → K 0 μ) ∧ (¬ (μ b0 1) = (μ a1 1) → (((μ b0 0) < (μ a1 0) → K 1 μ) ∧ (¬ (μ b0 0) < (μ a1 0) → ((¬ (μ a1 0) = (μ b0 0) → K 0 μ) ∧ ((μ a1 0) = (μ b0 0) → ((¬ (μ a1 1) = 0 → K 0 μ) ∧ ((μ a1 1) = 0 → K 1 μ))))))))
set_option maxHeartbeats 4000000 in
set_option maxRecDepth 100000 in
theorem c_X2_yieldsTo (l : Launch) (g : Gv) (ad : Nat → Nat) (μ : Mem) (sz : Nat) (b0 : Nat) (k0 : kd b0 = 13) (a1 : Nat) (k1 : kd a1 = 13) {K : Int32 → Mem → Prop} (h : wp_X2_yieldsTo b0 a1 μ K) : Met l yX2_yieldsTo (wX yX2_yieldsTo cX2_yieldsTo 2 (some .boolean)) rm_X2_yieldsTo (Pre g ad μ sz [.ref (ad b0), .ref (ad a1)]) (PostI g ad sz K) 0 0 (Aw ad sz) := by
  refine Met.ofW (cc := cX2_yieldsTo) (maxL := 2) (ret := (some .boolean)) (by decide) rfl ?_
  intro p e s m args below meth c s₁ B hml hv
  obtain ⟨rfl, rfl, C, w⟩ := x_start B hml hv
  obtain ⟨hx, hb, hml, -, hts, hown, -, -, hN⟩ := id C
  have hl := lv_entry ([.ref (ad b0), .ref (ad a1)]) (n := 2) (Nat.le_of_ble_eq_true rfl)
  rw [lg_entry_eq]
  generalize (lg_sl ([.ref (ad b0), .ref (ad a1)]) ++ List.replicate (2 - (lg_sl ([.ref (ad b0), .ref (ad a1)])).length) Slot.unset).toArray = ls at hl ⊢
  have hl : lv_has ls 2 [(0, .ref (ad b0)), (1, .ref (ad a1))] := hl
  show W p l e rm_X2_yieldsTo s m _ below meth c s.heap [] 0 0 _ _
  unfold wp_X2_yieldsTo at h
  refine lv_aload_n hx hb dX2_yieldsTo_0 rfl (lv_at hl 0 rfl) ?_
  refine x_getP C w (i := b0) (k := 1) k0 (by decide) mf_Person_15 dX2_yieldsTo_1 ?_
  refine lv_aload_n hx hb dX2_yieldsTo_4 rfl (lv_at hl 1 rfl) ?_
  refine x_getP C w (i := a1) (k := 1) k1 (by decide) mf_Person_15 dX2_yieldsTo_5 ?_
  refine lv_icmp_eq (tgt := 44) hx hb dX2_yieldsTo_8 (by decide) (fun c_1 => ?_) (fun c_1 => ?_)
  · have h := h.1 c_1
    refine lv_iconst (v := 0) hx hb dX2_yieldsTo_44 (by decide) ?_
    exact x_zret C w (show bz 0 from Or.inl rfl) h dX2_yieldsTo_45
  · have h := h.2 c_1
    refine lv_aload_n hx hb dX2_yieldsTo_11 rfl (lv_at hl 1 rfl) ?_
    refine x_getP C w (i := a1) (k := 0) k1 (by decide) mf_Person_9 dX2_yieldsTo_12 ?_
    refine lv_aload_n hx hb dX2_yieldsTo_15 rfl (lv_at hl 0 rfl) ?_
    refine x_getP C w (i := b0) (k := 0) k0 (by decide) mf_Person_9 dX2_yieldsTo_16 ?_
    refine lv_icmp_gt (tgt := 40) hx hb dX2_yieldsTo_19 (by decide) (fun c_2 => ?_) (fun c_2 => ?_)
    · have h := h.1 c_2
      refine lv_iconst (v := 1) hx hb dX2_yieldsTo_40 (by decide) ?_
      refine lv_goto (tgt := 45) hx hb dX2_yieldsTo_41 (by decide) ?_
      exact x_zret C w (show bz 1 from Or.inr rfl) h dX2_yieldsTo_45
    · have h := h.2 c_2
      refine lv_aload_n hx hb dX2_yieldsTo_22 rfl (lv_at hl 1 rfl) ?_
      refine x_getP C w (i := a1) (k := 0) k1 (by decide) mf_Person_9 dX2_yieldsTo_23 ?_
      refine lv_aload_n hx hb dX2_yieldsTo_26 rfl (lv_at hl 0 rfl) ?_
      refine x_getP C w (i := b0) (k := 0) k0 (by decide) mf_Person_9 dX2_yieldsTo_27 ?_
      refine lv_icmp_ne (tgt := 44) hx hb dX2_yieldsTo_30 (by decide) (fun c_3 => ?_) (fun c_3 => ?_)
      · have h := h.1 c_3
        refine lv_iconst (v := 0) hx hb dX2_yieldsTo_44 (by decide) ?_
        exact x_zret C w (show bz 0 from Or.inl rfl) h dX2_yieldsTo_45
      · have h := h.2 c_3
        refine lv_aload_n hx hb dX2_yieldsTo_33 rfl (lv_at hl 1 rfl) ?_
        refine x_getP C w (i := a1) (k := 1) k1 (by decide) mf_Person_15 dX2_yieldsTo_34 ?_
        refine lv_if_ne (tgt := 44) hx hb dX2_yieldsTo_37 (by decide) (fun c_4 => ?_) (fun c_4 => ?_)
        · have h := h.1 c_4
          refine lv_iconst (v := 0) hx hb dX2_yieldsTo_44 (by decide) ?_
          exact x_zret C w (show bz 0 from Or.inl rfl) h dX2_yieldsTo_45
        · have h := h.2 c_4
          refine lv_iconst (v := 1) hx hb dX2_yieldsTo_40 (by decide) ?_
          refine lv_goto (tgt := 45) hx hb dX2_yieldsTo_41 (by decide) ?_
          exact x_zret C w (show bz 1 from Or.inr rfl) h dX2_yieldsTo_45
abbrev rm_X2_stay : Room := { frames := 0, cells := 0, slots := 0, locals := 0 }
noncomputable def wp_X2_stay (b0 : Nat) (μ : Mem) (K : Mem → Prop) : Prop :=
    (∀ m_1, m_1 = up2 μ b0 9 3 → (∀ m_3, m_3 = up2 m_1 b0 4 ((m_1 b0 4) + 1) → (∀ m_5, m_5 = up2 m_3 b0 8 ((m_3 b0 8) + 1) → K m_5)))
set_option maxHeartbeats 4000000 in
set_option maxRecDepth 100000 in
theorem c_X2_stay (l : Launch) (g : Gv) (ad : Nat → Nat) (μ : Mem) (sz : Nat) (b0 : Nat) (k0 : kd b0 = 13) {K : Mem → Prop} (h : wp_X2_stay b0 μ K) : Met l yX2_stay (wX yX2_stay cX2_stay 1 none) rm_X2_stay (Pre g ad μ sz [.ref (ad b0)]) (PostV g ad sz K) 0 0 (Aw ad sz) := by
  refine Met.ofW (cc := cX2_stay) (maxL := 1) (ret := none) (by decide) rfl ?_
  intro p e s m args below meth c s₁ B hml hv
  obtain ⟨rfl, rfl, C, w⟩ := x_start B hml hv
  obtain ⟨hx, hb, hml, -, hts, hown, -, -, hN⟩ := id C
  have hl := lv_entry ([.ref (ad b0)]) (n := 1) (Nat.le_of_ble_eq_true rfl)
  rw [lg_entry_eq]
  generalize (lg_sl ([.ref (ad b0)]) ++ List.replicate (1 - (lg_sl ([.ref (ad b0)])).length) Slot.unset).toArray = ls at hl ⊢
  have hl : lv_has ls 1 [(0, .ref (ad b0))] := hl
  show W p l e rm_X2_stay s m _ below meth c s.heap [] 0 0 _ _
  unfold wp_X2_stay at h
  refine lv_aload_n hx hb dX2_stay_0 rfl (lv_at hl 0 rfl) ?_
  refine lv_iconst (v := 3) hx hb dX2_stay_1 (by decide) ?_
  refine x_putP C w (i := b0) (k := 9) k0 (by decide) mf_Person_40 rfl rfl rfl rfl dX2_stay_2 (fun m_1 e_2 H locs w => ?_)
  have h := h m_1 e_2
  refine lv_aload_n hx hb dX2_stay_5 rfl (lv_at hl 0 rfl) ?_
  refine lv_dup hx hb dX2_stay_6 rfl ?_
  refine x_getP C w (i := b0) (k := 4) k0 (by decide) mf_Person_25 dX2_stay_7 ?_
  refine lv_iconst (v := 1) hx hb dX2_stay_10 (by decide) ?_
  refine lv_iadd hx hb dX2_stay_11 ?_
  refine x_putP C w (i := b0) (k := 4) k0 (by decide) mf_Person_25 rfl rfl rfl rfl dX2_stay_12 (fun m_3 e_4 H locs w => ?_)
  have h := h m_3 e_4
  refine lv_aload_n hx hb dX2_stay_15 rfl (lv_at hl 0 rfl) ?_
  refine lv_dup hx hb dX2_stay_16 rfl ?_
  refine x_getP C w (i := b0) (k := 8) k0 (by decide) mf_Person_37 dX2_stay_17 ?_
  refine lv_iconst (v := 1) hx hb dX2_stay_20 (by decide) ?_
  refine lv_iadd hx hb dX2_stay_21 ?_
  refine x_putP C w (i := b0) (k := 8) k0 (by decide) mf_Person_37 rfl rfl rfl rfl dX2_stay_22 (fun m_5 e_6 H locs w => ?_)
  have h := h m_5 e_6
  exact x_vret C w h dX2_stay_25
abbrev rm_X2_bow : Room := { frames := 0, cells := 0, slots := 0, locals := 0 }
noncomputable def wp_X2_bow (b0 : Nat) (a1 : Int32) (μ : Mem) (K : Mem → Prop) : Prop :=
    (∀ m_1, m_1 = up2 μ b0 5 ((μ b0 5) + 1) → (∀ m_3, m_3 = up2 m_1 b0 6 ((m_1 b0 6) + a1) → K m_3))
set_option maxHeartbeats 4000000 in
set_option maxRecDepth 100000 in
theorem c_X2_bow (l : Launch) (g : Gv) (ad : Nat → Nat) (μ : Mem) (sz : Nat) (b0 : Nat) (k0 : kd b0 = 13) (a1 : Int32) {K : Mem → Prop} (h : wp_X2_bow b0 a1 μ K) : Met l yX2_bow (wX yX2_bow cX2_bow 2 none) rm_X2_bow (Pre g ad μ sz [.ref (ad b0), .int a1]) (PostV g ad sz K) 0 0 (Aw ad sz) := by
  refine Met.ofW (cc := cX2_bow) (maxL := 2) (ret := none) (by decide) rfl ?_
  intro p e s m args below meth c s₁ B hml hv
  obtain ⟨rfl, rfl, C, w⟩ := x_start B hml hv
  obtain ⟨hx, hb, hml, -, hts, hown, -, -, hN⟩ := id C
  have hl := lv_entry ([.ref (ad b0), .int a1]) (n := 2) (Nat.le_of_ble_eq_true rfl)
  rw [lg_entry_eq]
  generalize (lg_sl ([.ref (ad b0), .int a1]) ++ List.replicate (2 - (lg_sl ([.ref (ad b0), .int a1])).length) Slot.unset).toArray = ls at hl ⊢
  have hl : lv_has ls 2 [(0, .ref (ad b0)), (1, .int a1)] := hl
  show W p l e rm_X2_bow s m _ below meth c s.heap [] 0 0 _ _
  unfold wp_X2_bow at h
  refine lv_aload_n hx hb dX2_bow_0 rfl (lv_at hl 0 rfl) ?_
  refine lv_dup hx hb dX2_bow_1 rfl ?_
  refine x_getP C w (i := b0) (k := 5) k0 (by decide) mf_Person_28 dX2_bow_2 ?_
  refine lv_iconst (v := 1) hx hb dX2_bow_5 (by decide) ?_
  refine lv_iadd hx hb dX2_bow_6 ?_
  refine x_putP C w (i := b0) (k := 5) k0 (by decide) mf_Person_28 rfl rfl rfl rfl dX2_bow_7 (fun m_1 e_2 H locs w => ?_)
  have h := h m_1 e_2
  refine lv_aload_n hx hb dX2_bow_10 rfl (lv_at hl 0 rfl) ?_
  refine lv_dup hx hb dX2_bow_11 rfl ?_
  refine x_getP C w (i := b0) (k := 6) k0 (by decide) mf_Person_31 dX2_bow_12 ?_
  refine lv_iload_n hx hb dX2_bow_15 rfl (lv_at hl 1 rfl) ?_
  refine lv_iadd hx hb dX2_bow_16 ?_
  refine x_putP C w (i := b0) (k := 6) k0 (by decide) mf_Person_31 rfl rfl rfl rfl dX2_bow_17 (fun m_3 e_4 H locs w => ?_)
  have h := h m_3 e_4
  exact x_vret C w h dX2_bow_20
abbrev rm_X2_tell : Room := { frames := 1, cells := 0, slots := 0, locals := 20 }
noncomputable def wp_X2_tell (b0 : Nat) (a1 : Int32) (μ : Mem) (K : Int32 → Mem → Prop) : Prop :=
    (((a1.toInt < 0 ∨ 8 < a1.toInt) → K (-2) μ) ∧ (a1.toInt = 0 → K (μ b0 0) μ) ∧ (a1.toInt = 1 → (((μ b0 1) = 0 → K 0 μ) ∧ (¬ (μ b0 1) = 0 → K 1 μ))) ∧ (a1.toInt = 2 → K (μ b0 2) μ) ∧ (a1.toInt = 3 → ((¬ (μ b0 2) = 1 → K (-6) μ) ∧ ((μ b0 2) = 1 → K (μ b0 3) μ))) ∧ (a1.toInt = 4 → K (μ b0 4) μ) ∧ (a1.toInt = 5 → K (μ b0 5) μ) ∧ (a1.toInt = 6 → K (μ b0 6) μ) ∧ (a1.toInt = 7 → (wp_X2_isOnWay b0 μ (fun r_12 m_11 => ((r_12 = 0 → K (m_11 b0 7) m_11) ∧ (¬ r_12 = 0 → K (-6) m_11))))) ∧ (a1.toInt = 8 → K (μ b0 8) μ))
set_option maxHeartbeats 4000000 in
set_option maxRecDepth 100000 in
theorem c_X2_tell (l : Launch) (g : Gv) (ad : Nat → Nat) (μ : Mem) (sz : Nat) (b0 : Nat) (k0 : kd b0 = 13) (a1 : Int32) {K : Int32 → Mem → Prop} (h : wp_X2_tell b0 a1 μ K) : Met l yX2_tell (wX yX2_tell cX2_tell 2 (some .int)) rm_X2_tell (Pre g ad μ sz [.ref (ad b0), .int a1]) (PostI g ad sz K) 0 0 (Aw ad sz) := by
  refine Met.ofW (cc := cX2_tell) (maxL := 2) (ret := (some .int)) (by decide) rfl ?_
  intro p e s m args below meth c s₁ B hml hv
  obtain ⟨rfl, rfl, C, w⟩ := x_start B hml hv
  obtain ⟨hx, hb, hml, -, hts, hown, -, -, hN⟩ := id C
  have hl := lv_entry ([.ref (ad b0), .int a1]) (n := 2) (Nat.le_of_ble_eq_true rfl)
  rw [lg_entry_eq]
  generalize (lg_sl ([.ref (ad b0), .int a1]) ++ List.replicate (2 - (lg_sl ([.ref (ad b0), .int a1])).length) Slot.unset).toArray = ls at hl ⊢
  have hl : lv_has ls 2 [(0, .ref (ad b0)), (1, .int a1)] := hl
  show W p l e rm_X2_tell s m _ below meth c s.heap [] 0 0 _ _
  unfold wp_X2_tell at h
  refine lv_iload_n hx hb dX2_tell_0 rfl (lv_at hl 1 rfl) ?_
  by_cases c_1 : a1.toInt < 0 ∨ 8 < a1.toInt
  · have h := h.1 c_1
    refine lv_tableOut (tgt := 130) hx hb dX2_tell_1 c_1 (by decide) ?_
    refine lv_bipush (v := -2) hx hb dX2_tell_130 (by decide) ?_
    exact x_iret C w h dX2_tell_132
  · by_cases c_2 : a1.toInt = 0
    · have h := h.2.1 c_2
      refine lv_tableIn (off := 51) (tgt := 52) hx hb dX2_tell_1 (by omega) (by omega) (by rw [c_2]; rfl) (by decide) ?_
      refine lv_aload_n hx hb dX2_tell_52 rfl (lv_at hl 0 rfl) ?_
      refine x_getP C w (i := b0) (k := 0) k0 (by decide) mf_Person_9 dX2_tell_53 ?_
      exact x_iret C w h dX2_tell_56
    · by_cases c_4 : a1.toInt = 1
      · have h := h.2.2.1 c_4
        refine lv_tableIn (off := 56) (tgt := 57) hx hb dX2_tell_1 (by omega) (by omega) (by rw [c_4]; rfl) (by decide) ?_
        refine lv_aload_n hx hb dX2_tell_57 rfl (lv_at hl 0 rfl) ?_
        refine x_getP C w (i := b0) (k := 1) k0 (by decide) mf_Person_15 dX2_tell_58 ?_
        refine lv_if_eq (tgt := 68) hx hb dX2_tell_61 (by decide) (fun c_3 => ?_) (fun c_3 => ?_)
        · have h := h.1 c_3
          refine lv_iconst (v := 0) hx hb dX2_tell_68 (by decide) ?_
          exact x_iret C w h dX2_tell_69
        · have h := h.2 c_3
          refine lv_iconst (v := 1) hx hb dX2_tell_64 (by decide) ?_
          refine lv_goto (tgt := 69) hx hb dX2_tell_65 (by decide) ?_
          exact x_iret C w h dX2_tell_69
      · by_cases c_5 : a1.toInt = 2
        · have h := h.2.2.2.1 c_5
          refine lv_tableIn (off := 69) (tgt := 70) hx hb dX2_tell_1 (by omega) (by omega) (by rw [c_5]; rfl) (by decide) ?_
          refine lv_aload_n hx hb dX2_tell_70 rfl (lv_at hl 0 rfl) ?_
          refine x_getP C w (i := b0) (k := 2) k0 (by decide) mf_Person_19 dX2_tell_71 ?_
          exact x_iret C w h dX2_tell_74
        · by_cases c_7 : a1.toInt = 3
          · have h := h.2.2.2.2.1 c_7
            refine lv_tableIn (off := 74) (tgt := 75) hx hb dX2_tell_1 (by omega) (by omega) (by rw [c_7]; rfl) (by decide) ?_
            refine lv_aload_n hx hb dX2_tell_75 rfl (lv_at hl 0 rfl) ?_
            refine x_getP C w (i := b0) (k := 2) k0 (by decide) mf_Person_19 dX2_tell_76 ?_
            refine lv_iconst (v := 1) hx hb dX2_tell_79 (by decide) ?_
            refine lv_icmp_ne (tgt := 90) hx hb dX2_tell_80 (by decide) (fun c_6 => ?_) (fun c_6 => ?_)
            · have h := h.1 c_6
              refine lv_bipush (v := -6) hx hb dX2_tell_90 (by decide) ?_
              exact x_iret C w h dX2_tell_92
            · have h := h.2 c_6
              refine lv_aload_n hx hb dX2_tell_83 rfl (lv_at hl 0 rfl) ?_
              refine x_getP C w (i := b0) (k := 3) k0 (by decide) mf_Person_22 dX2_tell_84 ?_
              refine lv_goto (tgt := 92) hx hb dX2_tell_87 (by decide) ?_
              exact x_iret C w h dX2_tell_92
          · by_cases c_8 : a1.toInt = 4
            · have h := h.2.2.2.2.2.1 c_8
              refine lv_tableIn (off := 92) (tgt := 93) hx hb dX2_tell_1 (by omega) (by omega) (by rw [c_8]; rfl) (by decide) ?_
              refine lv_aload_n hx hb dX2_tell_93 rfl (lv_at hl 0 rfl) ?_
              refine x_getP C w (i := b0) (k := 4) k0 (by decide) mf_Person_25 dX2_tell_94 ?_
              exact x_iret C w h dX2_tell_97
            · by_cases c_9 : a1.toInt = 5
              · have h := h.2.2.2.2.2.2.1 c_9
                refine lv_tableIn (off := 97) (tgt := 98) hx hb dX2_tell_1 (by omega) (by omega) (by rw [c_9]; rfl) (by decide) ?_
                refine lv_aload_n hx hb dX2_tell_98 rfl (lv_at hl 0 rfl) ?_
                refine x_getP C w (i := b0) (k := 5) k0 (by decide) mf_Person_28 dX2_tell_99 ?_
                exact x_iret C w h dX2_tell_102
              · by_cases c_10 : a1.toInt = 6
                · have h := h.2.2.2.2.2.2.2.1 c_10
                  refine lv_tableIn (off := 102) (tgt := 103) hx hb dX2_tell_1 (by omega) (by omega) (by rw [c_10]; rfl) (by decide) ?_
                  refine lv_aload_n hx hb dX2_tell_103 rfl (lv_at hl 0 rfl) ?_
                  refine x_getP C w (i := b0) (k := 6) k0 (by decide) mf_Person_31 dX2_tell_104 ?_
                  exact x_iret C w h dX2_tell_107
                · by_cases c_14 : a1.toInt = 7
                  · have h := h.2.2.2.2.2.2.2.2.1 c_14
                    refine lv_tableIn (off := 107) (tgt := 108) hx hb dX2_tell_1 (by omega) (by omega) (by rw [c_14]; rfl) (by decide) ?_
                    refine lv_aload_n hx hb dX2_tell_108 rfl (lv_at hl 0 rfl) ?_
                    refine x_calli C w (x_runV (i := b0) (As := []) (rest := []) C w k0 (by decide) (ci := 2) rfl rfl rfl me_X2_isOnWay ml_Person_43 (c_X2_isOnWay l g ad μ _ b0 k0 h) ⟨rfl, rfl⟩ ⟨Nat.le_of_ble_eq_true rfl, Nat.le_of_ble_eq_true rfl⟩ rfl hl.1 rfl (Nat.le_of_ble_eq_true rfl) dX2_tell_109 ⟨Nat.le_of_ble_eq_true rfl, Nat.le_of_ble_eq_true rfl⟩) (fun r_12 m_11 h H locs w => ?_)
                    refine lv_if_eq (tgt := 120) hx hb dX2_tell_112 (by decide) (fun c_13 => ?_) (fun c_13 => ?_)
                    · have h := h.1 c_13
                      refine lv_aload_n hx hb dX2_tell_120 rfl (lv_at hl 0 rfl) ?_
                      refine x_getP C w (i := b0) (k := 7) k0 (by decide) mf_Person_34 dX2_tell_121 ?_
                      exact x_iret C w h dX2_tell_124
                    · have h := h.2 c_13
                      refine lv_bipush (v := -6) hx hb dX2_tell_115 (by decide) ?_
                      refine lv_goto (tgt := 124) hx hb dX2_tell_117 (by decide) ?_
                      exact x_iret C w h dX2_tell_124
                  · have c_15 : a1.toInt = 8 := by omega
                    have h := h.2.2.2.2.2.2.2.2.2 c_15
                    refine lv_tableIn (off := 124) (tgt := 125) hx hb dX2_tell_1 (by omega) (by omega) (by rw [c_15]; rfl) (by decide) ?_
                    refine lv_aload_n hx hb dX2_tell_125 rfl (lv_at hl 0 rfl) ?_
                    refine x_getP C w (i := b0) (k := 8) k0 (by decide) mf_Person_37 dX2_tell_126 ?_
                    exact x_iret C w h dX2_tell_129
abbrev rm_J6_bitCount_0f7a4 : Room := { frames := 0, cells := 0, slots := 0, locals := 0 }
noncomputable def wp_J6_bitCount_0f7a4 (a0 : Int32) (μ : Mem) (K : Int32 → Mem → Prop) : Prop :=
    K ((((((((a0 - ((isr a0 1) &&& 1431655765)) &&& 858993459) + ((isr (a0 - ((isr a0 1) &&& 1431655765)) 2) &&& 858993459)) + (isr (((a0 - ((isr a0 1) &&& 1431655765)) &&& 858993459) + ((isr (a0 - ((isr a0 1) &&& 1431655765)) 2) &&& 858993459)) 4)) &&& 252645135) + (isr (((((a0 - ((isr a0 1) &&& 1431655765)) &&& 858993459) + ((isr (a0 - ((isr a0 1) &&& 1431655765)) 2) &&& 858993459)) + (isr (((a0 - ((isr a0 1) &&& 1431655765)) &&& 858993459) + ((isr (a0 - ((isr a0 1) &&& 1431655765)) 2) &&& 858993459)) 4)) &&& 252645135) 8)) + (isr ((((((a0 - ((isr a0 1) &&& 1431655765)) &&& 858993459) + ((isr (a0 - ((isr a0 1) &&& 1431655765)) 2) &&& 858993459)) + (isr (((a0 - ((isr a0 1) &&& 1431655765)) &&& 858993459) + ((isr (a0 - ((isr a0 1) &&& 1431655765)) 2) &&& 858993459)) 4)) &&& 252645135) + (isr (((((a0 - ((isr a0 1) &&& 1431655765)) &&& 858993459) + ((isr (a0 - ((isr a0 1) &&& 1431655765)) 2) &&& 858993459)) + (isr (((a0 - ((isr a0 1) &&& 1431655765)) &&& 858993459) + ((isr (a0 - ((isr a0 1) &&& 1431655765)) 2) &&& 858993459)) 4)) &&& 252645135) 8)) 16)) &&& 63) μ
set_option maxHeartbeats 4000000 in
set_option maxRecDepth 100000 in
theorem c_J6_bitCount_0f7a4 (l : Launch) (g : Gv) (ad : Nat → Nat) (μ : Mem) (sz : Nat) (a0 : Int32) {K : Int32 → Mem → Prop} (h : wp_J6_bitCount_0f7a4 a0 μ K) : Met l yJ6_bitCount_0f7a4 (wX yJ6_bitCount_0f7a4 cJ6_bitCount_0f7a4 1 (some .int)) rm_J6_bitCount_0f7a4 (Pre g ad μ sz [.int a0]) (PostI g ad sz K) 0 0 (Aw ad sz) := by
  refine va_MetF (cc := cJ6_bitCount_0f7a4) (maxL := 1) (ret := (some .int)) (by decide +kernel) rfl ?_
  intro p e s m args below meth c s₁ B hml hv
  obtain ⟨rfl, rfl, C, w⟩ := x_start B hml hv
  obtain ⟨hx, hb, hml, -, hts, hown, -, -, hN⟩ := id C
  have hl := lv_entry ([.int a0]) (n := 1) (Nat.le_of_ble_eq_true rfl)
  rw [lg_entry_eq]
  generalize (lg_sl ([.int a0]) ++ List.replicate (1 - (lg_sl ([.int a0])).length) Slot.unset).toArray = ls at hl ⊢
  have hl : lv_has ls 1 [(0, .int a0)] := hl
  show W p l e rm_J6_bitCount_0f7a4 s m _ below meth c s.heap [] 0 0 _ _
  unfold wp_J6_bitCount_0f7a4 at h
  refine lv_iload_n hx hb dJ6_bitCount_0f7a4_0 rfl (lv_at hl 0 rfl) ?_
  refine lv_iload_n hx hb dJ6_bitCount_0f7a4_1 rfl (lv_at hl 0 rfl) ?_
  refine lv_iconst (v := 1) hx hb dJ6_bitCount_0f7a4_2 (by decide) ?_
  refine lv_iushr (v := (isr a0 1)) hx hb dJ6_bitCount_0f7a4_3 rfl ?_
  refine lv_ldcw (v := 1431655765) hx hb hown (hts _ mk_Integer_265) dJ6_bitCount_0f7a4_4 ?_
  refine lv_iand hx hb dJ6_bitCount_0f7a4_7 ?_
  refine lv_isub hx hb dJ6_bitCount_0f7a4_8 ?_
  refine lv_istore_n (lv' := [(0, .int (a0 - ((isr a0 1) &&& 1431655765)))]) hx hb dJ6_bitCount_0f7a4_9 rfl hl (by decide) rfl (fun ls hl => ?_)
  refine lv_iload_n hx hb dJ6_bitCount_0f7a4_10 rfl (lv_at hl 0 rfl) ?_
  refine lv_ldcw (v := 858993459) hx hb hown (hts _ mk_Integer_266) dJ6_bitCount_0f7a4_11 ?_
  refine lv_iand hx hb dJ6_bitCount_0f7a4_14 ?_
  refine lv_iload_n hx hb dJ6_bitCount_0f7a4_15 rfl (lv_at hl 0 rfl) ?_
  refine lv_iconst (v := 2) hx hb dJ6_bitCount_0f7a4_16 (by decide) ?_
  refine lv_iushr (v := (isr (a0 - ((isr a0 1) &&& 1431655765)) 2)) hx hb dJ6_bitCount_0f7a4_17 rfl ?_
  refine lv_ldcw (v := 858993459) hx hb hown (hts _ mk_Integer_266) dJ6_bitCount_0f7a4_18 ?_
  refine lv_iand hx hb dJ6_bitCount_0f7a4_21 ?_
  refine lv_iadd hx hb dJ6_bitCount_0f7a4_22 ?_
  refine lv_istore_n (lv' := [(0, .int (((a0 - ((isr a0 1) &&& 1431655765)) &&& 858993459) + ((isr (a0 - ((isr a0 1) &&& 1431655765)) 2) &&& 858993459)))]) hx hb dJ6_bitCount_0f7a4_23 rfl hl (by decide) rfl (fun ls hl => ?_)
  refine lv_iload_n hx hb dJ6_bitCount_0f7a4_24 rfl (lv_at hl 0 rfl) ?_
  refine lv_iload_n hx hb dJ6_bitCount_0f7a4_25 rfl (lv_at hl 0 rfl) ?_
  refine lv_iconst (v := 4) hx hb dJ6_bitCount_0f7a4_26 (by decide) ?_
  refine lv_iushr (v := (isr (((a0 - ((isr a0 1) &&& 1431655765)) &&& 858993459) + ((isr (a0 - ((isr a0 1) &&& 1431655765)) 2) &&& 858993459)) 4)) hx hb dJ6_bitCount_0f7a4_27 rfl ?_
  refine lv_iadd hx hb dJ6_bitCount_0f7a4_28 ?_
  refine lv_ldcw (v := 252645135) hx hb hown (hts _ mk_Integer_267) dJ6_bitCount_0f7a4_29 ?_
  refine lv_iand hx hb dJ6_bitCount_0f7a4_32 ?_
  refine lv_istore_n (lv' := [(0, .int (((((a0 - ((isr a0 1) &&& 1431655765)) &&& 858993459) + ((isr (a0 - ((isr a0 1) &&& 1431655765)) 2) &&& 858993459)) + (isr (((a0 - ((isr a0 1) &&& 1431655765)) &&& 858993459) + ((isr (a0 - ((isr a0 1) &&& 1431655765)) 2) &&& 858993459)) 4)) &&& 252645135))]) hx hb dJ6_bitCount_0f7a4_33 rfl hl (by decide) rfl (fun ls hl => ?_)
  refine lv_iload_n hx hb dJ6_bitCount_0f7a4_34 rfl (lv_at hl 0 rfl) ?_
  refine lv_iload_n hx hb dJ6_bitCount_0f7a4_35 rfl (lv_at hl 0 rfl) ?_
  refine lv_bipush (v := 8) hx hb dJ6_bitCount_0f7a4_36 (by decide) ?_
  refine lv_iushr (v := (isr (((((a0 - ((isr a0 1) &&& 1431655765)) &&& 858993459) + ((isr (a0 - ((isr a0 1) &&& 1431655765)) 2) &&& 858993459)) + (isr (((a0 - ((isr a0 1) &&& 1431655765)) &&& 858993459) + ((isr (a0 - ((isr a0 1) &&& 1431655765)) 2) &&& 858993459)) 4)) &&& 252645135) 8)) hx hb dJ6_bitCount_0f7a4_38 rfl ?_
  refine lv_iadd hx hb dJ6_bitCount_0f7a4_39 ?_
  refine lv_istore_n (lv' := [(0, .int ((((((a0 - ((isr a0 1) &&& 1431655765)) &&& 858993459) + ((isr (a0 - ((isr a0 1) &&& 1431655765)) 2) &&& 858993459)) + (isr (((a0 - ((isr a0 1) &&& 1431655765)) &&& 858993459) + ((isr (a0 - ((isr a0 1) &&& 1431655765)) 2) &&& 858993459)) 4)) &&& 252645135) + (isr (((((a0 - ((isr a0 1) &&& 1431655765)) &&& 858993459) + ((isr (a0 - ((isr a0 1) &&& 1431655765)) 2) &&& 858993459)) + (isr (((a0 - ((isr a0 1) &&& 1431655765)) &&& 858993459) + ((isr (a0 - ((isr a0 1) &&& 1431655765)) 2) &&& 858993459)) 4)) &&& 252645135) 8)))]) hx hb dJ6_bitCount_0f7a4_40 rfl hl (by decide) rfl (fun ls hl => ?_)
  refine lv_iload_n hx hb dJ6_bitCount_0f7a4_41 rfl (lv_at hl 0 rfl) ?_
  refine lv_iload_n hx hb dJ6_bitCount_0f7a4_42 rfl (lv_at hl 0 rfl) ?_
  refine lv_bipush (v := 16) hx hb dJ6_bitCount_0f7a4_43 (by decide) ?_
  refine lv_iushr (v := (isr ((((((a0 - ((isr a0 1) &&& 1431655765)) &&& 858993459) + ((isr (a0 - ((isr a0 1) &&& 1431655765)) 2) &&& 858993459)) + (isr (((a0 - ((isr a0 1) &&& 1431655765)) &&& 858993459) + ((isr (a0 - ((isr a0 1) &&& 1431655765)) 2) &&& 858993459)) 4)) &&& 252645135) + (isr (((((a0 - ((isr a0 1) &&& 1431655765)) &&& 858993459) + ((isr (a0 - ((isr a0 1) &&& 1431655765)) 2) &&& 858993459)) + (isr (((a0 - ((isr a0 1) &&& 1431655765)) &&& 858993459) + ((isr (a0 - ((isr a0 1) &&& 1431655765)) 2) &&& 858993459)) 4)) &&& 252645135) 8)) 16)) hx hb dJ6_bitCount_0f7a4_45 rfl ?_
  refine lv_iadd hx hb dJ6_bitCount_0f7a4_46 ?_
  refine lv_istore_n (lv' := [(0, .int (((((((a0 - ((isr a0 1) &&& 1431655765)) &&& 858993459) + ((isr (a0 - ((isr a0 1) &&& 1431655765)) 2) &&& 858993459)) + (isr (((a0 - ((isr a0 1) &&& 1431655765)) &&& 858993459) + ((isr (a0 - ((isr a0 1) &&& 1431655765)) 2) &&& 858993459)) 4)) &&& 252645135) + (isr (((((a0 - ((isr a0 1) &&& 1431655765)) &&& 858993459) + ((isr (a0 - ((isr a0 1) &&& 1431655765)) 2) &&& 858993459)) + (isr (((a0 - ((isr a0 1) &&& 1431655765)) &&& 858993459) + ((isr (a0 - ((isr a0 1) &&& 1431655765)) 2) &&& 858993459)) 4)) &&& 252645135) 8)) + (isr ((((((a0 - ((isr a0 1) &&& 1431655765)) &&& 858993459) + ((isr (a0 - ((isr a0 1) &&& 1431655765)) 2) &&& 858993459)) + (isr (((a0 - ((isr a0 1) &&& 1431655765)) &&& 858993459) + ((isr (a0 - ((isr a0 1) &&& 1431655765)) 2) &&& 858993459)) 4)) &&& 252645135) + (isr (((((a0 - ((isr a0 1) &&& 1431655765)) &&& 858993459) + ((isr (a0 - ((isr a0 1) &&& 1431655765)) 2) &&& 858993459)) + (isr (((a0 - ((isr a0 1) &&& 1431655765)) &&& 858993459) + ((isr (a0 - ((isr a0 1) &&& 1431655765)) 2) &&& 858993459)) 4)) &&& 252645135) 8)) 16)))]) hx hb dJ6_bitCount_0f7a4_47 rfl hl (by decide) rfl (fun ls hl => ?_)
  refine lv_iload_n hx hb dJ6_bitCount_0f7a4_48 rfl (lv_at hl 0 rfl) ?_
  refine lv_bipush (v := 63) hx hb dJ6_bitCount_0f7a4_49 (by decide) ?_
  refine lv_iand hx hb dJ6_bitCount_0f7a4_51 ?_
  exact x_iret C w h dJ6_bitCount_0f7a4_52
end

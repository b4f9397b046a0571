/-! a method of the law, by program: condition and contract -/
abbrev rm_L_isStep : Room := { frames := 8, cells := 0, slots := 0, locals := 174 }
noncomputable def wp_L_isStep_B788 (v5 : Int32) (v6 : Int32) (s0 : Int64) (K : Int32 → Mem → Mem → Prop) (μ : Mem) (μ2 : Mem) : Prop :=
    (wp_X4_put s0 μ2 (fun r_22 m_23 => ((¬ r_22 = 1 → K 0 μ m_23) ∧ (r_22 = 1 → (wp_X4_put (Int32.toInt64 (48 + v6)) m_23 (fun r_25 m_26 => ((¬ r_25 = 2 → K 0 μ m_26) ∧ (r_25 = 2 → (wp_X4_read m_26 (fun r_28 m_29 => ((¬ r_28 = (v5 + 1) → K 0 μ m_29) ∧ (r_28 = (v5 + 1) → (wp_X4_person v5 2 μ (fun r_31 m_32 => ((¬ r_31 = 0 → K 0 m_32 m_29) ∧ (r_31 = 0 → (wp_X4_person v5 0 m_32 (fun r_34 m_35 => ((¬ r_34 = v6 → K 0 m_35 m_29) ∧ (r_34 = v6 → K 1 m_35 m_29))))))))))))))))))))
noncomputable def wp_L_isStep_B714 (v5 : Int32) (v6 : Int32) (s0 : Int32) (K : Int32 → Mem → Mem → Prop) (μ : Mem) (μ2 : Mem) : Prop :=
    (wp_X4_come v6 s0 μ (fun r_14 m_15 => ((¬ v5 = 24 → ((¬ r_14 = v5 → K 0 m_15 μ2) ∧ (r_14 = v5 → (wp_X4_wipe μ2 (fun r_18 m_19 => ((r_18 < 0 → K 0 m_15 m_19) ∧ (¬ r_18 < 0 → ((s0 = 0 → wp_L_isStep_B788 v5 v6 100 K m_15 m_19) ∧ (¬ s0 = 0 → wp_L_isStep_B788 v5 v6 117 K m_15 m_19))))))))) ∧ (v5 = 24 → ((¬ r_14 = (-4) → K 0 m_15 μ2) ∧ (r_14 = (-4) → (wp_X4_come v6 s0 μ2 (fun r_38 m_39 => ((¬ r_38 = r_14 → K 0 m_15 m_39) ∧ (r_38 = r_14 → K 1 m_15 m_39))))))))))
noncomputable def wp_L_isStep_L152 (v6 : Int32) (v7 : Int32) (v8 : Int32) (v9 : Int32) (K : Int32 → Mem → Mem → Prop) (n : Nat) : Int32 → Int32 → Mem → Mem → Prop :=
  Nat.rec (motive := fun _ => Int32 → Int32 → Mem → Mem → Prop) (fun _ _ _ _ => False) (fun _ ih v10 v11 μ μ2 =>
    ((12 ≤ v11 → (wp_X4_set v8 v7 μ (fun r_59 m_60 => (wp_X4_set v8 v7 μ2 (fun r_61 m_62 => ((¬ r_59 = r_61 → K 0 m_60 m_62) ∧ (r_59 = r_61 → ((v6 = 0 → ((¬ r_59 = v9 → K 0 m_60 m_62) ∧ (r_59 = v9 → K 1 m_60 m_62))) ∧ (¬ v6 = 0 → ((v10 = 0 → ((¬ r_59 = v9 → K 0 m_60 m_62) ∧ (r_59 = v9 → K 1 m_60 m_62))) ∧ (¬ v10 = 0 → ((¬ r_59 = (-5) → K 0 m_60 m_62) ∧ (r_59 = (-5) → K 1 m_60 m_62))))))))))))) ∧ (¬ 12 ≤ v11 → ((¬ v10 = 0 → ih 1 (v11 + 1) μ μ2) ∧ (v10 = 0 → (wp_X4_step v11 0 μ (fun r_70 m_71 => ((¬ r_70 = 1 → ih 0 (v11 + 1) m_71 μ2) ∧ (r_70 = 1 → (wp_X4_step v11 1 m_71 (fun r_73 m_74 => ((r_73 ≤ v7 → ih 0 (v11 + 1) m_74 μ2) ∧ (¬ r_73 ≤ v7 → ih 1 (v11 + 1) m_74 μ2))))))))))))) n
theorem wp_L_isStep_L152_s (v6 : Int32) (v7 : Int32) (v8 : Int32) (v9 : Int32) (K : Int32 → Mem → Mem → Prop) (n : Nat) (v10 : Int32) (v11 : Int32) (μ : Mem) (μ2 : Mem) : wp_L_isStep_L152 v6 v7 v8 v9 K (n + 1) v10 v11 μ μ2 = (
    let ih := wp_L_isStep_L152 v6 v7 v8 v9 K n
    ((12 ≤ v11 → (wp_X4_set v8 v7 μ (fun r_59 m_60 => (wp_X4_set v8 v7 μ2 (fun r_61 m_62 => ((¬ r_59 = r_61 → K 0 m_60 m_62) ∧ (r_59 = r_61 → ((v6 = 0 → ((¬ r_59 = v9 → K 0 m_60 m_62) ∧ (r_59 = v9 → K 1 m_60 m_62))) ∧ (¬ v6 = 0 → ((v10 = 0 → ((¬ r_59 = v9 → K 0 m_60 m_62) ∧ (r_59 = v9 → K 1 m_60 m_62))) ∧ (¬ v10 = 0 → ((¬ r_59 = (-5) → K 0 m_60 m_62) ∧ (r_59 = (-5) → K 1 m_60 m_62))))))))))))) ∧ (¬ 12 ≤ v11 → ((¬ v10 = 0 → ih 1 (v11 + 1) μ μ2) ∧ (v10 = 0 → (wp_X4_step v11 0 μ (fun r_70 m_71 => ((¬ r_70 = 1 → ih 0 (v11 + 1) m_71 μ2) ∧ (r_70 = 1 → (wp_X4_step v11 1 m_71 (fun r_73 m_74 => ((r_73 ≤ v7 → ih 0 (v11 + 1) m_74 μ2) ∧ (¬ r_73 ≤ v7 → ih 1 (v11 + 1) m_74 μ2))))))))))))) := rfl
noncomputable def wp_L_isStep_B124 (v6 : Int32) (s0 : Int32) (K : Int32 → Mem → Mem → Prop) (μ : Mem) (μ2 : Mem) : Prop :=
    ((v6 = 0 → (wp_X4_count 2 μ (fun r_56 m_57 => (∃ n, wp_L_isStep_L152 v6 s0 2 r_56 K n 0 0 m_57 μ2)))) ∧ (¬ v6 = 0 → (wp_X4_count 0 μ (fun r_77 m_78 => (∃ n, wp_L_isStep_L152 v6 s0 0 r_77 K n 0 0 m_78 μ2)))))
noncomputable def wp_L_isStep_B86 (v3 : Int32) (v4 : Int32) (s0 : Int32) (K : Int32 → Mem → Mem → Prop) (μ : Mem) (μ2 : Mem) : Prop :=
    ((s0 = 0 → (wp_L_up (v4 >>> (3 &&& 31)) 2 μ (fun r_50 m_51 => ((¬ r_50 = 0 → (wp_L_up v3 3 m_51 (fun r_53 m_54 => wp_L_isStep_B124 s0 r_53 K m_54 μ2))) ∧ (r_50 = 0 → (wp_L_up v3 10 m_51 (fun r_80 m_81 => wp_L_isStep_B124 s0 r_80 K m_81 μ2))))))) ∧ (¬ s0 = 0 → (wp_L_up v3 4 μ (fun r_82 m_83 => wp_L_isStep_B124 s0 (1 + r_82) K m_83 μ2))))
noncomputable def wp_L_isStep_B347 (v6 : Int32) (v7 : Int32) (v8 : Int32) (s0 : Int32) (K : Int32 → Mem → Mem → Prop) (μ : Mem) (μ2 : Mem) : Prop :=
    ((¬ s0 = v8 → K 0 μ μ2) ∧ (s0 = v8 → ((v8 = 0 → K 1 μ μ2) ∧ (¬ v8 = 0 → (wp_X4_step v6 0 μ (fun r_102 m_103 => ((¬ r_102 = 1 → ((¬ (0 : Int32) = v7 → K 0 m_103 μ2) ∧ ((0 : Int32) = v7 → K 1 m_103 μ2))) ∧ (r_102 = 1 → ((¬ (1 : Int32) = v7 → K 0 m_103 μ2) ∧ ((1 : Int32) = v7 → K 1 m_103 μ2))))))))))
noncomputable def wp_L_isStep_B312 (v6 : Int32) (v7 : Int32) (s0 : Int32) (K : Int32 → Mem → Mem → Prop) (μ : Mem) (μ2 : Mem) : Prop :=
    (wp_X4_landing v6 v7 μ (fun r_94 m_95 => (wp_X4_landing v6 v7 μ2 (fun r_96 m_97 => ((¬ r_94 = r_96 → K 0 m_95 m_97) ∧ (r_94 = r_96 → ((r_94 < 0 → wp_L_isStep_B347 v6 v7 s0 0 K m_95 m_97) ∧ (¬ r_94 < 0 → wp_L_isStep_B347 v6 v7 s0 1 K m_95 m_97))))))))
noncomputable def wp_L_isStep_B291 (v6 : Int32) (v7 : Int32) (s0 : Int32) (K : Int32 → Mem → Mem → Prop) (μ : Mem) (μ2 : Mem) : Prop :=
    ((s0 = v7 → wp_L_isStep_B312 v6 v7 0 K μ μ2) ∧ (¬ s0 = v7 → (wp_X4_step v6 1 μ (fun r_107 m_108 => ((2 ≤ r_107 → wp_L_isStep_B312 v6 v7 0 K m_108 μ2) ∧ (¬ 2 ≤ r_107 → wp_L_isStep_B312 v6 v7 1 K m_108 μ2))))))
noncomputable def wp_L_isStep_L609 (v6 : Int32) (v7 : Int32) (v8 : Int32) (K : Int32 → Mem → Mem → Prop) (n : Nat) : Int32 → Int32 → Mem → Mem → Prop :=
  Nat.rec (motive := fun _ => Int32 → Int32 → Mem → Mem → Prop) (fun _ _ _ _ => False) (fun _ ih v9 v10 μ μ2 =>
    ((v6 ≤ v10 → (wp_X4_pass v6 μ (fun r_172 m_173 => ((¬ r_172 = v9 → K 0 m_173 μ2) ∧ (r_172 = v9 → (wp_X4_count 3 m_173 (fun r_175 m_176 => ((¬ r_175 = (v7 + v6) → K 0 m_176 μ2) ∧ (r_175 = (v7 + v6) → (wp_X4_count 7 m_176 (fun r_178 m_179 => ((¬ r_178 = (v8 + v9) → K 0 m_179 μ2) ∧ (r_178 = (v8 + v9) → K 1 m_179 μ2))))))))))))) ∧ (¬ v6 ≤ v10 → (wp_X4_pass 1 μ2 (fun r_181 m_182 => ih (v9 + r_181) (v10 + 1) μ m_182))))) n
theorem wp_L_isStep_L609_s (v6 : Int32) (v7 : Int32) (v8 : Int32) (K : Int32 → Mem → Mem → Prop) (n : Nat) (v9 : Int32) (v10 : Int32) (μ : Mem) (μ2 : Mem) : wp_L_isStep_L609 v6 v7 v8 K (n + 1) v9 v10 μ μ2 = (
    let ih := wp_L_isStep_L609 v6 v7 v8 K n
    ((v6 ≤ v10 → (wp_X4_pass v6 μ (fun r_172 m_173 => ((¬ r_172 = v9 → K 0 m_173 μ2) ∧ (r_172 = v9 → (wp_X4_count 3 m_173 (fun r_175 m_176 => ((¬ r_175 = (v7 + v6) → K 0 m_176 μ2) ∧ (r_175 = (v7 + v6) → (wp_X4_count 7 m_176 (fun r_178 m_179 => ((¬ r_178 = (v8 + v9) → K 0 m_179 μ2) ∧ (r_178 = (v8 + v9) → K 1 m_179 μ2))))))))))))) ∧ (¬ v6 ≤ v10 → (wp_X4_pass 1 μ2 (fun r_181 m_182 => ih (v9 + r_181) (v10 + 1) μ m_182))))) := rfl
noncomputable def wp_L_isStep_B582 (s0 : Int32) (s1 : Int32) (s2 : Int32) (K : Int32 → Mem → Mem → Prop) (μ : Mem) (μ2 : Mem) : Prop :=
    (wp_L_up s1 s0 μ (fun r_165 m_166 => (wp_X4_count 3 m_166 (fun r_167 m_168 => (wp_X4_count 7 m_168 (fun r_169 m_170 => (∃ n, wp_L_isStep_L609 (s2 + r_165) r_167 r_169 K n 0 0 m_170 μ2)))))))
noncomputable def wp_L_isStep (a2 : Int32) (a3 : Int32) (μ μ2 : Mem) (K : Int32 → Mem → Mem → Prop) : Prop :=
    (wp_X4_count 4 μ (fun r_1 m_2 => (wp_L_up a2 16 m_2 (fun r_3 m_4 => (((r_3.toInt < 0 ∨ 9 < r_3.toInt) → (wp_L_up (a2 >>> (4 &&& 31)) 2 m_4 (fun r_6 m_7 => ((¬ r_6 = 0 → (wp_L_up a3 3 m_7 (fun r_9 m_10 => (wp_L_up (a3 >>> (4 &&& 31)) 2 m_10 (fun r_11 m_12 => ((¬ r_11 = 0 → wp_L_isStep_B714 r_1 (1 + r_9) 0 K m_12 μ2) ∧ (r_11 = 0 → wp_L_isStep_B714 r_1 (1 + r_9) 1 K m_12 μ2))))))) ∧ (r_6 = 0 → (wp_L_up a3 9 m_7 (fun r_41 m_42 => (wp_L_up (a3 >>> (4 &&& 31)) 2 m_42 (fun r_43 m_44 => ((¬ r_43 = 0 → wp_L_isStep_B714 r_1 (1 + r_41) 0 K m_44 μ2) ∧ (r_43 = 0 → wp_L_isStep_B714 r_1 (1 + r_41) 1 K m_44 μ2))))))))))) ∧ (r_3.toInt = 0 → (wp_L_up (a2 >>> (4 &&& 31)) 2 m_4 (fun r_46 m_47 => ((¬ r_46 = 0 → wp_L_isStep_B86 a3 (a2 >>> (4 &&& 31)) 0 K m_47 μ2) ∧ (r_46 = 0 → wp_L_isStep_B86 a3 (a2 >>> (4 &&& 31)) 1 K m_47 μ2))))) ∧ (r_3.toInt = 1 → (wp_L_up (a2 >>> (4 &&& 31)) 12 m_4 (fun r_85 m_86 => (wp_L_up a3 2 m_86 (fun r_87 m_88 => ((¬ r_87 = 0 → (wp_X4_step r_85 0 m_88 (fun r_90 m_91 => ((¬ r_90 = 1 → wp_L_isStep_B291 r_85 0 0 K m_91 μ2) ∧ (r_90 = 1 → wp_L_isStep_B291 r_85 0 1 K m_91 μ2))))) ∧ (r_87 = 0 → (wp_X4_step r_85 0 m_88 (fun r_110 m_111 => ((¬ r_110 = 1 → wp_L_isStep_B291 r_85 1 0 K m_111 μ2) ∧ (r_110 = 1 → wp_L_isStep_B291 r_85 1 1 K m_111 μ2))))))))))) ∧ (r_3.toInt = 2 → (wp_L_up (a2 >>> (4 &&& 31)) (r_1 + 1) m_4 (fun r_114 m_115 => (wp_X4_person r_114 1 m_115 (fun r_116 m_117 => (wp_X4_person r_114 2 m_117 (fun r_118 m_119 => (wp_X4_turn r_114 m_119 (fun r_120 m_121 => (wp_X4_turn r_114 μ2 (fun r_122 m_123 => ((¬ r_120 = r_122 → K 0 m_121 m_123) ∧ (r_120 = r_122 → ((¬ r_114 = r_1 → ((r_118 = 1 → ((¬ r_120 = (1 - r_116) → K 0 m_121 m_123) ∧ (r_120 = (1 - r_116) → K 1 m_121 m_123))) ∧ (¬ r_118 = 1 → ((¬ r_120 = (-5) → K 0 m_121 m_123) ∧ (r_120 = (-5) → K 1 m_121 m_123))))) ∧ (r_114 = r_1 → ((¬ r_120 = (-1) → K 0 m_121 m_123) ∧ (r_120 = (-1) → K 1 m_121 m_123))))))))))))))))) ∧ (r_3.toInt = 3 → (wp_X4_count 14 m_4 (fun r_131 m_132 => ((r_131 = 0 → K 1 m_132 μ2) ∧ (¬ r_131 = 0 → (wp_X4_untilEmpty m_132 (fun r_134 m_135 => (wp_X4_untilEmpty μ2 (fun r_136 m_137 => ((¬ r_134 = r_136 → K 0 m_135 m_137) ∧ (r_134 = r_136 → K 1 m_135 m_137))))))))))) ∧ (r_3.toInt = 4 → (wp_L_up a3 2 m_4 (fun r_140 m_141 => ((¬ r_140 = 0 → (wp_L_up (a2 >>> (4 &&& 31)) 2 m_141 (fun r_143 m_144 => (wp_X4_restore r_143 m_144 (fun r_145 m_146 => (wp_L_up (a2 >>> (4 &&& 31)) 2 m_146 (fun r_147 m_148 => (wp_X4_restore r_147 μ2 (fun r_149 m_150 => ((¬ r_145 = r_149 → K 0 m_148 m_150) ∧ (r_145 = r_149 → K 1 m_148 m_150))))))))))) ∧ (r_140 = 0 → (wp_L_up (a2 >>> (4 &&& 31)) 2 m_141 (fun r_152 m_153 => (wp_X4_save r_152 m_153 (fun r_154 m_155 => (wp_L_up (a2 >>> (4 &&& 31)) 2 m_155 (fun r_156 m_157 => (wp_X4_save r_156 μ2 (fun r_158 m_159 => ((¬ r_154 = r_158 → K 0 m_157 m_159) ∧ (r_154 = r_158 → K 1 m_157 m_159))))))))))))))) ∧ (r_3.toInt = 5 → (wp_L_up (a2 >>> (4 &&& 31)) 8 m_4 (fun r_162 m_163 => ((¬ r_162 = 0 → wp_L_isStep_B582 6 a3 1 K m_163 μ2) ∧ (r_162 = 0 → wp_L_isStep_B582 99 a3 1 K m_163 μ2))))) ∧ (r_3.toInt = 6 → (wp_L_up (a2 >>> (4 &&& 31)) 8 m_4 (fun r_185 m_186 => ((¬ r_185 = 0 → wp_L_isStep_B582 6 a3 1 K m_186 μ2) ∧ (r_185 = 0 → wp_L_isStep_B582 99 a3 1 K m_186 μ2))))) ∧ (r_3.toInt = 7 → (wp_L_up (a2 >>> (4 &&& 31)) 8 m_4 (fun r_189 m_190 => ((¬ r_189 = 0 → wp_L_isStep_B582 6 a3 1 K m_190 μ2) ∧ (r_189 = 0 → wp_L_isStep_B582 99 a3 1 K m_190 μ2))))) ∧ (r_3.toInt = 8 → (wp_L_up (a2 >>> (4 &&& 31)) 8 m_4 (fun r_193 m_194 => ((¬ r_193 = 0 → wp_L_isStep_B582 6 a3 1 K m_194 μ2) ∧ (r_193 = 0 → wp_L_isStep_B582 99 a3 1 K m_194 μ2))))) ∧ (r_3.toInt = 9 → (wp_L_up (a2 >>> (4 &&& 31)) 8 m_4 (fun r_197 m_198 => ((¬ r_197 = 0 → wp_L_isStep_B582 6 a3 1 K m_198 μ2) ∧ (r_197 = 0 → wp_L_isStep_B582 99 a3 1 K m_198 μ2))))))))))
set_option maxHeartbeats 4000000 in
set_option maxRecDepth 100000 in
theorem t_L_isStep_B788 {g : Gv} {ad ad2 : Nat → Nat} {l : Launch} {p : Program} {e : Env} {s : State} {m : MethodId} {args : Array Value} {below : List Frame} {meth : Method} {c : Code} (C : Cx g p s m args meth c "StairBowsLaw" cL_isStep 12 (some .boolean)) {v5 : Int32} {v6 : Int32} {s0 : Int64}  {K : Int32 → Mem → Mem → Prop}   (μ : Mem) (μ2 : Mem) (H : Heap) (locs : List Loc) (ls : Array Slot) (h : wp_L_isStep_B788 v5 v6 s0 K μ μ2) (w : Wd2 g ad μ ad2 μ2 (Aw2 ad ad2 s.heap.size) s H locs) (hl : lv_has ls 12 [(0, .ref (ad 0)), (1, .ref (ad2 0)), (5, .int v5), (6, .int v6)]) : W p l e rm_L_isStep s m args below meth c H locs 0 0 (MQ below (Post2 g ad ad2 s.heap.size K) args s 0 0 (Aw2 ad ad2 s.heap.size)) (F0 m 788 ls [.long s0, .ref (ad2 0)]) := by
  obtain ⟨hx, hb, hml, -, hts, hown, -, -, hN⟩ := id C
  unfold wp_L_isStep_B788 at h
  refine x2_callip C w (x_runV (ad := ad2) (i := 0) (As := [.long s0]) (rest := []) C w.2.1 (rfl : kd 0 = 0) (by decide) (ci := 4) rfl rfl rfl me_X4_put ml_StairBowsLaw_60 (c_X4_put l g ad2 μ2 _ s0 h) ⟨rfl, rfl⟩ ⟨Nat.le_of_ble_eq_true rfl, Nat.le_of_ble_eq_true rfl⟩ rfl hl.1 rfl (Nat.le_of_ble_eq_true rfl) dL_isStep_788 ⟨Nat.le_of_ble_eq_true rfl, Nat.le_of_ble_eq_true rfl⟩) (fun r_22 m_23 h H locs w => ?_)
  refine lv_iconst (v := 1) hx hb dL_isStep_791 (by decide) ?_
  refine lv_icmp_ne (tgt := 846) hx hb dL_isStep_792 (by decide) (fun c_24 => ?_) (fun c_24 => ?_)
  · have h := h.1 c_24
    refine lv_iconst (v := 0) hx hb dL_isStep_846 (by decide) ?_
    exact x2_zret C w (show bz 0 from Or.inl rfl) h dL_isStep_847
  · have h := h.2 c_24
    refine lv_aload_n hx hb dL_isStep_795 rfl (lv_at hl 1 rfl) ?_
    refine lv_bipush (v := 48) hx hb dL_isStep_796 (by decide) ?_
    refine lv_iload hx hb dL_isStep_798 (lv_at hl 3 rfl) ?_
    refine lv_iadd hx hb dL_isStep_800 ?_
    refine lv_i2l (v := (Int32.toInt64 (48 + v6))) hx hb dL_isStep_801 rfl ?_
    refine x2_callip C w (x_runV (ad := ad2) (i := 0) (As := [.long (Int32.toInt64 (48 + v6))]) (rest := []) C w.2.1 (rfl : kd 0 = 0) (by decide) (ci := 4) rfl rfl rfl me_X4_put ml_StairBowsLaw_60 (c_X4_put l g ad2 m_23 _ (Int32.toInt64 (48 + v6)) h) ⟨rfl, rfl⟩ ⟨Nat.le_of_ble_eq_true rfl, Nat.le_of_ble_eq_true rfl⟩ rfl hl.1 rfl (Nat.le_of_ble_eq_true rfl) dL_isStep_802 ⟨Nat.le_of_ble_eq_true rfl, Nat.le_of_ble_eq_true rfl⟩) (fun r_25 m_26 h H locs w => ?_)
    refine lv_iconst (v := 2) hx hb dL_isStep_805 (by decide) ?_
    refine lv_icmp_ne (tgt := 846) hx hb dL_isStep_806 (by decide) (fun c_27 => ?_) (fun c_27 => ?_)
    · have h := h.1 c_27
      refine lv_iconst (v := 0) hx hb dL_isStep_846 (by decide) ?_
      exact x2_zret C w (show bz 0 from Or.inl rfl) h dL_isStep_847
    · have h := h.2 c_27
      refine lv_aload_n hx hb dL_isStep_809 rfl (lv_at hl 1 rfl) ?_
      refine x2_callip C w (x_runV (ad := ad2) (i := 0) (As := []) (rest := []) C w.2.1 (rfl : kd 0 = 0) (by decide) (ci := 4) rfl rfl rfl me_X4_read ml_StairBowsLaw_64 (c_X4_read l g ad2 m_26 _  h) ⟨rfl, rfl⟩ ⟨Nat.le_of_ble_eq_true rfl, Nat.le_of_ble_eq_true rfl⟩ rfl hl.1 rfl (Nat.le_of_ble_eq_true rfl) dL_isStep_810 ⟨Nat.le_of_ble_eq_true rfl, Nat.le_of_ble_eq_true rfl⟩) (fun r_28 m_29 h H locs w => ?_)
      refine lv_iload hx hb dL_isStep_813 (lv_at hl 2 rfl) ?_
      refine lv_iconst (v := 1) hx hb dL_isStep_815 (by decide) ?_
      refine lv_iadd hx hb dL_isStep_816 ?_
      refine lv_icmp_ne (tgt := 846) hx hb dL_isStep_817 (by decide) (fun c_30 => ?_) (fun c_30 => ?_)
      · have h := h.1 c_30
        refine lv_iconst (v := 0) hx hb dL_isStep_846 (by decide) ?_
        exact x2_zret C w (show bz 0 from Or.inl rfl) h dL_isStep_847
      · have h := h.2 c_30
        refine lv_aload_n hx hb dL_isStep_820 rfl (lv_at hl 0 rfl) ?_
        refine lv_iload hx hb dL_isStep_821 (lv_at hl 2 rfl) ?_
        refine lv_iconst (v := 2) hx hb dL_isStep_823 (by decide) ?_
        refine x2_calli C w (x_runV (ad := ad) (i := 0) (As := [.int v5, .int 2]) (rest := []) C w.1 (rfl : kd 0 = 0) (by decide) (ci := 4) rfl rfl rfl me_X4_person ml_StairBowsLaw_31 (c_X4_person l g ad μ _ v5 2 h) ⟨rfl, rfl⟩ ⟨Nat.le_of_ble_eq_true rfl, Nat.le_of_ble_eq_true rfl⟩ rfl hl.1 rfl (Nat.le_of_ble_eq_true rfl) dL_isStep_824 ⟨Nat.le_of_ble_eq_true rfl, Nat.le_of_ble_eq_true rfl⟩) (fun r_31 m_32 h H locs w => ?_)
        refine lv_if_ne (tgt := 846) hx hb dL_isStep_827 (by decide) (fun c_33 => ?_) (fun c_33 => ?_)
        · have h := h.1 c_33
          refine lv_iconst (v := 0) hx hb dL_isStep_846 (by decide) ?_
          exact x2_zret C w (show bz 0 from Or.inl rfl) h dL_isStep_847
        · have h := h.2 c_33
          refine lv_aload_n hx hb dL_isStep_830 rfl (lv_at hl 0 rfl) ?_
          refine lv_iload hx hb dL_isStep_831 (lv_at hl 2 rfl) ?_
          refine lv_iconst (v := 0) hx hb dL_isStep_833 (by decide) ?_
          refine x2_calli C w (x_runV (ad := ad) (i := 0) (As := [.int v5, .int 0]) (rest := []) C w.1 (rfl : kd 0 = 0) (by decide) (ci := 4) rfl rfl rfl me_X4_person ml_StairBowsLaw_31 (c_X4_person l g ad m_32 _ v5 0 h) ⟨rfl, rfl⟩ ⟨Nat.le_of_ble_eq_true rfl, Nat.le_of_ble_eq_true rfl⟩ rfl hl.1 rfl (Nat.le_of_ble_eq_true rfl) dL_isStep_834 ⟨Nat.le_of_ble_eq_true rfl, Nat.le_of_ble_eq_true rfl⟩) (fun r_34 m_35 h H locs w => ?_)
          refine lv_iload hx hb dL_isStep_837 (lv_at hl 3 rfl) ?_
          refine lv_icmp_ne (tgt := 846) hx hb dL_isStep_839 (by decide) (fun c_36 => ?_) (fun c_36 => ?_)
          · have h := h.1 c_36
            refine lv_iconst (v := 0) hx hb dL_isStep_846 (by decide) ?_
            exact x2_zret C w (show bz 0 from Or.inl rfl) h dL_isStep_847
          · have h := h.2 c_36
            refine lv_iconst (v := 1) hx hb dL_isStep_842 (by decide) ?_
            refine lv_goto (tgt := 847) hx hb dL_isStep_843 (by decide) ?_
            exact x2_zret C w (show bz 1 from Or.inr rfl) h dL_isStep_847
set_option maxHeartbeats 4000000 in
set_option maxRecDepth 100000 in
theorem t_L_isStep_B714 {g : Gv} {ad ad2 : Nat → Nat} {l : Launch} {p : Program} {e : Env} {s : State} {m : MethodId} {args : Array Value} {below : List Frame} {meth : Method} {c : Code} (C : Cx g p s m args meth c "StairBowsLaw" cL_isStep 12 (some .boolean)) {v5 : Int32} {v6 : Int32} {s0 : Int32}  {K : Int32 → Mem → Mem → Prop}   (μ : Mem) (μ2 : Mem) (H : Heap) (locs : List Loc) (ls : Array Slot) (h : wp_L_isStep_B714 v5 v6 s0 K μ μ2) (w : Wd2 g ad μ ad2 μ2 (Aw2 ad ad2 s.heap.size) s H locs) (hl : lv_has ls 12 [(0, .ref (ad 0)), (1, .ref (ad2 0)), (5, .int v5), (6, .int v6)]) : W p l e rm_L_isStep s m args below meth c H locs 0 0 (MQ below (Post2 g ad ad2 s.heap.size K) args s 0 0 (Aw2 ad ad2 s.heap.size)) (F0 m 714 ls [.int s0]) := by
  obtain ⟨hx, hb, hml, -, hts, hown, -, -, hN⟩ := id C
  unfold wp_L_isStep_B714 at h
  refine lv_istore (lv' := [(7, .int s0), (0, .ref (ad 0)), (1, .ref (ad2 0)), (5, .int v5), (6, .int v6)]) hx hb dL_isStep_714 hl (by decide) rfl (fun ls hl => ?_)
  refine lv_aload_n hx hb dL_isStep_716 rfl (lv_at hl 1 rfl) ?_
  refine lv_iload hx hb dL_isStep_717 (lv_at hl 4 rfl) ?_
  refine lv_iload hx hb dL_isStep_719 (lv_at hl 0 rfl) ?_
  refine x2_calli C w (x_runV (ad := ad) (i := 0) (As := [.int v6, .int s0]) (rest := []) C w.1 (rfl : kd 0 = 0) (by decide) (ci := 4) rfl rfl rfl me_X4_come ml_StairBowsLaw_50 (c_X4_come l g ad μ _ v6 s0 h) ⟨rfl, rfl⟩ ⟨Nat.le_of_ble_eq_true rfl, Nat.le_of_ble_eq_true rfl⟩ rfl hl.1 rfl (Nat.le_of_ble_eq_true rfl) dL_isStep_721 ⟨Nat.le_of_ble_eq_true rfl, Nat.le_of_ble_eq_true rfl⟩) (fun r_14 m_15 h H locs w => ?_)
  refine lv_istore (lv' := [(8, .int r_14), (7, .int s0), (0, .ref (ad 0)), (1, .ref (ad2 0)), (5, .int v5), (6, .int v6)]) hx hb dL_isStep_724 hl (by decide) rfl (fun ls hl => ?_)
  refine lv_iload hx hb dL_isStep_726 (lv_at hl 4 rfl) ?_
  refine lv_bipush (v := 24) hx hb dL_isStep_728 (by decide) ?_
  refine lv_icmp_ne (tgt := 759) hx hb dL_isStep_730 (by decide) (fun c_16 => ?_) (fun c_16 => ?_)
  · have h := h.1 c_16
    refine lv_iload hx hb dL_isStep_759 (lv_at hl 0 rfl) ?_
    refine lv_iload hx hb dL_isStep_761 (lv_at hl 4 rfl) ?_
    refine lv_icmp_ne (tgt := 846) hx hb dL_isStep_763 (by decide) (fun c_17 => ?_) (fun c_17 => ?_)
    · have h := h.1 c_17
      refine lv_iconst (v := 0) hx hb dL_isStep_846 (by decide) ?_
      exact x2_zret C w (show bz 0 from Or.inl rfl) h dL_isStep_847
    · have h := h.2 c_17
      refine lv_aload_n hx hb dL_isStep_766 rfl (lv_at hl 3 rfl) ?_
      refine x2_callip C w (x_runV (ad := ad2) (i := 0) (As := []) (rest := []) C w.2.1 (rfl : kd 0 = 0) (by decide) (ci := 4) rfl rfl rfl me_X4_wipe ml_StairBowsLaw_53 (c_X4_wipe l g ad2 μ2 _  h) ⟨rfl, rfl⟩ ⟨Nat.le_of_ble_eq_true rfl, Nat.le_of_ble_eq_true rfl⟩ rfl hl.1 rfl (Nat.le_of_ble_eq_true rfl) dL_isStep_767 ⟨Nat.le_of_ble_eq_true rfl, Nat.le_of_ble_eq_true rfl⟩) (fun r_18 m_19 h H locs w => ?_)
      refine lv_if_lt (tgt := 846) hx hb dL_isStep_770 (by decide) (fun c_20 => ?_) (fun c_20 => ?_)
      · have h := h.1 c_20
        refine lv_iconst (v := 0) hx hb dL_isStep_846 (by decide) ?_
        exact x2_zret C w (show bz 0 from Or.inl rfl) h dL_isStep_847
      · have h := h.2 c_20
        refine lv_aload_n hx hb dL_isStep_773 rfl (lv_at hl 3 rfl) ?_
        refine lv_iload hx hb dL_isStep_774 (lv_at hl 1 rfl) ?_
        refine lv_if_eq (tgt := 785) hx hb dL_isStep_776 (by decide) (fun c_21 => ?_) (fun c_21 => ?_)
        · have h := h.1 c_21
          refine lv_ldc2 (v := 100) hx hb hown (hts _ mk_StairBowsLaw_58) dL_isStep_785 ?_
          exact t_L_isStep_B788 C m_15 m_19 _ _ _ h w (lv_sub hl [2, 3, 4, 5] rfl)
        · have h := h.2 c_21
          refine lv_ldc2 (v := 117) hx hb hown (hts _ mk_StairBowsLaw_56) dL_isStep_779 ?_
          refine lv_goto (tgt := 788) hx hb dL_isStep_782 (by decide) ?_
          exact t_L_isStep_B788 C m_15 m_19 _ _ _ h w (lv_sub hl [2, 3, 4, 5] rfl)
  · have h := h.2 c_16
    refine lv_iload hx hb dL_isStep_733 (lv_at hl 0 rfl) ?_
    refine lv_bipush (v := -4) hx hb dL_isStep_735 (by decide) ?_
    refine lv_icmp_ne (tgt := 757) hx hb dL_isStep_737 (by decide) (fun c_37 => ?_) (fun c_37 => ?_)
    · have h := h.1 c_37
      refine lv_iconst (v := 0) hx hb dL_isStep_757 (by decide) ?_
      exact x2_zret C w (show bz 0 from Or.inl rfl) h dL_isStep_758
    · have h := h.2 c_37
      refine lv_aload_n hx hb dL_isStep_740 rfl (lv_at hl 3 rfl) ?_
      refine lv_iload hx hb dL_isStep_741 (lv_at hl 5 rfl) ?_
      refine lv_iload hx hb dL_isStep_743 (lv_at hl 1 rfl) ?_
      refine x2_callip C w (x_runV (ad := ad2) (i := 0) (As := [.int v6, .int s0]) (rest := []) C w.2.1 (rfl : kd 0 = 0) (by decide) (ci := 4) rfl rfl rfl me_X4_come ml_StairBowsLaw_50 (c_X4_come l g ad2 μ2 _ v6 s0 h) ⟨rfl, rfl⟩ ⟨Nat.le_of_ble_eq_true rfl, Nat.le_of_ble_eq_true rfl⟩ rfl hl.1 rfl (Nat.le_of_ble_eq_true rfl) dL_isStep_745 ⟨Nat.le_of_ble_eq_true rfl, Nat.le_of_ble_eq_true rfl⟩) (fun r_38 m_39 h H locs w => ?_)
      refine lv_iload hx hb dL_isStep_748 (lv_at hl 0 rfl) ?_
      refine lv_icmp_ne (tgt := 757) hx hb dL_isStep_750 (by decide) (fun c_40 => ?_) (fun c_40 => ?_)
      · have h := h.1 c_40
        refine lv_iconst (v := 0) hx hb dL_isStep_757 (by decide) ?_
        exact x2_zret C w (show bz 0 from Or.inl rfl) h dL_isStep_758
      · have h := h.2 c_40
        refine lv_iconst (v := 1) hx hb dL_isStep_753 (by decide) ?_
        refine lv_goto (tgt := 758) hx hb dL_isStep_754 (by decide) ?_
        exact x2_zret C w (show bz 1 from Or.inr rfl) h dL_isStep_758
set_option maxHeartbeats 4000000 in
set_option maxRecDepth 100000 in
theorem t_L_isStep_L152 {g : Gv} {ad ad2 : Nat → Nat} {l : Launch} {p : Program} {e : Env} {s : State} {m : MethodId} {args : Array Value} {below : List Frame} {meth : Method} {c : Code} (C : Cx g p s m args meth c "StairBowsLaw" cL_isStep 12 (some .boolean)) {v6 : Int32} {v7 : Int32} {v8 : Int32} {v9 : Int32}  {K : Int32 → Mem → Mem → Prop}   : ∀ (n : Nat) (v10 : Int32) (v11 : Int32) (μ : Mem) (μ2 : Mem) (H : Heap) (locs : List Loc) (ls : Array Slot), wp_L_isStep_L152 v6 v7 v8 v9 K n v10 v11 μ μ2 → Wd2 g ad μ ad2 μ2 (Aw2 ad ad2 s.heap.size) s H locs → lv_has ls 12 [(0, .ref (ad 0)), (1, .ref (ad2 0)), (6, .int v6), (7, .int v7), (8, .int v8), (9, .int v9), (10, .int v10), (11, .int v11)] → W p l e rm_L_isStep s m args below meth c H locs 0 0 (MQ below (Post2 g ad ad2 s.heap.size K) args s 0 0 (Aw2 ad ad2 s.heap.size)) (F0 m 152 ls []) := by
  obtain ⟨hx, hb, hml, -, hts, hown, -, -, hN⟩ := id C
  intro n
  induction n with
  | zero =>
    intro v10 v11 μ μ2 H locs ls h w hl
    exact (show False from h).elim
  | succ n ih =>
    intro v10 v11 μ μ2 H locs ls h w hl
    rw [wp_L_isStep_L152_s] at h
    dsimp only at h
    refine lv_iload hx hb dL_isStep_152 (lv_at hl 7 rfl) ?_
    refine lv_bipush (v := 12) hx hb dL_isStep_154 (by decide) ?_
    refine lv_icmp_ge (tgt := 200) hx hb dL_isStep_156 (by decide) (fun c_58 => ?_) (fun c_58 => ?_)
    · have h := h.1 c_58
      refine lv_aload_n hx hb dL_isStep_200 rfl (lv_at hl 0 rfl) ?_
      refine lv_iload hx hb dL_isStep_201 (lv_at hl 4 rfl) ?_
      refine lv_iload hx hb dL_isStep_203 (lv_at hl 3 rfl) ?_
      refine x2_calli C w (x_runV (ad := ad) (i := 0) (As := [.int v8, .int v7]) (rest := []) C w.1 (rfl : kd 0 = 0) (by decide) (ci := 4) rfl rfl rfl me_X4_set ml_StairBowsLaw_24 (c_X4_set l g ad μ _ v8 v7 h) ⟨rfl, rfl⟩ ⟨Nat.le_of_ble_eq_true rfl, Nat.le_of_ble_eq_true rfl⟩ rfl hl.1 rfl (Nat.le_of_ble_eq_true rfl) dL_isStep_205 ⟨Nat.le_of_ble_eq_true rfl, Nat.le_of_ble_eq_true rfl⟩) (fun r_59 m_60 h H locs w => ?_)
      refine lv_istore (lv' := [(11, .int r_59), (0, .ref (ad 0)), (1, .ref (ad2 0)), (6, .int v6), (7, .int v7), (8, .int v8), (9, .int v9), (10, .int v10)]) hx hb dL_isStep_208 hl (by decide) rfl (fun ls hl => ?_)
      refine lv_iload hx hb dL_isStep_210 (lv_at hl 0 rfl) ?_
      refine lv_aload_n hx hb dL_isStep_212 rfl (lv_at hl 2 rfl) ?_
      refine lv_iload hx hb dL_isStep_213 (lv_at hl 5 rfl) ?_
      refine lv_iload hx hb dL_isStep_215 (lv_at hl 4 rfl) ?_
      refine x2_callip C w (x_runV (ad := ad2) (i := 0) (As := [.int v8, .int v7]) (rest := [.int r_59]) C w.2.1 (rfl : kd 0 = 0) (by decide) (ci := 4) rfl rfl rfl me_X4_set ml_StairBowsLaw_24 (c_X4_set l g ad2 μ2 _ v8 v7 h) ⟨rfl, rfl⟩ ⟨Nat.le_of_ble_eq_true rfl, Nat.le_of_ble_eq_true rfl⟩ rfl hl.1 rfl (Nat.le_of_ble_eq_true rfl) dL_isStep_217 ⟨Nat.le_of_ble_eq_true rfl, Nat.le_of_ble_eq_true rfl⟩) (fun r_61 m_62 h H locs w => ?_)
      refine lv_icmp_ne (tgt := 249) hx hb dL_isStep_220 (by decide) (fun c_63 => ?_) (fun c_63 => ?_)
      · have h := h.1 c_63
        refine lv_iconst (v := 0) hx hb dL_isStep_249 (by decide) ?_
        exact x2_zret C w (show bz 0 from Or.inl rfl) h dL_isStep_250
      · have h := h.2 c_63
        refine lv_iload hx hb dL_isStep_223 (lv_at hl 0 rfl) ?_
        refine lv_iload hx hb dL_isStep_225 (lv_at hl 3 rfl) ?_
        refine lv_if_eq (tgt := 240) hx hb dL_isStep_227 (by decide) (fun c_64 => ?_) (fun c_64 => ?_)
        · have h := h.1 c_64
          refine lv_iload hx hb dL_isStep_240 (lv_at hl 6 rfl) ?_
          refine lv_icmp_ne (tgt := 249) hx hb dL_isStep_242 (by decide) (fun c_65 => ?_) (fun c_65 => ?_)
          · have h := h.1 c_65
            refine lv_iconst (v := 0) hx hb dL_isStep_249 (by decide) ?_
            exact x2_zret C w (show bz 0 from Or.inl rfl) h dL_isStep_250
          · have h := h.2 c_65
            refine lv_iconst (v := 1) hx hb dL_isStep_245 (by decide) ?_
            refine lv_goto (tgt := 250) hx hb dL_isStep_246 (by decide) ?_
            exact x2_zret C w (show bz 1 from Or.inr rfl) h dL_isStep_250
        · have h := h.2 c_64
          refine lv_iload hx hb dL_isStep_230 (lv_at hl 7 rfl) ?_
          refine lv_if_eq (tgt := 240) hx hb dL_isStep_232 (by decide) (fun c_66 => ?_) (fun c_66 => ?_)
          · have h := h.1 c_66
            refine lv_iload hx hb dL_isStep_240 (lv_at hl 6 rfl) ?_
            refine lv_icmp_ne (tgt := 249) hx hb dL_isStep_242 (by decide) (fun c_67 => ?_) (fun c_67 => ?_)
            · have h := h.1 c_67
              refine lv_iconst (v := 0) hx hb dL_isStep_249 (by decide) ?_
              exact x2_zret C w (show bz 0 from Or.inl rfl) h dL_isStep_250
            · have h := h.2 c_67
              refine lv_iconst (v := 1) hx hb dL_isStep_245 (by decide) ?_
              refine lv_goto (tgt := 250) hx hb dL_isStep_246 (by decide) ?_
              exact x2_zret C w (show bz 1 from Or.inr rfl) h dL_isStep_250
          · have h := h.2 c_66
            refine lv_bipush (v := -5) hx hb dL_isStep_235 (by decide) ?_
            refine lv_goto (tgt := 242) hx hb dL_isStep_237 (by decide) ?_
            refine lv_icmp_ne (tgt := 249) hx hb dL_isStep_242 (by decide) (fun c_68 => ?_) (fun c_68 => ?_)
            · have h := h.1 c_68
              refine lv_iconst (v := 0) hx hb dL_isStep_249 (by decide) ?_
              exact x2_zret C w (show bz 0 from Or.inl rfl) h dL_isStep_250
            · have h := h.2 c_68
              refine lv_iconst (v := 1) hx hb dL_isStep_245 (by decide) ?_
              refine lv_goto (tgt := 250) hx hb dL_isStep_246 (by decide) ?_
              exact x2_zret C w (show bz 1 from Or.inr rfl) h dL_isStep_250
    · have h := h.2 c_58
      refine lv_iload hx hb dL_isStep_159 (lv_at hl 6 rfl) ?_
      refine lv_if_ne (tgt := 187) hx hb dL_isStep_161 (by decide) (fun c_69 => ?_) (fun c_69 => ?_)
      · have h := h.1 c_69
        refine lv_iconst (v := 1) hx hb dL_isStep_187 (by decide) ?_
        refine lv_goto (tgt := 192) hx hb dL_isStep_188 (by decide) ?_
        refine lv_istore (lv' := [(10, .int 1), (0, .ref (ad 0)), (1, .ref (ad2 0)), (6, .int v6), (7, .int v7), (8, .int v8), (9, .int v9), (11, .int v11)]) hx hb dL_isStep_192 hl (by decide) rfl (fun ls hl => ?_)
        refine lv_iinc (v := (v11 + 1)) (lv' := [(11, .int (v11 + 1)), (10, .int 1), (0, .ref (ad 0)), (1, .ref (ad2 0)), (6, .int v6), (7, .int v7), (8, .int v8), (9, .int v9)]) hx hb dL_isStep_194 hl (k := 7) rfl rfl (by decide) rfl (fun ls hl => ?_)
        refine lv_goto (tgt := 152) hx hb dL_isStep_197 (by decide) ?_
        exact ih 1 (v11 + 1) μ μ2 _ _ _ h w (lv_sub hl [2, 3, 4, 5, 6, 7, 1, 0] rfl)
      · have h := h.2 c_69
        refine lv_aload_n hx hb dL_isStep_164 rfl (lv_at hl 0 rfl) ?_
        refine lv_iload hx hb dL_isStep_165 (lv_at hl 7 rfl) ?_
        refine lv_iconst (v := 0) hx hb dL_isStep_167 (by decide) ?_
        refine x2_calli C w (x_runV (ad := ad) (i := 0) (As := [.int v11, .int 0]) (rest := []) C w.1 (rfl : kd 0 = 0) (by decide) (ci := 4) rfl rfl rfl me_X4_step ml_StairBowsLaw_21 (c_X4_step l g ad μ _ v11 0 h) ⟨rfl, rfl⟩ ⟨Nat.le_of_ble_eq_true rfl, Nat.le_of_ble_eq_true rfl⟩ rfl hl.1 rfl (Nat.le_of_ble_eq_true rfl) dL_isStep_168 ⟨Nat.le_of_ble_eq_true rfl, Nat.le_of_ble_eq_true rfl⟩) (fun r_70 m_71 h H locs w => ?_)
        refine lv_iconst (v := 1) hx hb dL_isStep_171 (by decide) ?_
        refine lv_icmp_ne (tgt := 191) hx hb dL_isStep_172 (by decide) (fun c_72 => ?_) (fun c_72 => ?_)
        · have h := h.1 c_72
          refine lv_iconst (v := 0) hx hb dL_isStep_191 (by decide) ?_
          refine lv_istore (lv' := [(10, .int 0), (0, .ref (ad 0)), (1, .ref (ad2 0)), (6, .int v6), (7, .int v7), (8, .int v8), (9, .int v9), (11, .int v11)]) hx hb dL_isStep_192 hl (by decide) rfl (fun ls hl => ?_)
          refine lv_iinc (v := (v11 + 1)) (lv' := [(11, .int (v11 + 1)), (10, .int 0), (0, .ref (ad 0)), (1, .ref (ad2 0)), (6, .int v6), (7, .int v7), (8, .int v8), (9, .int v9)]) hx hb dL_isStep_194 hl (k := 7) rfl rfl (by decide) rfl (fun ls hl => ?_)
          refine lv_goto (tgt := 152) hx hb dL_isStep_197 (by decide) ?_
          exact ih 0 (v11 + 1) m_71 μ2 _ _ _ h w (lv_sub hl [2, 3, 4, 5, 6, 7, 1, 0] rfl)
        · have h := h.2 c_72
          refine lv_aload_n hx hb dL_isStep_175 rfl (lv_at hl 0 rfl) ?_
          refine lv_iload hx hb dL_isStep_176 (lv_at hl 7 rfl) ?_
          refine lv_iconst (v := 1) hx hb dL_isStep_178 (by decide) ?_
          refine x2_calli C w (x_runV (ad := ad) (i := 0) (As := [.int v11, .int 1]) (rest := []) C w.1 (rfl : kd 0 = 0) (by decide) (ci := 4) rfl rfl rfl me_X4_step ml_StairBowsLaw_21 (c_X4_step l g ad m_71 _ v11 1 h) ⟨rfl, rfl⟩ ⟨Nat.le_of_ble_eq_true rfl, Nat.le_of_ble_eq_true rfl⟩ rfl hl.1 rfl (Nat.le_of_ble_eq_true rfl) dL_isStep_179 ⟨Nat.le_of_ble_eq_true rfl, Nat.le_of_ble_eq_true rfl⟩) (fun r_73 m_74 h H locs w => ?_)
          refine lv_iload hx hb dL_isStep_182 (lv_at hl 3 rfl) ?_
          refine lv_icmp_le (tgt := 191) hx hb dL_isStep_184 (by decide) (fun c_75 => ?_) (fun c_75 => ?_)
          · have h := h.1 c_75
            refine lv_iconst (v := 0) hx hb dL_isStep_191 (by decide) ?_
            refine lv_istore (lv' := [(10, .int 0), (0, .ref (ad 0)), (1, .ref (ad2 0)), (6, .int v6), (7, .int v7), (8, .int v8), (9, .int v9), (11, .int v11)]) hx hb dL_isStep_192 hl (by decide) rfl (fun ls hl => ?_)
            refine lv_iinc (v := (v11 + 1)) (lv' := [(11, .int (v11 + 1)), (10, .int 0), (0, .ref (ad 0)), (1, .ref (ad2 0)), (6, .int v6), (7, .int v7), (8, .int v8), (9, .int v9)]) hx hb dL_isStep_194 hl (k := 7) rfl rfl (by decide) rfl (fun ls hl => ?_)
            refine lv_goto (tgt := 152) hx hb dL_isStep_197 (by decide) ?_
            exact ih 0 (v11 + 1) m_74 μ2 _ _ _ h w (lv_sub hl [2, 3, 4, 5, 6, 7, 1, 0] rfl)
          · have h := h.2 c_75
            refine lv_iconst (v := 1) hx hb dL_isStep_187 (by decide) ?_
            refine lv_goto (tgt := 192) hx hb dL_isStep_188 (by decide) ?_
            refine lv_istore (lv' := [(10, .int 1), (0, .ref (ad 0)), (1, .ref (ad2 0)), (6, .int v6), (7, .int v7), (8, .int v8), (9, .int v9), (11, .int v11)]) hx hb dL_isStep_192 hl (by decide) rfl (fun ls hl => ?_)
            refine lv_iinc (v := (v11 + 1)) (lv' := [(11, .int (v11 + 1)), (10, .int 1), (0, .ref (ad 0)), (1, .ref (ad2 0)), (6, .int v6), (7, .int v7), (8, .int v8), (9, .int v9)]) hx hb dL_isStep_194 hl (k := 7) rfl rfl (by decide) rfl (fun ls hl => ?_)
            refine lv_goto (tgt := 152) hx hb dL_isStep_197 (by decide) ?_
            exact ih 1 (v11 + 1) m_74 μ2 _ _ _ h w (lv_sub hl [2, 3, 4, 5, 6, 7, 1, 0] rfl)
set_option maxHeartbeats 4000000 in
set_option maxRecDepth 100000 in
theorem t_L_isStep_B124 {g : Gv} {ad ad2 : Nat → Nat} {l : Launch} {p : Program} {e : Env} {s : State} {m : MethodId} {args : Array Value} {below : List Frame} {meth : Method} {c : Code} (C : Cx g p s m args meth c "StairBowsLaw" cL_isStep 12 (some .boolean)) {v6 : Int32} {s0 : Int32}  {K : Int32 → Mem → Mem → Prop}   (μ : Mem) (μ2 : Mem) (H : Heap) (locs : List Loc) (ls : Array Slot) (h : wp_L_isStep_B124 v6 s0 K μ μ2) (w : Wd2 g ad μ ad2 μ2 (Aw2 ad ad2 s.heap.size) s H locs) (hl : lv_has ls 12 [(0, .ref (ad 0)), (1, .ref (ad2 0)), (6, .int v6)]) : W p l e rm_L_isStep s m args below meth c H locs 0 0 (MQ below (Post2 g ad ad2 s.heap.size K) args s 0 0 (Aw2 ad ad2 s.heap.size)) (F0 m 124 ls [.int s0]) := by
  obtain ⟨hx, hb, hml, -, hts, hown, -, -, hN⟩ := id C
  unfold wp_L_isStep_B124 at h
  refine lv_istore (lv' := [(7, .int s0), (0, .ref (ad 0)), (1, .ref (ad2 0)), (6, .int v6)]) hx hb dL_isStep_124 hl (by decide) rfl (fun ls hl => ?_)
  refine lv_iload hx hb dL_isStep_126 (lv_at hl 3 rfl) ?_
  refine lv_if_eq (tgt := 135) hx hb dL_isStep_128 (by decide) (fun c_55 => ?_) (fun c_55 => ?_)
  · have h := h.1 c_55
    refine lv_iconst (v := 2) hx hb dL_isStep_135 (by decide) ?_
    refine lv_istore (lv' := [(8, .int 2), (7, .int s0), (0, .ref (ad 0)), (1, .ref (ad2 0)), (6, .int v6)]) hx hb dL_isStep_136 hl (by decide) rfl (fun ls hl => ?_)
    refine lv_aload_n hx hb dL_isStep_138 rfl (lv_at hl 2 rfl) ?_
    refine lv_iload hx hb dL_isStep_139 (lv_at hl 0 rfl) ?_
    refine x2_calli C w (x_runV (ad := ad) (i := 0) (As := [.int 2]) (rest := []) C w.1 (rfl : kd 0 = 0) (by decide) (ci := 4) rfl rfl rfl me_X4_count ml_StairBowsLaw_9 (c_X4_count l g ad μ _ 2 h) ⟨rfl, rfl⟩ ⟨Nat.le_of_ble_eq_true rfl, Nat.le_of_ble_eq_true rfl⟩ rfl hl.1 rfl (Nat.le_of_ble_eq_true rfl) dL_isStep_141 ⟨Nat.le_of_ble_eq_true rfl, Nat.le_of_ble_eq_true rfl⟩) (fun r_56 m_57 h H locs w => ?_)
    refine lv_istore (lv' := [(9, .int r_56), (8, .int 2), (7, .int s0), (0, .ref (ad 0)), (1, .ref (ad2 0)), (6, .int v6)]) hx hb dL_isStep_144 hl (by decide) rfl (fun ls hl => ?_)
    refine lv_iconst (v := 0) hx hb dL_isStep_146 (by decide) ?_
    refine lv_istore (lv' := [(10, .int 0), (9, .int r_56), (8, .int 2), (7, .int s0), (0, .ref (ad 0)), (1, .ref (ad2 0)), (6, .int v6)]) hx hb dL_isStep_147 hl (by decide) rfl (fun ls hl => ?_)
    refine lv_iconst (v := 0) hx hb dL_isStep_149 (by decide) ?_
    refine lv_istore (lv' := [(11, .int 0), (10, .int 0), (9, .int r_56), (8, .int 2), (7, .int s0), (0, .ref (ad 0)), (1, .ref (ad2 0)), (6, .int v6)]) hx hb dL_isStep_150 hl (by decide) rfl (fun ls hl => ?_)
    obtain ⟨n_76, h⟩ := h
    exact t_L_isStep_L152 C n_76 0 0 m_57 μ2 _ _ _ h w (lv_sub hl [5, 6, 7, 4, 3, 2, 1, 0] rfl)
  · have h := h.2 c_55
    refine lv_iconst (v := 0) hx hb dL_isStep_131 (by decide) ?_
    refine lv_goto (tgt := 136) hx hb dL_isStep_132 (by decide) ?_
    refine lv_istore (lv' := [(8, .int 0), (7, .int s0), (0, .ref (ad 0)), (1, .ref (ad2 0)), (6, .int v6)]) hx hb dL_isStep_136 hl (by decide) rfl (fun ls hl => ?_)
    refine lv_aload_n hx hb dL_isStep_138 rfl (lv_at hl 2 rfl) ?_
    refine lv_iload hx hb dL_isStep_139 (lv_at hl 0 rfl) ?_
    refine x2_calli C w (x_runV (ad := ad) (i := 0) (As := [.int 0]) (rest := []) C w.1 (rfl : kd 0 = 0) (by decide) (ci := 4) rfl rfl rfl me_X4_count ml_StairBowsLaw_9 (c_X4_count l g ad μ _ 0 h) ⟨rfl, rfl⟩ ⟨Nat.le_of_ble_eq_true rfl, Nat.le_of_ble_eq_true rfl⟩ rfl hl.1 rfl (Nat.le_of_ble_eq_true rfl) dL_isStep_141 ⟨Nat.le_of_ble_eq_true rfl, Nat.le_of_ble_eq_true rfl⟩) (fun r_77 m_78 h H locs w => ?_)
    refine lv_istore (lv' := [(9, .int r_77), (8, .int 0), (7, .int s0), (0, .ref (ad 0)), (1, .ref (ad2 0)), (6, .int v6)]) hx hb dL_isStep_144 hl (by decide) rfl (fun ls hl => ?_)
    refine lv_iconst (v := 0) hx hb dL_isStep_146 (by decide) ?_
    refine lv_istore (lv' := [(10, .int 0), (9, .int r_77), (8, .int 0), (7, .int s0), (0, .ref (ad 0)), (1, .ref (ad2 0)), (6, .int v6)]) hx hb dL_isStep_147 hl (by decide) rfl (fun ls hl => ?_)
    refine lv_iconst (v := 0) hx hb dL_isStep_149 (by decide) ?_
    refine lv_istore (lv' := [(11, .int 0), (10, .int 0), (9, .int r_77), (8, .int 0), (7, .int s0), (0, .ref (ad 0)), (1, .ref (ad2 0)), (6, .int v6)]) hx hb dL_isStep_150 hl (by decide) rfl (fun ls hl => ?_)
    obtain ⟨n_79, h⟩ := h
    exact t_L_isStep_L152 C n_79 0 0 m_78 μ2 _ _ _ h w (lv_sub hl [5, 6, 7, 4, 3, 2, 1, 0] rfl)
set_option maxHeartbeats 4000000 in
set_option maxRecDepth 100000 in
theorem t_L_isStep_B86 {g : Gv} {ad ad2 : Nat → Nat} {l : Launch} {p : Program} {e : Env} {s : State} {m : MethodId} {args : Array Value} {below : List Frame} {meth : Method} {c : Code} (C : Cx g p s m args meth c "StairBowsLaw" cL_isStep 12 (some .boolean)) {v3 : Int32} {v4 : Int32} {s0 : Int32}  {K : Int32 → Mem → Mem → Prop}   (μ : Mem) (μ2 : Mem) (H : Heap) (locs : List Loc) (ls : Array Slot) (h : wp_L_isStep_B86 v3 v4 s0 K μ μ2) (w : Wd2 g ad μ ad2 μ2 (Aw2 ad ad2 s.heap.size) s H locs) (hl : lv_has ls 12 [(0, .ref (ad 0)), (1, .ref (ad2 0)), (3, .int v3), (4, .int v4)]) : W p l e rm_L_isStep s m args below meth c H locs 0 0 (MQ below (Post2 g ad ad2 s.heap.size K) args s 0 0 (Aw2 ad ad2 s.heap.size)) (F0 m 86 ls [.int s0]) := by
  obtain ⟨hx, hb, hml, -, hts, hown, -, -, hN⟩ := id C
  unfold wp_L_isStep_B86 at h
  refine lv_istore (lv' := [(6, .int s0), (0, .ref (ad 0)), (1, .ref (ad2 0)), (3, .int v3), (4, .int v4)]) hx hb dL_isStep_86 hl (by decide) rfl (fun ls hl => ?_)
  refine lv_iload hx hb dL_isStep_88 (lv_at hl 0 rfl) ?_
  refine lv_if_eq (tgt := 103) hx hb dL_isStep_90 (by decide) (fun c_49 => ?_) (fun c_49 => ?_)
  · have h := h.1 c_49
    refine lv_iload_n hx hb dL_isStep_103 rfl (lv_at hl 3 rfl) ?_
    refine lv_iload hx hb dL_isStep_104 (lv_at hl 4 rfl) ?_
    refine lv_iconst (v := 3) hx hb dL_isStep_106 (by decide) ?_
    refine lv_ishr hx hb dL_isStep_107 ?_
    refine lv_iconst (v := 2) hx hb dL_isStep_108 (by decide) ?_
    refine x2_calli C w (x_runS (ad := ad) (As := [.int (v4 >>> (3 &&& 31)), .int 2]) (rest := [.int v3]) C w.1 me_L_up ml_StairBowsLaw_15 (c_L_up l g ad μ _ (v4 >>> (3 &&& 31)) 2 h) ⟨rfl, rfl⟩ ⟨Nat.le_of_ble_eq_true rfl, Nat.le_of_ble_eq_true rfl⟩ rfl hl.1 rfl (Nat.le_of_ble_eq_true rfl) dL_isStep_109 ⟨Nat.le_of_ble_eq_true rfl, Nat.le_of_ble_eq_true rfl⟩) (fun r_50 m_51 h H locs w => ?_)
    refine lv_if_ne (tgt := 120) hx hb dL_isStep_112 (by decide) (fun c_52 => ?_) (fun c_52 => ?_)
    · have h := h.1 c_52
      refine lv_iconst (v := 3) hx hb dL_isStep_120 (by decide) ?_
      refine x2_calli C w (x_runS (ad := ad) (As := [.int v3, .int 3]) (rest := []) C w.1 me_L_up ml_StairBowsLaw_15 (c_L_up l g ad m_51 _ v3 3 h) ⟨rfl, rfl⟩ ⟨Nat.le_of_ble_eq_true rfl, Nat.le_of_ble_eq_true rfl⟩ rfl hl.1 rfl (Nat.le_of_ble_eq_true rfl) dL_isStep_121 ⟨Nat.le_of_ble_eq_true rfl, Nat.le_of_ble_eq_true rfl⟩) (fun r_53 m_54 h H locs w => ?_)
      exact t_L_isStep_B124 C m_54 μ2 _ _ _ h w (lv_sub hl [1, 2, 0] rfl)
    · have h := h.2 c_52
      refine lv_bipush (v := 10) hx hb dL_isStep_115 (by decide) ?_
      refine lv_goto (tgt := 121) hx hb dL_isStep_117 (by decide) ?_
      refine x2_calli C w (x_runS (ad := ad) (As := [.int v3, .int 10]) (rest := []) C w.1 me_L_up ml_StairBowsLaw_15 (c_L_up l g ad m_51 _ v3 10 h) ⟨rfl, rfl⟩ ⟨Nat.le_of_ble_eq_true rfl, Nat.le_of_ble_eq_true rfl⟩ rfl hl.1 rfl (Nat.le_of_ble_eq_true rfl) dL_isStep_121 ⟨Nat.le_of_ble_eq_true rfl, Nat.le_of_ble_eq_true rfl⟩) (fun r_80 m_81 h H locs w => ?_)
      exact t_L_isStep_B124 C m_81 μ2 _ _ _ h w (lv_sub hl [1, 2, 0] rfl)
  · have h := h.2 c_49
    refine lv_iconst (v := 1) hx hb dL_isStep_93 (by decide) ?_
    refine lv_iload_n hx hb dL_isStep_94 rfl (lv_at hl 3 rfl) ?_
    refine lv_iconst (v := 4) hx hb dL_isStep_95 (by decide) ?_
    refine x2_calli C w (x_runS (ad := ad) (As := [.int v3, .int 4]) (rest := [.int 1]) C w.1 me_L_up ml_StairBowsLaw_15 (c_L_up l g ad μ _ v3 4 h) ⟨rfl, rfl⟩ ⟨Nat.le_of_ble_eq_true rfl, Nat.le_of_ble_eq_true rfl⟩ rfl hl.1 rfl (Nat.le_of_ble_eq_true rfl) dL_isStep_96 ⟨Nat.le_of_ble_eq_true rfl, Nat.le_of_ble_eq_true rfl⟩) (fun r_82 m_83 h H locs w => ?_)
    refine lv_iadd hx hb dL_isStep_99 ?_
    refine lv_goto (tgt := 124) hx hb dL_isStep_100 (by decide) ?_
    exact t_L_isStep_B124 C m_83 μ2 _ _ _ h w (lv_sub hl [1, 2, 0] rfl)
set_option maxHeartbeats 4000000 in
set_option maxRecDepth 100000 in
theorem t_L_isStep_B347 {g : Gv} {ad ad2 : Nat → Nat} {l : Launch} {p : Program} {e : Env} {s : State} {m : MethodId} {args : Array Value} {below : List Frame} {meth : Method} {c : Code} (C : Cx g p s m args meth c "StairBowsLaw" cL_isStep 12 (some .boolean)) {v6 : Int32} {v7 : Int32} {v8 : Int32} {s0 : Int32}  {K : Int32 → Mem → Mem → Prop}   (μ : Mem) (μ2 : Mem) (H : Heap) (locs : List Loc) (ls : Array Slot) (h : wp_L_isStep_B347 v6 v7 v8 s0 K μ μ2) (w : Wd2 g ad μ ad2 μ2 (Aw2 ad ad2 s.heap.size) s H locs) (hl : lv_has ls 12 [(0, .ref (ad 0)), (6, .int v6), (7, .int v7), (8, .int v8)]) : W p l e rm_L_isStep s m args below meth c H locs 0 0 (MQ below (Post2 g ad ad2 s.heap.size K) args s 0 0 (Aw2 ad ad2 s.heap.size)) (F0 m 347 ls [.int s0]) := by
  obtain ⟨hx, hb, hml, -, hts, hown, -, -, hN⟩ := id C
  unfold wp_L_isStep_B347 at h
  refine lv_iload hx hb dL_isStep_347 (lv_at hl 3 rfl) ?_
  refine lv_icmp_ne (tgt := 382) hx hb dL_isStep_349 (by decide) (fun c_100 => ?_) (fun c_100 => ?_)
  · have h := h.1 c_100
    refine lv_iconst (v := 0) hx hb dL_isStep_382 (by decide) ?_
    exact x2_zret C w (show bz 0 from Or.inl rfl) h dL_isStep_383
  · have h := h.2 c_100
    refine lv_iload hx hb dL_isStep_352 (lv_at hl 3 rfl) ?_
    refine lv_if_eq (tgt := 378) hx hb dL_isStep_354 (by decide) (fun c_101 => ?_) (fun c_101 => ?_)
    · have h := h.1 c_101
      refine lv_iconst (v := 1) hx hb dL_isStep_378 (by decide) ?_
      refine lv_goto (tgt := 383) hx hb dL_isStep_379 (by decide) ?_
      exact x2_zret C w (show bz 1 from Or.inr rfl) h dL_isStep_383
    · have h := h.2 c_101
      refine lv_aload_n hx hb dL_isStep_357 rfl (lv_at hl 0 rfl) ?_
      refine lv_iload hx hb dL_isStep_358 (lv_at hl 1 rfl) ?_
      refine lv_iconst (v := 0) hx hb dL_isStep_360 (by decide) ?_
      refine x2_calli C w (x_runV (ad := ad) (i := 0) (As := [.int v6, .int 0]) (rest := []) C w.1 (rfl : kd 0 = 0) (by decide) (ci := 4) rfl rfl rfl me_X4_step ml_StairBowsLaw_21 (c_X4_step l g ad μ _ v6 0 h) ⟨rfl, rfl⟩ ⟨Nat.le_of_ble_eq_true rfl, Nat.le_of_ble_eq_true rfl⟩ rfl hl.1 rfl (Nat.le_of_ble_eq_true rfl) dL_isStep_361 ⟨Nat.le_of_ble_eq_true rfl, Nat.le_of_ble_eq_true rfl⟩) (fun r_102 m_103 h H locs w => ?_)
      refine lv_iconst (v := 1) hx hb dL_isStep_364 (by decide) ?_
      refine lv_icmp_ne (tgt := 372) hx hb dL_isStep_365 (by decide) (fun c_104 => ?_) (fun c_104 => ?_)
      · have h := h.1 c_104
        refine lv_iconst (v := 0) hx hb dL_isStep_372 (by decide) ?_
        refine lv_iload hx hb dL_isStep_373 (lv_at hl 2 rfl) ?_
        refine lv_icmp_ne (tgt := 382) hx hb dL_isStep_375 (by decide) (fun c_105 => ?_) (fun c_105 => ?_)
        · have h := h.1 c_105
          refine lv_iconst (v := 0) hx hb dL_isStep_382 (by decide) ?_
          exact x2_zret C w (show bz 0 from Or.inl rfl) h dL_isStep_383
        · have h := h.2 c_105
          refine lv_iconst (v := 1) hx hb dL_isStep_378 (by decide) ?_
          refine lv_goto (tgt := 383) hx hb dL_isStep_379 (by decide) ?_
          exact x2_zret C w (show bz 1 from Or.inr rfl) h dL_isStep_383
      · have h := h.2 c_104
        refine lv_iconst (v := 1) hx hb dL_isStep_368 (by decide) ?_
        refine lv_goto (tgt := 373) hx hb dL_isStep_369 (by decide) ?_
        refine lv_iload hx hb dL_isStep_373 (lv_at hl 2 rfl) ?_
        refine lv_icmp_ne (tgt := 382) hx hb dL_isStep_375 (by decide) (fun c_106 => ?_) (fun c_106 => ?_)
        · have h := h.1 c_106
          refine lv_iconst (v := 0) hx hb dL_isStep_382 (by decide) ?_
          exact x2_zret C w (show bz 0 from Or.inl rfl) h dL_isStep_383
        · have h := h.2 c_106
          refine lv_iconst (v := 1) hx hb dL_isStep_378 (by decide) ?_
          refine lv_goto (tgt := 383) hx hb dL_isStep_379 (by decide) ?_
          exact x2_zret C w (show bz 1 from Or.inr rfl) h dL_isStep_383
set_option maxHeartbeats 4000000 in
set_option maxRecDepth 100000 in
theorem t_L_isStep_B312 {g : Gv} {ad ad2 : Nat → Nat} {l : Launch} {p : Program} {e : Env} {s : State} {m : MethodId} {args : Array Value} {below : List Frame} {meth : Method} {c : Code} (C : Cx g p s m args meth c "StairBowsLaw" cL_isStep 12 (some .boolean)) {v6 : Int32} {v7 : Int32} {s0 : Int32}  {K : Int32 → Mem → Mem → Prop}   (μ : Mem) (μ2 : Mem) (H : Heap) (locs : List Loc) (ls : Array Slot) (h : wp_L_isStep_B312 v6 v7 s0 K μ μ2) (w : Wd2 g ad μ ad2 μ2 (Aw2 ad ad2 s.heap.size) s H locs) (hl : lv_has ls 12 [(0, .ref (ad 0)), (1, .ref (ad2 0)), (6, .int v6), (7, .int v7)]) : W p l e rm_L_isStep s m args below meth c H locs 0 0 (MQ below (Post2 g ad ad2 s.heap.size K) args s 0 0 (Aw2 ad ad2 s.heap.size)) (F0 m 312 ls [.int s0]) := by
  obtain ⟨hx, hb, hml, -, hts, hown, -, -, hN⟩ := id C
  unfold wp_L_isStep_B312 at h
  refine lv_istore (lv' := [(8, .int s0), (0, .ref (ad 0)), (1, .ref (ad2 0)), (6, .int v6), (7, .int v7)]) hx hb dL_isStep_312 hl (by decide) rfl (fun ls hl => ?_)
  refine lv_aload_n hx hb dL_isStep_314 rfl (lv_at hl 1 rfl) ?_
  refine lv_iload hx hb dL_isStep_315 (lv_at hl 3 rfl) ?_
  refine lv_iload hx hb dL_isStep_317 (lv_at hl 4 rfl) ?_
  refine x2_calli C w (x_runV (ad := ad) (i := 0) (As := [.int v6, .int v7]) (rest := []) C w.1 (rfl : kd 0 = 0) (by decide) (ci := 4) rfl rfl rfl me_X4_landing ml_StairBowsLaw_27 (c_X4_landing l g ad μ _ v6 v7 h) ⟨rfl, rfl⟩ ⟨Nat.le_of_ble_eq_true rfl, Nat.le_of_ble_eq_true rfl⟩ rfl hl.1 rfl (Nat.le_of_ble_eq_true rfl) dL_isStep_319 ⟨Nat.le_of_ble_eq_true rfl, Nat.le_of_ble_eq_true rfl⟩) (fun r_94 m_95 h H locs w => ?_)
  refine lv_istore (lv' := [(9, .int r_94), (8, .int s0), (0, .ref (ad 0)), (1, .ref (ad2 0)), (6, .int v6), (7, .int v7)]) hx hb dL_isStep_322 hl (by decide) rfl (fun ls hl => ?_)
  refine lv_iload hx hb dL_isStep_324 (lv_at hl 0 rfl) ?_
  refine lv_aload_n hx hb dL_isStep_326 rfl (lv_at hl 3 rfl) ?_
  refine lv_iload hx hb dL_isStep_327 (lv_at hl 4 rfl) ?_
  refine lv_iload hx hb dL_isStep_329 (lv_at hl 5 rfl) ?_
  refine x2_callip C w (x_runV (ad := ad2) (i := 0) (As := [.int v6, .int v7]) (rest := [.int r_94]) C w.2.1 (rfl : kd 0 = 0) (by decide) (ci := 4) rfl rfl rfl me_X4_landing ml_StairBowsLaw_27 (c_X4_landing l g ad2 μ2 _ v6 v7 h) ⟨rfl, rfl⟩ ⟨Nat.le_of_ble_eq_true rfl, Nat.le_of_ble_eq_true rfl⟩ rfl hl.1 rfl (Nat.le_of_ble_eq_true rfl) dL_isStep_331 ⟨Nat.le_of_ble_eq_true rfl, Nat.le_of_ble_eq_true rfl⟩) (fun r_96 m_97 h H locs w => ?_)
  refine lv_icmp_ne (tgt := 382) hx hb dL_isStep_334 (by decide) (fun c_98 => ?_) (fun c_98 => ?_)
  · have h := h.1 c_98
    refine lv_iconst (v := 0) hx hb dL_isStep_382 (by decide) ?_
    exact x2_zret C w (show bz 0 from Or.inl rfl) h dL_isStep_383
  · have h := h.2 c_98
    refine lv_iload hx hb dL_isStep_337 (lv_at hl 0 rfl) ?_
    refine lv_if_lt (tgt := 346) hx hb dL_isStep_339 (by decide) (fun c_99 => ?_) (fun c_99 => ?_)
    · have h := h.1 c_99
      refine lv_iconst (v := 0) hx hb dL_isStep_346 (by decide) ?_
      exact t_L_isStep_B347 C m_95 m_97 _ _ _ h w (lv_sub hl [2, 4, 5, 1] rfl)
    · have h := h.2 c_99
      refine lv_iconst (v := 1) hx hb dL_isStep_342 (by decide) ?_
      refine lv_goto (tgt := 347) hx hb dL_isStep_343 (by decide) ?_
      exact t_L_isStep_B347 C m_95 m_97 _ _ _ h w (lv_sub hl [2, 4, 5, 1] rfl)
set_option maxHeartbeats 4000000 in
set_option maxRecDepth 100000 in
theorem t_L_isStep_B291 {g : Gv} {ad ad2 : Nat → Nat} {l : Launch} {p : Program} {e : Env} {s : State} {m : MethodId} {args : Array Value} {below : List Frame} {meth : Method} {c : Code} (C : Cx g p s m args meth c "StairBowsLaw" cL_isStep 12 (some .boolean)) {v6 : Int32} {v7 : Int32} {s0 : Int32}  {K : Int32 → Mem → Mem → Prop}   (μ : Mem) (μ2 : Mem) (H : Heap) (locs : List Loc) (ls : Array Slot) (h : wp_L_isStep_B291 v6 v7 s0 K μ μ2) (w : Wd2 g ad μ ad2 μ2 (Aw2 ad ad2 s.heap.size) s H locs) (hl : lv_has ls 12 [(0, .ref (ad 0)), (1, .ref (ad2 0)), (6, .int v6), (7, .int v7)]) : W p l e rm_L_isStep s m args below meth c H locs 0 0 (MQ below (Post2 g ad ad2 s.heap.size K) args s 0 0 (Aw2 ad ad2 s.heap.size)) (F0 m 291 ls [.int s0]) := by
  obtain ⟨hx, hb, hml, -, hts, hown, -, -, hN⟩ := id C
  unfold wp_L_isStep_B291 at h
  refine lv_iload hx hb dL_isStep_291 (lv_at hl 3 rfl) ?_
  refine lv_icmp_eq (tgt := 311) hx hb dL_isStep_293 (by decide) (fun c_93 => ?_) (fun c_93 => ?_)
  · have h := h.1 c_93
    refine lv_iconst (v := 0) hx hb dL_isStep_311 (by decide) ?_
    exact t_L_isStep_B312 C μ μ2 _ _ _ h w (lv_sub hl [0, 1, 2, 3] rfl)
  · have h := h.2 c_93
    refine lv_aload_n hx hb dL_isStep_296 rfl (lv_at hl 0 rfl) ?_
    refine lv_iload hx hb dL_isStep_297 (lv_at hl 2 rfl) ?_
    refine lv_iconst (v := 1) hx hb dL_isStep_299 (by decide) ?_
    refine x2_calli C w (x_runV (ad := ad) (i := 0) (As := [.int v6, .int 1]) (rest := []) C w.1 (rfl : kd 0 = 0) (by decide) (ci := 4) rfl rfl rfl me_X4_step ml_StairBowsLaw_21 (c_X4_step l g ad μ _ v6 1 h) ⟨rfl, rfl⟩ ⟨Nat.le_of_ble_eq_true rfl, Nat.le_of_ble_eq_true rfl⟩ rfl hl.1 rfl (Nat.le_of_ble_eq_true rfl) dL_isStep_300 ⟨Nat.le_of_ble_eq_true rfl, Nat.le_of_ble_eq_true rfl⟩) (fun r_107 m_108 h H locs w => ?_)
    refine lv_iconst (v := 2) hx hb dL_isStep_303 (by decide) ?_
    refine lv_icmp_ge (tgt := 311) hx hb dL_isStep_304 (by decide) (fun c_109 => ?_) (fun c_109 => ?_)
    · have h := h.1 c_109
      refine lv_iconst (v := 0) hx hb dL_isStep_311 (by decide) ?_
      exact t_L_isStep_B312 C m_108 μ2 _ _ _ h w (lv_sub hl [0, 1, 2, 3] rfl)
    · have h := h.2 c_109
      refine lv_iconst (v := 1) hx hb dL_isStep_307 (by decide) ?_
      refine lv_goto (tgt := 312) hx hb dL_isStep_308 (by decide) ?_
      exact t_L_isStep_B312 C m_108 μ2 _ _ _ h w (lv_sub hl [0, 1, 2, 3] rfl)
set_option maxHeartbeats 4000000 in
set_option maxRecDepth 100000 in
theorem t_L_isStep_L609 {g : Gv} {ad ad2 : Nat → Nat} {l : Launch} {p : Program} {e : Env} {s : State} {m : MethodId} {args : Array Value} {below : List Frame} {meth : Method} {c : Code} (C : Cx g p s m args meth c "StairBowsLaw" cL_isStep 12 (some .boolean)) {v6 : Int32} {v7 : Int32} {v8 : Int32}  {K : Int32 → Mem → Mem → Prop}   : ∀ (n : Nat) (v9 : Int32) (v10 : Int32) (μ : Mem) (μ2 : Mem) (H : Heap) (locs : List Loc) (ls : Array Slot), wp_L_isStep_L609 v6 v7 v8 K n v9 v10 μ μ2 → Wd2 g ad μ ad2 μ2 (Aw2 ad ad2 s.heap.size) s H locs → lv_has ls 12 [(0, .ref (ad 0)), (1, .ref (ad2 0)), (6, .int v6), (7, .int v7), (8, .int v8), (9, .int v9), (10, .int v10)] → W p l e rm_L_isStep s m args below meth c H locs 0 0 (MQ below (Post2 g ad ad2 s.heap.size K) args s 0 0 (Aw2 ad ad2 s.heap.size)) (F0 m 609 ls []) := by
  obtain ⟨hx, hb, hml, -, hts, hown, -, -, hN⟩ := id C
  intro n
  induction n with
  | zero =>
    intro v9 v10 μ μ2 H locs ls h w hl
    exact (show False from h).elim
  | succ n ih =>
    intro v9 v10 μ μ2 H locs ls h w hl
    rw [wp_L_isStep_L609_s] at h
    dsimp only at h
    refine lv_iload hx hb dL_isStep_609 (lv_at hl 6 rfl) ?_
    refine lv_iload hx hb dL_isStep_611 (lv_at hl 2 rfl) ?_
    refine lv_icmp_ge (tgt := 632) hx hb dL_isStep_613 (by decide) (fun c_171 => ?_) (fun c_171 => ?_)
    · have h := h.1 c_171
      refine lv_aload_n hx hb dL_isStep_632 rfl (lv_at hl 0 rfl) ?_
      refine lv_iload hx hb dL_isStep_633 (lv_at hl 2 rfl) ?_
      refine x2_calli C w (x_runV (ad := ad) (i := 0) (As := [.int v6]) (rest := []) C w.1 (rfl : kd 0 = 0) (by decide) (ci := 4) rfl rfl rfl me_X4_pass ml_StairBowsLaw_47 (c_X4_pass l g ad μ _ v6 h) ⟨rfl, rfl⟩ ⟨Nat.le_of_ble_eq_true rfl, Nat.le_of_ble_eq_true rfl⟩ rfl hl.1 rfl (Nat.le_of_ble_eq_true rfl) dL_isStep_635 ⟨Nat.le_of_ble_eq_true rfl, Nat.le_of_ble_eq_true rfl⟩) (fun r_172 m_173 h H locs w => ?_)
      refine lv_iload hx hb dL_isStep_638 (lv_at hl 5 rfl) ?_
      refine lv_icmp_ne (tgt := 674) hx hb dL_isStep_640 (by decide) (fun c_174 => ?_) (fun c_174 => ?_)
      · have h := h.1 c_174
        refine lv_iconst (v := 0) hx hb dL_isStep_674 (by decide) ?_
        exact x2_zret C w (show bz 0 from Or.inl rfl) h dL_isStep_675
      · have h := h.2 c_174
        refine lv_aload_n hx hb dL_isStep_643 rfl (lv_at hl 0 rfl) ?_
        refine lv_iconst (v := 3) hx hb dL_isStep_644 (by decide) ?_
        refine x2_calli C w (x_runV (ad := ad) (i := 0) (As := [.int 3]) (rest := []) C w.1 (rfl : kd 0 = 0) (by decide) (ci := 4) rfl rfl rfl me_X4_count ml_StairBowsLaw_9 (c_X4_count l g ad m_173 _ 3 h) ⟨rfl, rfl⟩ ⟨Nat.le_of_ble_eq_true rfl, Nat.le_of_ble_eq_true rfl⟩ rfl hl.1 rfl (Nat.le_of_ble_eq_true rfl) dL_isStep_645 ⟨Nat.le_of_ble_eq_true rfl, Nat.le_of_ble_eq_true rfl⟩) (fun r_175 m_176 h H locs w => ?_)
        refine lv_iload hx hb dL_isStep_648 (lv_at hl 3 rfl) ?_
        refine lv_iload hx hb dL_isStep_650 (lv_at hl 2 rfl) ?_
        refine lv_iadd hx hb dL_isStep_652 ?_
        refine lv_icmp_ne (tgt := 674) hx hb dL_isStep_653 (by decide) (fun c_177 => ?_) (fun c_177 => ?_)
        · have h := h.1 c_177
          refine lv_iconst (v := 0) hx hb dL_isStep_674 (by decide) ?_
          exact x2_zret C w (show bz 0 from Or.inl rfl) h dL_isStep_675
        · have h := h.2 c_177
          refine lv_aload_n hx hb dL_isStep_656 rfl (lv_at hl 0 rfl) ?_
          refine lv_bipush (v := 7) hx hb dL_isStep_657 (by decide) ?_
          refine x2_calli C w (x_runV (ad := ad) (i := 0) (As := [.int 7]) (rest := []) C w.1 (rfl : kd 0 = 0) (by decide) (ci := 4) rfl rfl rfl me_X4_count ml_StairBowsLaw_9 (c_X4_count l g ad m_176 _ 7 h) ⟨rfl, rfl⟩ ⟨Nat.le_of_ble_eq_true rfl, Nat.le_of_ble_eq_true rfl⟩ rfl hl.1 rfl (Nat.le_of_ble_eq_true rfl) dL_isStep_659 ⟨Nat.le_of_ble_eq_true rfl, Nat.le_of_ble_eq_true rfl⟩) (fun r_178 m_179 h H locs w => ?_)
          refine lv_iload hx hb dL_isStep_662 (lv_at hl 4 rfl) ?_
          refine lv_iload hx hb dL_isStep_664 (lv_at hl 5 rfl) ?_
          refine lv_iadd hx hb dL_isStep_666 ?_
          refine lv_icmp_ne (tgt := 674) hx hb dL_isStep_667 (by decide) (fun c_180 => ?_) (fun c_180 => ?_)
          · have h := h.1 c_180
            refine lv_iconst (v := 0) hx hb dL_isStep_674 (by decide) ?_
            exact x2_zret C w (show bz 0 from Or.inl rfl) h dL_isStep_675
          · have h := h.2 c_180
            refine lv_iconst (v := 1) hx hb dL_isStep_670 (by decide) ?_
            refine lv_goto (tgt := 675) hx hb dL_isStep_671 (by decide) ?_
            exact x2_zret C w (show bz 1 from Or.inr rfl) h dL_isStep_675
    · have h := h.2 c_171
      refine lv_iload hx hb dL_isStep_616 (lv_at hl 5 rfl) ?_
      refine lv_aload_n hx hb dL_isStep_618 rfl (lv_at hl 1 rfl) ?_
      refine lv_iconst (v := 1) hx hb dL_isStep_619 (by decide) ?_
      refine x2_callip C w (x_runV (ad := ad2) (i := 0) (As := [.int 1]) (rest := [.int v9]) C w.2.1 (rfl : kd 0 = 0) (by decide) (ci := 4) rfl rfl rfl me_X4_pass ml_StairBowsLaw_47 (c_X4_pass l g ad2 μ2 _ 1 h) ⟨rfl, rfl⟩ ⟨Nat.le_of_ble_eq_true rfl, Nat.le_of_ble_eq_true rfl⟩ rfl hl.1 rfl (Nat.le_of_ble_eq_true rfl) dL_isStep_620 ⟨Nat.le_of_ble_eq_true rfl, Nat.le_of_ble_eq_true rfl⟩) (fun r_181 m_182 h H locs w => ?_)
      refine lv_iadd hx hb dL_isStep_623 ?_
      refine lv_istore (lv' := [(9, .int (v9 + r_181)), (0, .ref (ad 0)), (1, .ref (ad2 0)), (6, .int v6), (7, .int v7), (8, .int v8), (10, .int v10)]) hx hb dL_isStep_624 hl (by decide) rfl (fun ls hl => ?_)
      refine lv_iinc (v := (v10 + 1)) (lv' := [(10, .int (v10 + 1)), (9, .int (v9 + r_181)), (0, .ref (ad 0)), (1, .ref (ad2 0)), (6, .int v6), (7, .int v7), (8, .int v8)]) hx hb dL_isStep_626 hl (k := 6) rfl rfl (by decide) rfl (fun ls hl => ?_)
      refine lv_goto (tgt := 609) hx hb dL_isStep_629 (by decide) ?_
      exact ih (v9 + r_181) (v10 + 1) μ m_182 _ _ _ h w (lv_sub hl [2, 3, 4, 5, 6, 1, 0] rfl)
set_option maxHeartbeats 4000000 in
set_option maxRecDepth 100000 in
theorem t_L_isStep_B582 {g : Gv} {ad ad2 : Nat → Nat} {l : Launch} {p : Program} {e : Env} {s : State} {m : MethodId} {args : Array Value} {below : List Frame} {meth : Method} {c : Code} (C : Cx g p s m args meth c "StairBowsLaw" cL_isStep 12 (some .boolean)) {s0 : Int32} {s1 : Int32} {s2 : Int32}  {K : Int32 → Mem → Mem → Prop}   (μ : Mem) (μ2 : Mem) (H : Heap) (locs : List Loc) (ls : Array Slot) (h : wp_L_isStep_B582 s0 s1 s2 K μ μ2) (w : Wd2 g ad μ ad2 μ2 (Aw2 ad ad2 s.heap.size) s H locs) (hl : lv_has ls 12 [(0, .ref (ad 0)), (1, .ref (ad2 0))]) : W p l e rm_L_isStep s m args below meth c H locs 0 0 (MQ below (Post2 g ad ad2 s.heap.size K) args s 0 0 (Aw2 ad ad2 s.heap.size)) (F0 m 582 ls [.int s0, .int s1, .int s2]) := by
  obtain ⟨hx, hb, hml, -, hts, hown, -, -, hN⟩ := id C
  unfold wp_L_isStep_B582 at h
  refine x2_calli C w (x_runS (ad := ad) (As := [.int s1, .int s0]) (rest := [.int s2]) C w.1 me_L_up ml_StairBowsLaw_15 (c_L_up l g ad μ _ s1 s0 h) ⟨rfl, rfl⟩ ⟨Nat.le_of_ble_eq_true rfl, Nat.le_of_ble_eq_true rfl⟩ rfl hl.1 rfl (Nat.le_of_ble_eq_true rfl) dL_isStep_582 ⟨Nat.le_of_ble_eq_true rfl, Nat.le_of_ble_eq_true rfl⟩) (fun r_165 m_166 h H locs w => ?_)
  refine lv_iadd hx hb dL_isStep_585 ?_
  refine lv_istore (lv' := [(6, .int (s2 + r_165)), (0, .ref (ad 0)), (1, .ref (ad2 0))]) hx hb dL_isStep_586 hl (by decide) rfl (fun ls hl => ?_)
  refine lv_aload_n hx hb dL_isStep_588 rfl (lv_at hl 1 rfl) ?_
  refine lv_iconst (v := 3) hx hb dL_isStep_589 (by decide) ?_
  refine x2_calli C w (x_runV (ad := ad) (i := 0) (As := [.int 3]) (rest := []) C w.1 (rfl : kd 0 = 0) (by decide) (ci := 4) rfl rfl rfl me_X4_count ml_StairBowsLaw_9 (c_X4_count l g ad m_166 _ 3 h) ⟨rfl, rfl⟩ ⟨Nat.le_of_ble_eq_true rfl, Nat.le_of_ble_eq_true rfl⟩ rfl hl.1 rfl (Nat.le_of_ble_eq_true rfl) dL_isStep_590 ⟨Nat.le_of_ble_eq_true rfl, Nat.le_of_ble_eq_true rfl⟩) (fun r_167 m_168 h H locs w => ?_)
  refine lv_istore (lv' := [(7, .int r_167), (6, .int (s2 + r_165)), (0, .ref (ad 0)), (1, .ref (ad2 0))]) hx hb dL_isStep_593 hl (by decide) rfl (fun ls hl => ?_)
  refine lv_aload_n hx hb dL_isStep_595 rfl (lv_at hl 2 rfl) ?_
  refine lv_bipush (v := 7) hx hb dL_isStep_596 (by decide) ?_
  refine x2_calli C w (x_runV (ad := ad) (i := 0) (As := [.int 7]) (rest := []) C w.1 (rfl : kd 0 = 0) (by decide) (ci := 4) rfl rfl rfl me_X4_count ml_StairBowsLaw_9 (c_X4_count l g ad m_168 _ 7 h) ⟨rfl, rfl⟩ ⟨Nat.le_of_ble_eq_true rfl, Nat.le_of_ble_eq_true rfl⟩ rfl hl.1 rfl (Nat.le_of_ble_eq_true rfl) dL_isStep_598 ⟨Nat.le_of_ble_eq_true rfl, Nat.le_of_ble_eq_true rfl⟩) (fun r_169 m_170 h H locs w => ?_)
  refine lv_istore (lv' := [(8, .int r_169), (7, .int r_167), (6, .int (s2 + r_165)), (0, .ref (ad 0)), (1, .ref (ad2 0))]) hx hb dL_isStep_601 hl (by decide) rfl (fun ls hl => ?_)
  refine lv_iconst (v := 0) hx hb dL_isStep_603 (by decide) ?_
  refine lv_istore (lv' := [(9, .int 0), (8, .int r_169), (7, .int r_167), (6, .int (s2 + r_165)), (0, .ref (ad 0)), (1, .ref (ad2 0))]) hx hb dL_isStep_604 hl (by decide) rfl (fun ls hl => ?_)
  refine lv_iconst (v := 0) hx hb dL_isStep_606 (by decide) ?_
  refine lv_istore (lv' := [(10, .int 0), (9, .int 0), (8, .int r_169), (7, .int r_167), (6, .int (s2 + r_165)), (0, .ref (ad 0)), (1, .ref (ad2 0))]) hx hb dL_isStep_607 hl (by decide) rfl (fun ls hl => ?_)
  obtain ⟨n_183, h⟩ := h
  exact t_L_isStep_L609 C n_183 0 0 m_170 μ2 _ _ _ h w (lv_sub hl [5, 6, 4, 3, 2, 1, 0] rfl)
set_option maxHeartbeats 4000000 in
set_option maxRecDepth 100000 in
theorem c_L_isStep (l : Launch) (g : Gv) (ad : Nat → Nat) (μ : Mem) (ad2 : Nat → Nat) (μ2 : Mem) (sz : Nat) (a2 : Int32) (a3 : Int32) {K : Int32 → Mem → Mem → Prop} (h : wp_L_isStep a2 a3 μ μ2 K) : Met l yL_isStep (wX yL_isStep cL_isStep 12 (some .boolean)) rm_L_isStep (Pre2 g ad μ ad2 μ2 sz [.ref (ad 0), .ref (ad2 0), .int a2, .int a3]) (Post2 g ad ad2 sz K) 0 0 (Aw2 ad ad2 sz) := by
  refine Met.ofW (cc := cL_isStep) (maxL := 12) (ret := (some .boolean)) (by decide) rfl ?_
  intro p e s m args below meth c s₁ B hml hv
  obtain ⟨rfl, rfl, C, w⟩ := x2_start B hml hv
  obtain ⟨hx, hb, hml, -, hts, hown, -, -, hN⟩ := id C
  have hl := lv_entry ([.ref (ad 0), .ref (ad2 0), .int a2, .int a3]) (n := 12) (Nat.le_of_ble_eq_true rfl)
  rw [lg_entry_eq]
  generalize (lg_sl ([.ref (ad 0), .ref (ad2 0), .int a2, .int a3]) ++ List.replicate (12 - (lg_sl ([.ref (ad 0), .ref (ad2 0), .int a2, .int a3])).length) Slot.unset).toArray = ls at hl ⊢
  have hl : lv_has ls 12 [(0, .ref (ad 0)), (1, .ref (ad2 0)), (2, .int a2), (3, .int a3)] := hl
  show W p l e rm_L_isStep s m _ below meth c s.heap [] 0 0 _ _
  unfold wp_L_isStep at h
  refine lv_iload_n hx hb dL_isStep_0 rfl (lv_at hl 2 rfl) ?_
  refine lv_iconst (v := 4) hx hb dL_isStep_1 (by decide) ?_
  refine lv_ishr hx hb dL_isStep_2 ?_
  refine lv_istore (lv' := [(4, .int (a2 >>> (4 &&& 31))), (0, .ref (ad 0)), (1, .ref (ad2 0)), (2, .int a2), (3, .int a3)]) hx hb dL_isStep_3 hl (by decide) rfl (fun ls hl => ?_)
  refine lv_aload_n hx hb dL_isStep_5 rfl (lv_at hl 1 rfl) ?_
  refine lv_iconst (v := 4) hx hb dL_isStep_6 (by decide) ?_
  refine x2_calli C w (x_runV (ad := ad) (i := 0) (As := [.int 4]) (rest := []) C w.1 (rfl : kd 0 = 0) (by decide) (ci := 4) rfl rfl rfl me_X4_count ml_StairBowsLaw_9 (c_X4_count l g ad μ _ 4 h) ⟨rfl, rfl⟩ ⟨Nat.le_of_ble_eq_true rfl, Nat.le_of_ble_eq_true rfl⟩ rfl hl.1 rfl (Nat.le_of_ble_eq_true rfl) dL_isStep_7 ⟨Nat.le_of_ble_eq_true rfl, Nat.le_of_ble_eq_true rfl⟩) (fun r_1 m_2 h H locs w => ?_)
  refine lv_istore (lv' := [(5, .int r_1), (4, .int (a2 >>> (4 &&& 31))), (0, .ref (ad 0)), (1, .ref (ad2 0)), (2, .int a2), (3, .int a3)]) hx hb dL_isStep_10 hl (by decide) rfl (fun ls hl => ?_)
  refine lv_iload_n hx hb dL_isStep_12 rfl (lv_at hl 4 rfl) ?_
  refine lv_bipush (v := 16) hx hb dL_isStep_13 (by decide) ?_
  refine x2_calli C w (x_runS (ad := ad) (As := [.int a2, .int 16]) (rest := []) C w.1 me_L_up ml_StairBowsLaw_15 (c_L_up l g ad m_2 _ a2 16 h) ⟨rfl, rfl⟩ ⟨Nat.le_of_ble_eq_true rfl, Nat.le_of_ble_eq_true rfl⟩ rfl hl.1 rfl (Nat.le_of_ble_eq_true rfl) dL_isStep_15 ⟨Nat.le_of_ble_eq_true rfl, Nat.le_of_ble_eq_true rfl⟩) (fun r_3 m_4 h H locs w => ?_)
  by_cases c_5 : r_3.toInt < 0 ∨ 9 < r_3.toInt
  · have h := h.1 c_5
    refine lv_tableOut (tgt := 676) hx hb dL_isStep_18 c_5 (by decide) ?_
    refine lv_iconst (v := 1) hx hb dL_isStep_676 (by decide) ?_
    refine lv_iload_n hx hb dL_isStep_677 rfl (lv_at hl 5 rfl) ?_
    refine lv_iload hx hb dL_isStep_678 (lv_at hl 1 rfl) ?_
    refine lv_iconst (v := 2) hx hb dL_isStep_680 (by decide) ?_
    refine x2_calli C w (x_runS (ad := ad) (As := [.int (a2 >>> (4 &&& 31)), .int 2]) (rest := [.int a3, .int 1]) C w.1 me_L_up ml_StairBowsLaw_15 (c_L_up l g ad m_4 _ (a2 >>> (4 &&& 31)) 2 h) ⟨rfl, rfl⟩ ⟨Nat.le_of_ble_eq_true rfl, Nat.le_of_ble_eq_true rfl⟩ rfl hl.1 rfl (Nat.le_of_ble_eq_true rfl) dL_isStep_681 ⟨Nat.le_of_ble_eq_true rfl, Nat.le_of_ble_eq_true rfl⟩) (fun r_6 m_7 h H locs w => ?_)
    refine lv_if_ne (tgt := 692) hx hb dL_isStep_684 (by decide) (fun c_8 => ?_) (fun c_8 => ?_)
    · have h := h.1 c_8
      refine lv_iconst (v := 3) hx hb dL_isStep_692 (by decide) ?_
      refine x2_calli C w (x_runS (ad := ad) (As := [.int a3, .int 3]) (rest := [.int 1]) C w.1 me_L_up ml_StairBowsLaw_15 (c_L_up l g ad m_7 _ a3 3 h) ⟨rfl, rfl⟩ ⟨Nat.le_of_ble_eq_true rfl, Nat.le_of_ble_eq_true rfl⟩ rfl hl.1 rfl (Nat.le_of_ble_eq_true rfl) dL_isStep_693 ⟨Nat.le_of_ble_eq_true rfl, Nat.le_of_ble_eq_true rfl⟩) (fun r_9 m_10 h H locs w => ?_)
      refine lv_iadd hx hb dL_isStep_696 ?_
      refine lv_istore (lv' := [(6, .int (1 + r_9)), (5, .int r_1), (4, .int (a2 >>> (4 &&& 31))), (0, .ref (ad 0)), (1, .ref (ad2 0)), (2, .int a2), (3, .int a3)]) hx hb dL_isStep_697 hl (by decide) rfl (fun ls hl => ?_)
      refine lv_iload_n hx hb dL_isStep_699 rfl (lv_at hl 6 rfl) ?_
      refine lv_iconst (v := 4) hx hb dL_isStep_700 (by decide) ?_
      refine lv_ishr hx hb dL_isStep_701 ?_
      refine lv_iconst (v := 2) hx hb dL_isStep_702 (by decide) ?_
      refine x2_calli C w (x_runS (ad := ad) (As := [.int (a3 >>> (4 &&& 31)), .int 2]) (rest := []) C w.1 me_L_up ml_StairBowsLaw_15 (c_L_up l g ad m_10 _ (a3 >>> (4 &&& 31)) 2 h) ⟨rfl, rfl⟩ ⟨Nat.le_of_ble_eq_true rfl, Nat.le_of_ble_eq_true rfl⟩ rfl hl.1 rfl (Nat.le_of_ble_eq_true rfl) dL_isStep_703 ⟨Nat.le_of_ble_eq_true rfl, Nat.le_of_ble_eq_true rfl⟩) (fun r_11 m_12 h H locs w => ?_)
      refine lv_if_ne (tgt := 713) hx hb dL_isStep_706 (by decide) (fun c_13 => ?_) (fun c_13 => ?_)
      · have h := h.1 c_13
        refine lv_iconst (v := 0) hx hb dL_isStep_713 (by decide) ?_
        exact t_L_isStep_B714 C m_12 μ2 _ _ _ h w (lv_sub hl [3, 4, 1, 0] rfl)
      · have h := h.2 c_13
        refine lv_iconst (v := 1) hx hb dL_isStep_709 (by decide) ?_
        refine lv_goto (tgt := 714) hx hb dL_isStep_710 (by decide) ?_
        exact t_L_isStep_B714 C m_12 μ2 _ _ _ h w (lv_sub hl [3, 4, 1, 0] rfl)
    · have h := h.2 c_8
      refine lv_bipush (v := 9) hx hb dL_isStep_687 (by decide) ?_
      refine lv_goto (tgt := 693) hx hb dL_isStep_689 (by decide) ?_
      refine x2_calli C w (x_runS (ad := ad) (As := [.int a3, .int 9]) (rest := [.int 1]) C w.1 me_L_up ml_StairBowsLaw_15 (c_L_up l g ad m_7 _ a3 9 h) ⟨rfl, rfl⟩ ⟨Nat.le_of_ble_eq_true rfl, Nat.le_of_ble_eq_true rfl⟩ rfl hl.1 rfl (Nat.le_of_ble_eq_true rfl) dL_isStep_693 ⟨Nat.le_of_ble_eq_true rfl, Nat.le_of_ble_eq_true rfl⟩) (fun r_41 m_42 h H locs w => ?_)
      refine lv_iadd hx hb dL_isStep_696 ?_
      refine lv_istore (lv' := [(6, .int (1 + r_41)), (5, .int r_1), (4, .int (a2 >>> (4 &&& 31))), (0, .ref (ad 0)), (1, .ref (ad2 0)), (2, .int a2), (3, .int a3)]) hx hb dL_isStep_697 hl (by decide) rfl (fun ls hl => ?_)
      refine lv_iload_n hx hb dL_isStep_699 rfl (lv_at hl 6 rfl) ?_
      refine lv_iconst (v := 4) hx hb dL_isStep_700 (by decide) ?_
      refine lv_ishr hx hb dL_isStep_701 ?_
      refine lv_iconst (v := 2) hx hb dL_isStep_702 (by decide) ?_
      refine x2_calli C w (x_runS (ad := ad) (As := [.int (a3 >>> (4 &&& 31)), .int 2]) (rest := []) C w.1 me_L_up ml_StairBowsLaw_15 (c_L_up l g ad m_42 _ (a3 >>> (4 &&& 31)) 2 h) ⟨rfl, rfl⟩ ⟨Nat.le_of_ble_eq_true rfl, Nat.le_of_ble_eq_true rfl⟩ rfl hl.1 rfl (Nat.le_of_ble_eq_true rfl) dL_isStep_703 ⟨Nat.le_of_ble_eq_true rfl, Nat.le_of_ble_eq_true rfl⟩) (fun r_43 m_44 h H locs w => ?_)
      refine lv_if_ne (tgt := 713) hx hb dL_isStep_706 (by decide) (fun c_45 => ?_) (fun c_45 => ?_)
      · have h := h.1 c_45
        refine lv_iconst (v := 0) hx hb dL_isStep_713 (by decide) ?_
        exact t_L_isStep_B714 C m_44 μ2 _ _ _ h w (lv_sub hl [3, 4, 1, 0] rfl)
      · have h := h.2 c_45
        refine lv_iconst (v := 1) hx hb dL_isStep_709 (by decide) ?_
        refine lv_goto (tgt := 714) hx hb dL_isStep_710 (by decide) ?_
        exact t_L_isStep_B714 C m_44 μ2 _ _ _ h w (lv_sub hl [3, 4, 1, 0] rfl)
  · by_cases c_84 : r_3.toInt = 0
    · have h := h.2.1 c_84
      refine lv_tableIn (off := 54) (tgt := 72) hx hb dL_isStep_18 (by omega) (by omega) (by rw [c_84]; rfl) (by decide) ?_
      refine lv_iload hx hb dL_isStep_72 (lv_at hl 1 rfl) ?_
      refine lv_iconst (v := 2) hx hb dL_isStep_74 (by decide) ?_
      refine x2_calli C w (x_runS (ad := ad) (As := [.int (a2 >>> (4 &&& 31)), .int 2]) (rest := []) C w.1 me_L_up ml_StairBowsLaw_15 (c_L_up l g ad m_4 _ (a2 >>> (4 &&& 31)) 2 h) ⟨rfl, rfl⟩ ⟨Nat.le_of_ble_eq_true rfl, Nat.le_of_ble_eq_true rfl⟩ rfl hl.1 rfl (Nat.le_of_ble_eq_true rfl) dL_isStep_75 ⟨Nat.le_of_ble_eq_true rfl, Nat.le_of_ble_eq_true rfl⟩) (fun r_46 m_47 h H locs w => ?_)
      refine lv_if_ne (tgt := 85) hx hb dL_isStep_78 (by decide) (fun c_48 => ?_) (fun c_48 => ?_)
      · have h := h.1 c_48
        refine lv_iconst (v := 0) hx hb dL_isStep_85 (by decide) ?_
        exact t_L_isStep_B86 C m_47 μ2 _ _ _ h w (lv_sub hl [2, 3, 5, 1] rfl)
      · have h := h.2 c_48
        refine lv_iconst (v := 1) hx hb dL_isStep_81 (by decide) ?_
        refine lv_goto (tgt := 86) hx hb dL_isStep_82 (by decide) ?_
        exact t_L_isStep_B86 C m_47 μ2 _ _ _ h w (lv_sub hl [2, 3, 5, 1] rfl)
    · by_cases c_113 : r_3.toInt = 1
      · have h := h.2.2.1 c_113
        refine lv_tableIn (off := 233) (tgt := 251) hx hb dL_isStep_18 (by omega) (by omega) (by rw [c_113]; rfl) (by decide) ?_
        refine lv_iload hx hb dL_isStep_251 (lv_at hl 1 rfl) ?_
        refine lv_bipush (v := 12) hx hb dL_isStep_253 (by decide) ?_
        refine x2_calli C w (x_runS (ad := ad) (As := [.int (a2 >>> (4 &&& 31)), .int 12]) (rest := []) C w.1 me_L_up ml_StairBowsLaw_15 (c_L_up l g ad m_4 _ (a2 >>> (4 &&& 31)) 12 h) ⟨rfl, rfl⟩ ⟨Nat.le_of_ble_eq_true rfl, Nat.le_of_ble_eq_true rfl⟩ rfl hl.1 rfl (Nat.le_of_ble_eq_true rfl) dL_isStep_255 ⟨Nat.le_of_ble_eq_true rfl, Nat.le_of_ble_eq_true rfl⟩) (fun r_85 m_86 h H locs w => ?_)
        refine lv_istore (lv' := [(6, .int r_85), (5, .int r_1), (4, .int (a2 >>> (4 &&& 31))), (0, .ref (ad 0)), (1, .ref (ad2 0)), (2, .int a2), (3, .int a3)]) hx hb dL_isStep_258 hl (by decide) rfl (fun ls hl => ?_)
        refine lv_iload_n hx hb dL_isStep_260 rfl (lv_at hl 6 rfl) ?_
        refine lv_iconst (v := 2) hx hb dL_isStep_261 (by decide) ?_
        refine x2_calli C w (x_runS (ad := ad) (As := [.int a3, .int 2]) (rest := []) C w.1 me_L_up ml_StairBowsLaw_15 (c_L_up l g ad m_86 _ a3 2 h) ⟨rfl, rfl⟩ ⟨Nat.le_of_ble_eq_true rfl, Nat.le_of_ble_eq_true rfl⟩ rfl hl.1 rfl (Nat.le_of_ble_eq_true rfl) dL_isStep_262 ⟨Nat.le_of_ble_eq_true rfl, Nat.le_of_ble_eq_true rfl⟩) (fun r_87 m_88 h H locs w => ?_)
        refine lv_if_ne (tgt := 272) hx hb dL_isStep_265 (by decide) (fun c_89 => ?_) (fun c_89 => ?_)
        · have h := h.1 c_89
          refine lv_iconst (v := 0) hx hb dL_isStep_272 (by decide) ?_
          refine lv_istore (lv' := [(7, .int 0), (6, .int r_85), (5, .int r_1), (4, .int (a2 >>> (4 &&& 31))), (0, .ref (ad 0)), (1, .ref (ad2 0)), (2, .int a2), (3, .int a3)]) hx hb dL_isStep_273 hl (by decide) rfl (fun ls hl => ?_)
          refine lv_aload_n hx hb dL_isStep_275 rfl (lv_at hl 4 rfl) ?_
          refine lv_iload hx hb dL_isStep_276 (lv_at hl 1 rfl) ?_
          refine lv_iconst (v := 0) hx hb dL_isStep_278 (by decide) ?_
          refine x2_calli C w (x_runV (ad := ad) (i := 0) (As := [.int r_85, .int 0]) (rest := []) C w.1 (rfl : kd 0 = 0) (by decide) (ci := 4) rfl rfl rfl me_X4_step ml_StairBowsLaw_21 (c_X4_step l g ad m_88 _ r_85 0 h) ⟨rfl, rfl⟩ ⟨Nat.le_of_ble_eq_true rfl, Nat.le_of_ble_eq_true rfl⟩ rfl hl.1 rfl (Nat.le_of_ble_eq_true rfl) dL_isStep_279 ⟨Nat.le_of_ble_eq_true rfl, Nat.le_of_ble_eq_true rfl⟩) (fun r_90 m_91 h H locs w => ?_)
          refine lv_iconst (v := 1) hx hb dL_isStep_282 (by decide) ?_
          refine lv_icmp_ne (tgt := 290) hx hb dL_isStep_283 (by decide) (fun c_92 => ?_) (fun c_92 => ?_)
          · have h := h.1 c_92
            refine lv_iconst (v := 0) hx hb dL_isStep_290 (by decide) ?_
            exact t_L_isStep_B291 C m_91 μ2 _ _ _ h w (lv_sub hl [4, 5, 1, 0] rfl)
          · have h := h.2 c_92
            refine lv_iconst (v := 1) hx hb dL_isStep_286 (by decide) ?_
            refine lv_goto (tgt := 291) hx hb dL_isStep_287 (by decide) ?_
            exact t_L_isStep_B291 C m_91 μ2 _ _ _ h w (lv_sub hl [4, 5, 1, 0] rfl)
        · have h := h.2 c_89
          refine lv_iconst (v := 1) hx hb dL_isStep_268 (by decide) ?_
          refine lv_goto (tgt := 273) hx hb dL_isStep_269 (by decide) ?_
          refine lv_istore (lv' := [(7, .int 1), (6, .int r_85), (5, .int r_1), (4, .int (a2 >>> (4 &&& 31))), (0, .ref (ad 0)), (1, .ref (ad2 0)), (2, .int a2), (3, .int a3)]) hx hb dL_isStep_273 hl (by decide) rfl (fun ls hl => ?_)
          refine lv_aload_n hx hb dL_isStep_275 rfl (lv_at hl 4 rfl) ?_
          refine lv_iload hx hb dL_isStep_276 (lv_at hl 1 rfl) ?_
          refine lv_iconst (v := 0) hx hb dL_isStep_278 (by decide) ?_
          refine x2_calli C w (x_runV (ad := ad) (i := 0) (As := [.int r_85, .int 0]) (rest := []) C w.1 (rfl : kd 0 = 0) (by decide) (ci := 4) rfl rfl rfl me_X4_step ml_StairBowsLaw_21 (c_X4_step l g ad m_88 _ r_85 0 h) ⟨rfl, rfl⟩ ⟨Nat.le_of_ble_eq_true rfl, Nat.le_of_ble_eq_true rfl⟩ rfl hl.1 rfl (Nat.le_of_ble_eq_true rfl) dL_isStep_279 ⟨Nat.le_of_ble_eq_true rfl, Nat.le_of_ble_eq_true rfl⟩) (fun r_110 m_111 h H locs w => ?_)
          refine lv_iconst (v := 1) hx hb dL_isStep_282 (by decide) ?_
          refine lv_icmp_ne (tgt := 290) hx hb dL_isStep_283 (by decide) (fun c_112 => ?_) (fun c_112 => ?_)
          · have h := h.1 c_112
            refine lv_iconst (v := 0) hx hb dL_isStep_290 (by decide) ?_
            exact t_L_isStep_B291 C m_111 μ2 _ _ _ h w (lv_sub hl [4, 5, 1, 0] rfl)
          · have h := h.2 c_112
            refine lv_iconst (v := 1) hx hb dL_isStep_286 (by decide) ?_
            refine lv_goto (tgt := 291) hx hb dL_isStep_287 (by decide) ?_
            exact t_L_isStep_B291 C m_111 μ2 _ _ _ h w (lv_sub hl [4, 5, 1, 0] rfl)
      · by_cases c_130 : r_3.toInt = 2
        · have h := h.2.2.2.1 c_130
          refine lv_tableIn (off := 366) (tgt := 384) hx hb dL_isStep_18 (by omega) (by omega) (by rw [c_130]; rfl) (by decide) ?_
          refine lv_iload hx hb dL_isStep_384 (lv_at hl 1 rfl) ?_
          refine lv_iload hx hb dL_isStep_386 (lv_at hl 0 rfl) ?_
          refine lv_iconst (v := 1) hx hb dL_isStep_388 (by decide) ?_
          refine lv_iadd hx hb dL_isStep_389 ?_
          refine x2_calli C w (x_runS (ad := ad) (As := [.int (a2 >>> (4 &&& 31)), .int (r_1 + 1)]) (rest := []) C w.1 me_L_up ml_StairBowsLaw_15 (c_L_up l g ad m_4 _ (a2 >>> (4 &&& 31)) (r_1 + 1) h) ⟨rfl, rfl⟩ ⟨Nat.le_of_ble_eq_true rfl, Nat.le_of_ble_eq_true rfl⟩ rfl hl.1 rfl (Nat.le_of_ble_eq_true rfl) dL_isStep_390 ⟨Nat.le_of_ble_eq_true rfl, Nat.le_of_ble_eq_true rfl⟩) (fun r_114 m_115 h H locs w => ?_)
          refine lv_istore (lv' := [(6, .int r_114), (5, .int r_1), (4, .int (a2 >>> (4 &&& 31))), (0, .ref (ad 0)), (1, .ref (ad2 0)), (2, .int a2), (3, .int a3)]) hx hb dL_isStep_393 hl (by decide) rfl (fun ls hl => ?_)
          refine lv_aload_n hx hb dL_isStep_395 rfl (lv_at hl 3 rfl) ?_
          refine lv_iload hx hb dL_isStep_396 (lv_at hl 0 rfl) ?_
          refine lv_iconst (v := 1) hx hb dL_isStep_398 (by decide) ?_
          refine x2_calli C w (x_runV (ad := ad) (i := 0) (As := [.int r_114, .int 1]) (rest := []) C w.1 (rfl : kd 0 = 0) (by decide) (ci := 4) rfl rfl rfl me_X4_person ml_StairBowsLaw_31 (c_X4_person l g ad m_115 _ r_114 1 h) ⟨rfl, rfl⟩ ⟨Nat.le_of_ble_eq_true rfl, Nat.le_of_ble_eq_true rfl⟩ rfl hl.1 rfl (Nat.le_of_ble_eq_true rfl) dL_isStep_399 ⟨Nat.le_of_ble_eq_true rfl, Nat.le_of_ble_eq_true rfl⟩) (fun r_116 m_117 h H locs w => ?_)
          refine lv_istore (lv' := [(7, .int r_116), (6, .int r_114), (5, .int r_1), (4, .int (a2 >>> (4 &&& 31))), (0, .ref (ad 0)), (1, .ref (ad2 0)), (2, .int a2), (3, .int a3)]) hx hb dL_isStep_402 hl (by decide) rfl (fun ls hl => ?_)
          refine lv_aload_n hx hb dL_isStep_404 rfl (lv_at hl 4 rfl) ?_
          refine lv_iload hx hb dL_isStep_405 (lv_at hl 1 rfl) ?_
          refine lv_iconst (v := 2) hx hb dL_isStep_407 (by decide) ?_
          refine x2_calli C w (x_runV (ad := ad) (i := 0) (As := [.int r_114, .int 2]) (rest := []) C w.1 (rfl : kd 0 = 0) (by decide) (ci := 4) rfl rfl rfl me_X4_person ml_StairBowsLaw_31 (c_X4_person l g ad m_117 _ r_114 2 h) ⟨rfl, rfl⟩ ⟨Nat.le_of_ble_eq_true rfl, Nat.le_of_ble_eq_true rfl⟩ rfl hl.1 rfl (Nat.le_of_ble_eq_true rfl) dL_isStep_408 ⟨Nat.le_of_ble_eq_true rfl, Nat.le_of_ble_eq_true rfl⟩) (fun r_118 m_119 h H locs w => ?_)
          refine lv_istore (lv' := [(8, .int r_118), (7, .int r_116), (6, .int r_114), (5, .int r_1), (4, .int (a2 >>> (4 &&& 31))), (0, .ref (ad 0)), (1, .ref (ad2 0)), (2, .int a2), (3, .int a3)]) hx hb dL_isStep_411 hl (by decide) rfl (fun ls hl => ?_)
          refine lv_aload_n hx hb dL_isStep_413 rfl (lv_at hl 5 rfl) ?_
          refine lv_iload hx hb dL_isStep_414 (lv_at hl 2 rfl) ?_
          refine x2_calli C w (x_runV (ad := ad) (i := 0) (As := [.int r_114]) (rest := []) C w.1 (rfl : kd 0 = 0) (by decide) (ci := 4) rfl rfl rfl me_X4_turn ml_StairBowsLaw_34 (c_X4_turn l g ad m_119 _ r_114 h) ⟨rfl, rfl⟩ ⟨Nat.le_of_ble_eq_true rfl, Nat.le_of_ble_eq_true rfl⟩ rfl hl.1 rfl (Nat.le_of_ble_eq_true rfl) dL_isStep_416 ⟨Nat.le_of_ble_eq_true rfl, Nat.le_of_ble_eq_true rfl⟩) (fun r_120 m_121 h H locs w => ?_)
          refine lv_istore (lv' := [(9, .int r_120), (8, .int r_118), (7, .int r_116), (6, .int r_114), (5, .int r_1), (4, .int (a2 >>> (4 &&& 31))), (0, .ref (ad 0)), (1, .ref (ad2 0)), (2, .int a2), (3, .int a3)]) hx hb dL_isStep_419 hl (by decide) rfl (fun ls hl => ?_)
          refine lv_iload hx hb dL_isStep_421 (lv_at hl 0 rfl) ?_
          refine lv_aload_n hx hb dL_isStep_423 rfl (lv_at hl 7 rfl) ?_
          refine lv_iload hx hb dL_isStep_424 (lv_at hl 3 rfl) ?_
          refine x2_callip C w (x_runV (ad := ad2) (i := 0) (As := [.int r_114]) (rest := [.int r_120]) C w.2.1 (rfl : kd 0 = 0) (by decide) (ci := 4) rfl rfl rfl me_X4_turn ml_StairBowsLaw_34 (c_X4_turn l g ad2 μ2 _ r_114 h) ⟨rfl, rfl⟩ ⟨Nat.le_of_ble_eq_true rfl, Nat.le_of_ble_eq_true rfl⟩ rfl hl.1 rfl (Nat.le_of_ble_eq_true rfl) dL_isStep_426 ⟨Nat.le_of_ble_eq_true rfl, Nat.le_of_ble_eq_true rfl⟩) (fun r_122 m_123 h H locs w => ?_)
          refine lv_icmp_ne (tgt := 467) hx hb dL_isStep_429 (by decide) (fun c_124 => ?_) (fun c_124 => ?_)
          · have h := h.1 c_124
            refine lv_iconst (v := 0) hx hb dL_isStep_467 (by decide) ?_
            exact x2_zret C w (show bz 0 from Or.inl rfl) h dL_isStep_468
          · have h := h.2 c_124
            refine lv_iload hx hb dL_isStep_432 (lv_at hl 0 rfl) ?_
            refine lv_iload hx hb dL_isStep_434 (lv_at hl 3 rfl) ?_
            refine lv_iload hx hb dL_isStep_436 (lv_at hl 4 rfl) ?_
            refine lv_icmp_ne (tgt := 445) hx hb dL_isStep_438 (by decide) (fun c_125 => ?_) (fun c_125 => ?_)
            · have h := h.1 c_125
              refine lv_iload hx hb dL_isStep_445 (lv_at hl 1 rfl) ?_
              refine lv_iconst (v := 1) hx hb dL_isStep_447 (by decide) ?_
              refine lv_icmp_eq (tgt := 456) hx hb dL_isStep_448 (by decide) (fun c_126 => ?_) (fun c_126 => ?_)
              · have h := h.1 c_126
                refine lv_iconst (v := 1) hx hb dL_isStep_456 (by decide) ?_
                refine lv_iload hx hb dL_isStep_457 (lv_at hl 2 rfl) ?_
                refine lv_isub hx hb dL_isStep_459 ?_
                refine lv_icmp_ne (tgt := 467) hx hb dL_isStep_460 (by decide) (fun c_127 => ?_) (fun c_127 => ?_)
                · have h := h.1 c_127
                  refine lv_iconst (v := 0) hx hb dL_isStep_467 (by decide) ?_
                  exact x2_zret C w (show bz 0 from Or.inl rfl) h dL_isStep_468
                · have h := h.2 c_127
                  refine lv_iconst (v := 1) hx hb dL_isStep_463 (by decide) ?_
                  refine lv_goto (tgt := 468) hx hb dL_isStep_464 (by decide) ?_
                  exact x2_zret C w (show bz 1 from Or.inr rfl) h dL_isStep_468
              · have h := h.2 c_126
                refine lv_bipush (v := -5) hx hb dL_isStep_451 (by decide) ?_
                refine lv_goto (tgt := 460) hx hb dL_isStep_453 (by decide) ?_
                refine lv_icmp_ne (tgt := 467) hx hb dL_isStep_460 (by decide) (fun c_128 => ?_) (fun c_128 => ?_)
                · have h := h.1 c_128
                  refine lv_iconst (v := 0) hx hb dL_isStep_467 (by decide) ?_
                  exact x2_zret C w (show bz 0 from Or.inl rfl) h dL_isStep_468
                · have h := h.2 c_128
                  refine lv_iconst (v := 1) hx hb dL_isStep_463 (by decide) ?_
                  refine lv_goto (tgt := 468) hx hb dL_isStep_464 (by decide) ?_
                  exact x2_zret C w (show bz 1 from Or.inr rfl) h dL_isStep_468
            · have h := h.2 c_125
              refine lv_iconst (v := -1) hx hb dL_isStep_441 (by decide) ?_
              refine lv_goto (tgt := 460) hx hb dL_isStep_442 (by decide) ?_
              refine lv_icmp_ne (tgt := 467) hx hb dL_isStep_460 (by decide) (fun c_129 => ?_) (fun c_129 => ?_)
              · have h := h.1 c_129
                refine lv_iconst (v := 0) hx hb dL_isStep_467 (by decide) ?_
                exact x2_zret C w (show bz 0 from Or.inl rfl) h dL_isStep_468
              · have h := h.2 c_129
                refine lv_iconst (v := 1) hx hb dL_isStep_463 (by decide) ?_
                refine lv_goto (tgt := 468) hx hb dL_isStep_464 (by decide) ?_
                exact x2_zret C w (show bz 1 from Or.inr rfl) h dL_isStep_468
        · by_cases c_139 : r_3.toInt = 3
          · have h := h.2.2.2.2.1 c_139
            refine lv_tableIn (off := 451) (tgt := 469) hx hb dL_isStep_18 (by omega) (by omega) (by rw [c_139]; rfl) (by decide) ?_
            refine lv_aload_n hx hb dL_isStep_469 rfl (lv_at hl 2 rfl) ?_
            refine lv_bipush (v := 14) hx hb dL_isStep_470 (by decide) ?_
            refine x2_calli C w (x_runV (ad := ad) (i := 0) (As := [.int 14]) (rest := []) C w.1 (rfl : kd 0 = 0) (by decide) (ci := 4) rfl rfl rfl me_X4_count ml_StairBowsLaw_9 (c_X4_count l g ad m_4 _ 14 h) ⟨rfl, rfl⟩ ⟨Nat.le_of_ble_eq_true rfl, Nat.le_of_ble_eq_true rfl⟩ rfl hl.1 rfl (Nat.le_of_ble_eq_true rfl) dL_isStep_472 ⟨Nat.le_of_ble_eq_true rfl, Nat.le_of_ble_eq_true rfl⟩) (fun r_131 m_132 h H locs w => ?_)
            refine lv_if_eq (tgt := 489) hx hb dL_isStep_475 (by decide) (fun c_133 => ?_) (fun c_133 => ?_)
            · have h := h.1 c_133
              refine lv_iconst (v := 1) hx hb dL_isStep_489 (by decide) ?_
              refine lv_goto (tgt := 494) hx hb dL_isStep_490 (by decide) ?_
              exact x2_zret C w (show bz 1 from Or.inr rfl) h dL_isStep_494
            · have h := h.2 c_133
              refine lv_aload_n hx hb dL_isStep_478 rfl (lv_at hl 2 rfl) ?_
              refine x2_calli C w (x_runV (ad := ad) (i := 0) (As := []) (rest := []) C w.1 (rfl : kd 0 = 0) (by decide) (ci := 4) rfl rfl rfl me_X4_untilEmpty ml_StairBowsLaw_37 (c_X4_untilEmpty l g ad m_132 _  h) ⟨rfl, rfl⟩ ⟨Nat.le_of_ble_eq_true rfl, Nat.le_of_ble_eq_true rfl⟩ rfl hl.1 rfl (Nat.le_of_ble_eq_true rfl) dL_isStep_479 ⟨Nat.le_of_ble_eq_true rfl, Nat.le_of_ble_eq_true rfl⟩) (fun r_134 m_135 h H locs w => ?_)
              refine lv_aload_n hx hb dL_isStep_482 rfl (lv_at hl 3 rfl) ?_
              refine x2_callip C w (x_runV (ad := ad2) (i := 0) (As := []) (rest := [.int r_134]) C w.2.1 (rfl : kd 0 = 0) (by decide) (ci := 4) rfl rfl rfl me_X4_untilEmpty ml_StairBowsLaw_37 (c_X4_untilEmpty l g ad2 μ2 _  h) ⟨rfl, rfl⟩ ⟨Nat.le_of_ble_eq_true rfl, Nat.le_of_ble_eq_true rfl⟩ rfl hl.1 rfl (Nat.le_of_ble_eq_true rfl) dL_isStep_483 ⟨Nat.le_of_ble_eq_true rfl, Nat.le_of_ble_eq_true rfl⟩) (fun r_136 m_137 h H locs w => ?_)
              refine lv_icmp_ne (tgt := 493) hx hb dL_isStep_486 (by decide) (fun c_138 => ?_) (fun c_138 => ?_)
              · have h := h.1 c_138
                refine lv_iconst (v := 0) hx hb dL_isStep_493 (by decide) ?_
                exact x2_zret C w (show bz 0 from Or.inl rfl) h dL_isStep_494
              · have h := h.2 c_138
                refine lv_iconst (v := 1) hx hb dL_isStep_489 (by decide) ?_
                refine lv_goto (tgt := 494) hx hb dL_isStep_490 (by decide) ?_
                exact x2_zret C w (show bz 1 from Or.inr rfl) h dL_isStep_494
          · by_cases c_161 : r_3.toInt = 4
            · have h := h.2.2.2.2.2.1 c_161
              refine lv_tableIn (off := 477) (tgt := 495) hx hb dL_isStep_18 (by omega) (by omega) (by rw [c_161]; rfl) (by decide) ?_
              refine lv_iload_n hx hb dL_isStep_495 rfl (lv_at hl 5 rfl) ?_
              refine lv_iconst (v := 2) hx hb dL_isStep_496 (by decide) ?_
              refine x2_calli C w (x_runS (ad := ad) (As := [.int a3, .int 2]) (rest := []) C w.1 me_L_up ml_StairBowsLaw_15 (c_L_up l g ad m_4 _ a3 2 h) ⟨rfl, rfl⟩ ⟨Nat.le_of_ble_eq_true rfl, Nat.le_of_ble_eq_true rfl⟩ rfl hl.1 rfl (Nat.le_of_ble_eq_true rfl) dL_isStep_497 ⟨Nat.le_of_ble_eq_true rfl, Nat.le_of_ble_eq_true rfl⟩) (fun r_140 m_141 h H locs w => ?_)
              refine lv_if_ne (tgt := 534) hx hb dL_isStep_500 (by decide) (fun c_142 => ?_) (fun c_142 => ?_)
              · have h := h.1 c_142
                refine lv_aload_n hx hb dL_isStep_534 rfl (lv_at hl 2 rfl) ?_
                refine lv_iload hx hb dL_isStep_535 (lv_at hl 1 rfl) ?_
                refine lv_iconst (v := 2) hx hb dL_isStep_537 (by decide) ?_
                refine x2_calli C w (x_runS (ad := ad) (As := [.int (a2 >>> (4 &&& 31)), .int 2]) (rest := [.ref (ad 0)]) C w.1 me_L_up ml_StairBowsLaw_15 (c_L_up l g ad m_141 _ (a2 >>> (4 &&& 31)) 2 h) ⟨rfl, rfl⟩ ⟨Nat.le_of_ble_eq_true rfl, Nat.le_of_ble_eq_true rfl⟩ rfl hl.1 rfl (Nat.le_of_ble_eq_true rfl) dL_isStep_538 ⟨Nat.le_of_ble_eq_true rfl, Nat.le_of_ble_eq_true rfl⟩) (fun r_143 m_144 h H locs w => ?_)
                refine x2_calli C w (x_runV (ad := ad) (i := 0) (As := [.int r_143]) (rest := []) C w.1 (rfl : kd 0 = 0) (by decide) (ci := 4) rfl rfl rfl me_X4_restore ml_StairBowsLaw_44 (c_X4_restore l g ad m_144 _ r_143 h) ⟨rfl, rfl⟩ ⟨Nat.le_of_ble_eq_true rfl, Nat.le_of_ble_eq_true rfl⟩ rfl hl.1 rfl (Nat.le_of_ble_eq_true rfl) dL_isStep_541 ⟨Nat.le_of_ble_eq_true rfl, Nat.le_of_ble_eq_true rfl⟩) (fun r_145 m_146 h H locs w => ?_)
                refine lv_aload_n hx hb dL_isStep_544 rfl (lv_at hl 3 rfl) ?_
                refine lv_iload hx hb dL_isStep_545 (lv_at hl 1 rfl) ?_
                refine lv_iconst (v := 2) hx hb dL_isStep_547 (by decide) ?_
                refine x2_calli C w (x_runS (ad := ad) (As := [.int (a2 >>> (4 &&& 31)), .int 2]) (rest := [.ref (ad2 0), .int r_145]) C w.1 me_L_up ml_StairBowsLaw_15 (c_L_up l g ad m_146 _ (a2 >>> (4 &&& 31)) 2 h) ⟨rfl, rfl⟩ ⟨Nat.le_of_ble_eq_true rfl, Nat.le_of_ble_eq_true rfl⟩ rfl hl.1 rfl (Nat.le_of_ble_eq_true rfl) dL_isStep_548 ⟨Nat.le_of_ble_eq_true rfl, Nat.le_of_ble_eq_true rfl⟩) (fun r_147 m_148 h H locs w => ?_)
                refine x2_callip C w (x_runV (ad := ad2) (i := 0) (As := [.int r_147]) (rest := [.int r_145]) C w.2.1 (rfl : kd 0 = 0) (by decide) (ci := 4) rfl rfl rfl me_X4_restore ml_StairBowsLaw_44 (c_X4_restore l g ad2 μ2 _ r_147 h) ⟨rfl, rfl⟩ ⟨Nat.le_of_ble_eq_true rfl, Nat.le_of_ble_eq_true rfl⟩ rfl hl.1 rfl (Nat.le_of_ble_eq_true rfl) dL_isStep_551 ⟨Nat.le_of_ble_eq_true rfl, Nat.le_of_ble_eq_true rfl⟩) (fun r_149 m_150 h H locs w => ?_)
                refine lv_icmp_ne (tgt := 561) hx hb dL_isStep_554 (by decide) (fun c_151 => ?_) (fun c_151 => ?_)
                · have h := h.1 c_151
                  refine lv_iconst (v := 0) hx hb dL_isStep_561 (by decide) ?_
                  exact x2_zret C w (show bz 0 from Or.inl rfl) h dL_isStep_562
                · have h := h.2 c_151
                  refine lv_iconst (v := 1) hx hb dL_isStep_557 (by decide) ?_
                  refine lv_goto (tgt := 562) hx hb dL_isStep_558 (by decide) ?_
                  exact x2_zret C w (show bz 1 from Or.inr rfl) h dL_isStep_562
              · have h := h.2 c_142
                refine lv_aload_n hx hb dL_isStep_503 rfl (lv_at hl 2 rfl) ?_
                refine lv_iload hx hb dL_isStep_504 (lv_at hl 1 rfl) ?_
                refine lv_iconst (v := 2) hx hb dL_isStep_506 (by decide) ?_
                refine x2_calli C w (x_runS (ad := ad) (As := [.int (a2 >>> (4 &&& 31)), .int 2]) (rest := [.ref (ad 0)]) C w.1 me_L_up ml_StairBowsLaw_15 (c_L_up l g ad m_141 _ (a2 >>> (4 &&& 31)) 2 h) ⟨rfl, rfl⟩ ⟨Nat.le_of_ble_eq_true rfl, Nat.le_of_ble_eq_true rfl⟩ rfl hl.1 rfl (Nat.le_of_ble_eq_true rfl) dL_isStep_507 ⟨Nat.le_of_ble_eq_true rfl, Nat.le_of_ble_eq_true rfl⟩) (fun r_152 m_153 h H locs w => ?_)
                refine x2_calli C w (x_runV (ad := ad) (i := 0) (As := [.int r_152]) (rest := []) C w.1 (rfl : kd 0 = 0) (by decide) (ci := 4) rfl rfl rfl me_X4_save ml_StairBowsLaw_41 (c_X4_save l g ad m_153 _ r_152 h) ⟨rfl, rfl⟩ ⟨Nat.le_of_ble_eq_true rfl, Nat.le_of_ble_eq_true rfl⟩ rfl hl.1 rfl (Nat.le_of_ble_eq_true rfl) dL_isStep_510 ⟨Nat.le_of_ble_eq_true rfl, Nat.le_of_ble_eq_true rfl⟩) (fun r_154 m_155 h H locs w => ?_)
                refine lv_aload_n hx hb dL_isStep_513 rfl (lv_at hl 3 rfl) ?_
                refine lv_iload hx hb dL_isStep_514 (lv_at hl 1 rfl) ?_
                refine lv_iconst (v := 2) hx hb dL_isStep_516 (by decide) ?_
                refine x2_calli C w (x_runS (ad := ad) (As := [.int (a2 >>> (4 &&& 31)), .int 2]) (rest := [.ref (ad2 0), .int r_154]) C w.1 me_L_up ml_StairBowsLaw_15 (c_L_up l g ad m_155 _ (a2 >>> (4 &&& 31)) 2 h) ⟨rfl, rfl⟩ ⟨Nat.le_of_ble_eq_true rfl, Nat.le_of_ble_eq_true rfl⟩ rfl hl.1 rfl (Nat.le_of_ble_eq_true rfl) dL_isStep_517 ⟨Nat.le_of_ble_eq_true rfl, Nat.le_of_ble_eq_true rfl⟩) (fun r_156 m_157 h H locs w => ?_)
                refine x2_callip C w (x_runV (ad := ad2) (i := 0) (As := [.int r_156]) (rest := [.int r_154]) C w.2.1 (rfl : kd 0 = 0) (by decide) (ci := 4) rfl rfl rfl me_X4_save ml_StairBowsLaw_41 (c_X4_save l g ad2 μ2 _ r_156 h) ⟨rfl, rfl⟩ ⟨Nat.le_of_ble_eq_true rfl, Nat.le_of_ble_eq_true rfl⟩ rfl hl.1 rfl (Nat.le_of_ble_eq_true rfl) dL_isStep_520 ⟨Nat.le_of_ble_eq_true rfl, Nat.le_of_ble_eq_true rfl⟩) (fun r_158 m_159 h H locs w => ?_)
                refine lv_icmp_ne (tgt := 530) hx hb dL_isStep_523 (by decide) (fun c_160 => ?_) (fun c_160 => ?_)
                · have h := h.1 c_160
                  refine lv_iconst (v := 0) hx hb dL_isStep_530 (by decide) ?_
                  refine lv_goto (tgt := 562) hx hb dL_isStep_531 (by decide) ?_
                  exact x2_zret C w (show bz 0 from Or.inl rfl) h dL_isStep_562
                · have h := h.2 c_160
                  refine lv_iconst (v := 1) hx hb dL_isStep_526 (by decide) ?_
                  refine lv_goto (tgt := 562) hx hb dL_isStep_527 (by decide) ?_
                  exact x2_zret C w (show bz 1 from Or.inr rfl) h dL_isStep_562
            · by_cases c_184 : r_3.toInt = 5
              · have h := h.2.2.2.2.2.2.1 c_184
                refine lv_tableIn (off := 545) (tgt := 563) hx hb dL_isStep_18 (by omega) (by omega) (by rw [c_184]; rfl) (by decide) ?_
                refine lv_iconst (v := 1) hx hb dL_isStep_563 (by decide) ?_
                refine lv_iload_n hx hb dL_isStep_564 rfl (lv_at hl 5 rfl) ?_
                refine lv_iload hx hb dL_isStep_565 (lv_at hl 1 rfl) ?_
                refine lv_bipush (v := 8) hx hb dL_isStep_567 (by decide) ?_
                refine x2_calli C w (x_runS (ad := ad) (As := [.int (a2 >>> (4 &&& 31)), .int 8]) (rest := [.int a3, .int 1]) C w.1 me_L_up ml_StairBowsLaw_15 (c_L_up l g ad m_4 _ (a2 >>> (4 &&& 31)) 8 h) ⟨rfl, rfl⟩ ⟨Nat.le_of_ble_eq_true rfl, Nat.le_of_ble_eq_true rfl⟩ rfl hl.1 rfl (Nat.le_of_ble_eq_true rfl) dL_isStep_569 ⟨Nat.le_of_ble_eq_true rfl, Nat.le_of_ble_eq_true rfl⟩) (fun r_162 m_163 h H locs w => ?_)
                refine lv_if_ne (tgt := 580) hx hb dL_isStep_572 (by decide) (fun c_164 => ?_) (fun c_164 => ?_)
                · have h := h.1 c_164
                  refine lv_bipush (v := 6) hx hb dL_isStep_580 (by decide) ?_
                  exact t_L_isStep_B582 C m_163 μ2 _ _ _ h w (lv_sub hl [2, 3] rfl)
                · have h := h.2 c_164
                  refine lv_bipush (v := 99) hx hb dL_isStep_575 (by decide) ?_
                  refine lv_goto (tgt := 582) hx hb dL_isStep_577 (by decide) ?_
                  exact t_L_isStep_B582 C m_163 μ2 _ _ _ h w (lv_sub hl [2, 3] rfl)
              · by_cases c_188 : r_3.toInt = 6
                · have h := h.2.2.2.2.2.2.2.1 c_188
                  refine lv_tableIn (off := 545) (tgt := 563) hx hb dL_isStep_18 (by omega) (by omega) (by rw [c_188]; rfl) (by decide) ?_
                  refine lv_iconst (v := 1) hx hb dL_isStep_563 (by decide) ?_
                  refine lv_iload_n hx hb dL_isStep_564 rfl (lv_at hl 5 rfl) ?_
                  refine lv_iload hx hb dL_isStep_565 (lv_at hl 1 rfl) ?_
                  refine lv_bipush (v := 8) hx hb dL_isStep_567 (by decide) ?_
                  refine x2_calli C w (x_runS (ad := ad) (As := [.int (a2 >>> (4 &&& 31)), .int 8]) (rest := [.int a3, .int 1]) C w.1 me_L_up ml_StairBowsLaw_15 (c_L_up l g ad m_4 _ (a2 >>> (4 &&& 31)) 8 h) ⟨rfl, rfl⟩ ⟨Nat.le_of_ble_eq_true rfl, Nat.le_of_ble_eq_true rfl⟩ rfl hl.1 rfl (Nat.le_of_ble_eq_true rfl) dL_isStep_569 ⟨Nat.le_of_ble_eq_true rfl, Nat.le_of_ble_eq_true rfl⟩) (fun r_185 m_186 h H locs w => ?_)
                  refine lv_if_ne (tgt := 580) hx hb dL_isStep_572 (by decide) (fun c_187 => ?_) (fun c_187 => ?_)
                  · have h := h.1 c_187
                    refine lv_bipush (v := 6) hx hb dL_isStep_580 (by decide) ?_
                    exact t_L_isStep_B582 C m_186 μ2 _ _ _ h w (lv_sub hl [2, 3] rfl)
                  · have h := h.2 c_187
                    refine lv_bipush (v := 99) hx hb dL_isStep_575 (by decide) ?_
                    refine lv_goto (tgt := 582) hx hb dL_isStep_577 (by decide) ?_
                    exact t_L_isStep_B582 C m_186 μ2 _ _ _ h w (lv_sub hl [2, 3] rfl)
                · by_cases c_192 : r_3.toInt = 7
                  · have h := h.2.2.2.2.2.2.2.2.1 c_192
                    refine lv_tableIn (off := 545) (tgt := 563) hx hb dL_isStep_18 (by omega) (by omega) (by rw [c_192]; rfl) (by decide) ?_
                    refine lv_iconst (v := 1) hx hb dL_isStep_563 (by decide) ?_
                    refine lv_iload_n hx hb dL_isStep_564 rfl (lv_at hl 5 rfl) ?_
                    refine lv_iload hx hb dL_isStep_565 (lv_at hl 1 rfl) ?_
                    refine lv_bipush (v := 8) hx hb dL_isStep_567 (by decide) ?_
                    refine x2_calli C w (x_runS (ad := ad) (As := [.int (a2 >>> (4 &&& 31)), .int 8]) (rest := [.int a3, .int 1]) C w.1 me_L_up ml_StairBowsLaw_15 (c_L_up l g ad m_4 _ (a2 >>> (4 &&& 31)) 8 h) ⟨rfl, rfl⟩ ⟨Nat.le_of_ble_eq_true rfl, Nat.le_of_ble_eq_true rfl⟩ rfl hl.1 rfl (Nat.le_of_ble_eq_true rfl) dL_isStep_569 ⟨Nat.le_of_ble_eq_true rfl, Nat.le_of_ble_eq_true rfl⟩) (fun r_189 m_190 h H locs w => ?_)
                    refine lv_if_ne (tgt := 580) hx hb dL_isStep_572 (by decide) (fun c_191 => ?_) (fun c_191 => ?_)
                    · have h := h.1 c_191
                      refine lv_bipush (v := 6) hx hb dL_isStep_580 (by decide) ?_
                      exact t_L_isStep_B582 C m_190 μ2 _ _ _ h w (lv_sub hl [2, 3] rfl)
                    · have h := h.2 c_191
                      refine lv_bipush (v := 99) hx hb dL_isStep_575 (by decide) ?_
                      refine lv_goto (tgt := 582) hx hb dL_isStep_577 (by decide) ?_
                      exact t_L_isStep_B582 C m_190 μ2 _ _ _ h w (lv_sub hl [2, 3] rfl)
                  · by_cases c_196 : r_3.toInt = 8
                    · have h := h.2.2.2.2.2.2.2.2.2.1 c_196
                      refine lv_tableIn (off := 545) (tgt := 563) hx hb dL_isStep_18 (by omega) (by omega) (by rw [c_196]; rfl) (by decide) ?_
                      refine lv_iconst (v := 1) hx hb dL_isStep_563 (by decide) ?_
                      refine lv_iload_n hx hb dL_isStep_564 rfl (lv_at hl 5 rfl) ?_
                      refine lv_iload hx hb dL_isStep_565 (lv_at hl 1 rfl) ?_
                      refine lv_bipush (v := 8) hx hb dL_isStep_567 (by decide) ?_
                      refine x2_calli C w (x_runS (ad := ad) (As := [.int (a2 >>> (4 &&& 31)), .int 8]) (rest := [.int a3, .int 1]) C w.1 me_L_up ml_StairBowsLaw_15 (c_L_up l g ad m_4 _ (a2 >>> (4 &&& 31)) 8 h) ⟨rfl, rfl⟩ ⟨Nat.le_of_ble_eq_true rfl, Nat.le_of_ble_eq_true rfl⟩ rfl hl.1 rfl (Nat.le_of_ble_eq_true rfl) dL_isStep_569 ⟨Nat.le_of_ble_eq_true rfl, Nat.le_of_ble_eq_true rfl⟩) (fun r_193 m_194 h H locs w => ?_)
                      refine lv_if_ne (tgt := 580) hx hb dL_isStep_572 (by decide) (fun c_195 => ?_) (fun c_195 => ?_)
                      · have h := h.1 c_195
                        refine lv_bipush (v := 6) hx hb dL_isStep_580 (by decide) ?_
                        exact t_L_isStep_B582 C m_194 μ2 _ _ _ h w (lv_sub hl [2, 3] rfl)
                      · have h := h.2 c_195
                        refine lv_bipush (v := 99) hx hb dL_isStep_575 (by decide) ?_
                        refine lv_goto (tgt := 582) hx hb dL_isStep_577 (by decide) ?_
                        exact t_L_isStep_B582 C m_194 μ2 _ _ _ h w (lv_sub hl [2, 3] rfl)
                    · have c_200 : r_3.toInt = 9 := by omega
                      have h := h.2.2.2.2.2.2.2.2.2.2 c_200
                      refine lv_tableIn (off := 545) (tgt := 563) hx hb dL_isStep_18 (by omega) (by omega) (by rw [c_200]; rfl) (by decide) ?_
                      refine lv_iconst (v := 1) hx hb dL_isStep_563 (by decide) ?_
                      refine lv_iload_n hx hb dL_isStep_564 rfl (lv_at hl 5 rfl) ?_
                      refine lv_iload hx hb dL_isStep_565 (lv_at hl 1 rfl) ?_
                      refine lv_bipush (v := 8) hx hb dL_isStep_567 (by decide) ?_
                      refine x2_calli C w (x_runS (ad := ad) (As := [.int (a2 >>> (4 &&& 31)), .int 8]) (rest := [.int a3, .int 1]) C w.1 me_L_up ml_StairBowsLaw_15 (c_L_up l g ad m_4 _ (a2 >>> (4 &&& 31)) 8 h) ⟨rfl, rfl⟩ ⟨Nat.le_of_ble_eq_true rfl, Nat.le_of_ble_eq_true rfl⟩ rfl hl.1 rfl (Nat.le_of_ble_eq_true rfl) dL_isStep_569 ⟨Nat.le_of_ble_eq_true rfl, Nat.le_of_ble_eq_true rfl⟩) (fun r_197 m_198 h H locs w => ?_)
                      refine lv_if_ne (tgt := 580) hx hb dL_isStep_572 (by decide) (fun c_199 => ?_) (fun c_199 => ?_)
                      · have h := h.1 c_199
                        refine lv_bipush (v := 6) hx hb dL_isStep_580 (by decide) ?_
                        exact t_L_isStep_B582 C m_198 μ2 _ _ _ h w (lv_sub hl [2, 3] rfl)
                      · have h := h.2 c_199
                        refine lv_bipush (v := 99) hx hb dL_isStep_575 (by decide) ?_
                        refine lv_goto (tgt := 582) hx hb dL_isStep_577 (by decide) ?_
                        exact t_L_isStep_B582 C m_198 μ2 _ _ _ h w (lv_sub hl [2, 3] rfl)

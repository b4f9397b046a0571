/-! a method of the law, by program: condition and contract -/
abbrev rm_L_isWell : Room := { frames := 8, cells := 1, slots := 4, locals := 174 }
noncomputable def wp_L_isWell_B583 (s0 : Int32) (K : Int32 → Mem → Prop) (μ : Mem) (fw : (Nat → Int32)) : Prop :=
    ((¬ ((fw (0 : Int32).toNatClampNeg) + (fw (1 : Int32).toNatClampNeg)) = 0 → ((¬ s0 = 0 → K 0 μ) ∧ (s0 = 0 → K 1 μ))) ∧ (((fw (0 : Int32).toNatClampNeg) + (fw (1 : Int32).toNatClampNeg)) = 0 → ((¬ s0 = 1 → K 0 μ) ∧ (s0 = 1 → K 1 μ))))
noncomputable def wp_L_isWell_L481 (v1 : Int32) (v2 : Int32) (v3 : Int32) (v5 : Int32) (K : Int32 → Mem → Prop) (n : Nat) : Int32 → Int32 → Mem → (Nat → Int32) → Prop :=
  Nat.rec (motive := fun _ => Int32 → Int32 → Mem → (Nat → Int32) → Prop) (fun _ _ _ _ => False) (fun _ ih v6 v7 μ fw =>
    ((4 ≤ v7 → (wp_X4_untilEmpty μ (fun r_6 m_7 => ((v6 = 0 → K 0 m_7) ∧ (¬ v6 = 0 → (wp_X4_count 10 m_7 (fun r_9 m_10 => ((¬ v1 = r_9 → K 0 m_10) ∧ (v1 = r_9 → (wp_X4_count 11 m_10 (fun r_12 m_13 => ((¬ v2 = r_12 → K 0 m_13) ∧ (v2 = r_12 → (wp_X4_count 12 m_13 (fun r_15 m_16 => ((¬ v3 = r_15 → K 0 m_16) ∧ (v3 = r_15 → (wp_X4_count 9 m_16 (fun r_18 m_19 => ((¬ v5 = r_18 → K 0 m_19) ∧ (v5 = r_18 → ((¬ r_6 = 0 → wp_L_isWell_B583 0 K m_19 fw) ∧ (r_6 = 0 → wp_L_isWell_B583 1 K m_19 fw))))))))))))))))))))))) ∧ (¬ 4 ≤ v7 → ((v6 = 0 → ih 0 (v7 + 1) μ fw) ∧ (¬ v6 = 0 → (vp_in v7 4 ∧ (wp_X4_count (5 + v7) μ (fun r_26 m_27 => ((¬ (fw v7.toNatClampNeg) = r_26 → ih 0 (v7 + 1) m_27 fw) ∧ ((fw v7.toNatClampNeg) = r_26 → ih 1 (v7 + 1) m_27 fw)))))))))) n
theorem wp_L_isWell_L481_s (v1 : Int32) (v2 : Int32) (v3 : Int32) (v5 : Int32) (K : Int32 → Mem → Prop) (n : Nat) (v6 : Int32) (v7 : Int32) (μ : Mem) (fw : (Nat → Int32)) : wp_L_isWell_L481 v1 v2 v3 v5 K (n + 1) v6 v7 μ fw = (
    let ih := wp_L_isWell_L481 v1 v2 v3 v5 K n
    ((4 ≤ v7 → (wp_X4_untilEmpty μ (fun r_6 m_7 => ((v6 = 0 → K 0 m_7) ∧ (¬ v6 = 0 → (wp_X4_count 10 m_7 (fun r_9 m_10 => ((¬ v1 = r_9 → K 0 m_10) ∧ (v1 = r_9 → (wp_X4_count 11 m_10 (fun r_12 m_13 => ((¬ v2 = r_12 → K 0 m_13) ∧ (v2 = r_12 → (wp_X4_count 12 m_13 (fun r_15 m_16 => ((¬ v3 = r_15 → K 0 m_16) ∧ (v3 = r_15 → (wp_X4_count 9 m_16 (fun r_18 m_19 => ((¬ v5 = r_18 → K 0 m_19) ∧ (v5 = r_18 → ((¬ r_6 = 0 → wp_L_isWell_B583 0 K m_19 fw) ∧ (r_6 = 0 → wp_L_isWell_B583 1 K m_19 fw))))))))))))))))))))))) ∧ (¬ 4 ≤ v7 → ((v6 = 0 → ih 0 (v7 + 1) μ fw) ∧ (¬ v6 = 0 → (vp_in v7 4 ∧ (wp_X4_count (5 + v7) μ (fun r_26 m_27 => ((¬ (fw v7.toNatClampNeg) = r_26 → ih 0 (v7 + 1) m_27 fw) ∧ ((fw v7.toNatClampNeg) = r_26 → ih 1 (v7 + 1) m_27 fw)))))))))) := rfl
noncomputable def wp_L_isWell_B452 (v1 : Int32) (v2 : Int32) (v3 : Int32) (v5 : Int32) (v7 : Int32) (v9 : Int32) (s0 : Int32) (K : Int32 → Mem → Prop) (E240 : Int32 → Int32 → Int32 → Mem → (Nat → Int32) → Prop) (μ : Mem) (fw : (Nat → Int32)) : Prop :=
    ((¬ v9 = 0 → ((¬ s0 = 0 → E240 v5 0 (v7 + 1) μ fw) ∧ (s0 = 0 → E240 v5 1 (v7 + 1) μ fw))) ∧ (v9 = 0 → ((¬ s0 = 1 → E240 v5 0 (v7 + 1) μ fw) ∧ (s0 = 1 → E240 v5 1 (v7 + 1) μ fw))))
noncomputable def wp_L_isWell_B424 (v1 : Int32) (v2 : Int32) (v3 : Int32) (v5 : Int32) (v7 : Int32) (v8 : Int32) (v9 : Int32) (s0 : Int32) (s1 : Int32) (K : Int32 → Mem → Prop) (E240 : Int32 → Int32 → Int32 → Mem → (Nat → Int32) → Prop) (μ : Mem) (fw : (Nat → Int32)) : Prop :=
    ((¬ s1 = (s0 - v9) → E240 v5 0 (v7 + 1) μ fw) ∧ (s1 = (s0 - v9) → (wp_X4_step v7 2 μ (fun r_47 m_48 => ((r_47 < 0 → E240 v5 0 (v7 + 1) m_48 fw) ∧ (¬ r_47 < 0 → ((¬ v8 = (-6) → wp_L_isWell_B452 v1 v2 v3 v5 v7 v9 0 K E240 m_48 fw) ∧ (v8 = (-6) → wp_L_isWell_B452 v1 v2 v3 v5 v7 v9 1 K E240 m_48 fw))))))))
noncomputable def wp_L_isWell_B306 (v1 : Int32) (v2 : Int32) (v3 : Int32) (v5 : Int32) (v6 : Int32) (v7 : Int32) (v8 : Int32) (v10 : Int32) (s0 : Int32) (s1 : Int32) (K : Int32 → Mem → Prop) (E240 : Int32 → Int32 → Int32 → Mem → (Nat → Int32) → Prop) (E277 : Int32 → Int32 → Int32 → Mem → (Nat → Int32) → Prop) (μ : Mem) (fw : (Nat → Int32)) : Prop :=
    ((v6 = 0 → E277 0 (s1 + s0) (v10 + 1) μ fw) ∧ (¬ v6 = 0 → (wp_X4_person v10 3 μ (fun r_60 m_61 => ((¬ r_60 = v7 → E277 1 (s1 + s0) (v10 + 1) m_61 fw) ∧ (r_60 = v7 → (wp_X4_person v8 0 m_61 (fun r_63 m_64 => (wp_X4_person v10 0 m_64 (fun r_65 m_66 => ((r_65 < r_63 → E277 1 (s1 + s0) (v10 + 1) m_66 fw) ∧ (¬ r_65 < r_63 → (wp_X4_person v8 0 m_66 (fun r_68 m_69 => (wp_X4_person v10 0 m_69 (fun r_70 m_71 => ((¬ r_68 = r_70 → E277 0 (s1 + s0) (v10 + 1) m_71 fw) ∧ (r_68 = r_70 → ((v10 < v8 → E277 0 (s1 + s0) (v10 + 1) m_71 fw) ∧ (¬ v10 < v8 → E277 1 (s1 + s0) (v10 + 1) m_71 fw))))))))))))))))))))
noncomputable def wp_L_isWell_L277 (v1 : Int32) (v2 : Int32) (v3 : Int32) (v5 : Int32) (v7 : Int32) (v8 : Int32) (K : Int32 → Mem → Prop) (E240 : Int32 → Int32 → Int32 → Mem → (Nat → Int32) → Prop) (n : Nat) : Int32 → Int32 → Int32 → Mem → (Nat → Int32) → Prop :=
  Nat.rec (motive := fun _ => Int32 → Int32 → Int32 → Mem → (Nat → Int32) → Prop) (fun _ _ _ _ _ => False) (fun _ ih v6 v9 v10 μ fw =>
    (wp_X4_count 4 μ (fun r_34 m_35 => ((r_34 ≤ v10 → ((v6 = 0 → E240 v5 0 (v7 + 1) m_35 fw) ∧ (¬ v6 = 0 → (wp_X4_step v7 1 m_35 (fun r_38 m_39 => ((¬ v9 = r_38 → E240 v5 0 (v7 + 1) m_39 fw) ∧ (v9 = r_38 → (wp_X4_step v7 2 m_39 (fun r_41 m_42 => (wp_X4_step v7 0 m_42 (fun r_43 m_44 => ((¬ r_43 = 1 → wp_L_isWell_B424 v1 v2 v3 v5 v7 v8 v9 1 r_41 K E240 m_44 fw) ∧ (r_43 = 1 → (wp_X4_count 0 m_44 (fun r_54 m_55 => wp_L_isWell_B424 v1 v2 v3 v5 v7 v8 v9 r_54 r_41 K E240 m_55 fw))))))))))))))) ∧ (¬ r_34 ≤ v10 → (wp_X4_person v10 3 m_35 (fun r_56 m_57 => ((¬ r_56 = v7 → wp_L_isWell_B306 v1 v2 v3 v5 v6 v7 v8 v10 0 v9 K E240 ih m_57 fw) ∧ (r_56 = v7 → wp_L_isWell_B306 v1 v2 v3 v5 v6 v7 v8 v10 1 v9 K E240 ih m_57 fw))))))))) n
theorem wp_L_isWell_L277_s (v1 : Int32) (v2 : Int32) (v3 : Int32) (v5 : Int32) (v7 : Int32) (v8 : Int32) (K : Int32 → Mem → Prop) (E240 : Int32 → Int32 → Int32 → Mem → (Nat → Int32) → Prop) (n : Nat) (v6 : Int32) (v9 : Int32) (v10 : Int32) (μ : Mem) (fw : (Nat → Int32)) : wp_L_isWell_L277 v1 v2 v3 v5 v7 v8 K E240 (n + 1) v6 v9 v10 μ fw = (
    let ih := wp_L_isWell_L277 v1 v2 v3 v5 v7 v8 K E240 n
    (wp_X4_count 4 μ (fun r_34 m_35 => ((r_34 ≤ v10 → ((v6 = 0 → E240 v5 0 (v7 + 1) m_35 fw) ∧ (¬ v6 = 0 → (wp_X4_step v7 1 m_35 (fun r_38 m_39 => ((¬ v9 = r_38 → E240 v5 0 (v7 + 1) m_39 fw) ∧ (v9 = r_38 → (wp_X4_step v7 2 m_39 (fun r_41 m_42 => (wp_X4_step v7 0 m_42 (fun r_43 m_44 => ((¬ r_43 = 1 → wp_L_isWell_B424 v1 v2 v3 v5 v7 v8 v9 1 r_41 K E240 m_44 fw) ∧ (r_43 = 1 → (wp_X4_count 0 m_44 (fun r_54 m_55 => wp_L_isWell_B424 v1 v2 v3 v5 v7 v8 v9 r_54 r_41 K E240 m_55 fw))))))))))))))) ∧ (¬ r_34 ≤ v10 → (wp_X4_person v10 3 m_35 (fun r_56 m_57 => ((¬ r_56 = v7 → wp_L_isWell_B306 v1 v2 v3 v5 v6 v7 v8 v10 0 v9 K E240 ih m_57 fw) ∧ (r_56 = v7 → wp_L_isWell_B306 v1 v2 v3 v5 v6 v7 v8 v10 1 v9 K E240 ih m_57 fw))))))))) := rfl
noncomputable def wp_L_isWell_L240 (v1 : Int32) (v2 : Int32) (v3 : Int32) (K : Int32 → Mem → Prop) (n : Nat) : Int32 → Int32 → Int32 → Mem → (Nat → Int32) → Prop :=
  Nat.rec (motive := fun _ => Int32 → Int32 → Int32 → Mem → (Nat → Int32) → Prop) (fun _ _ _ _ _ => False) (fun _ ih v5 v6 v7 μ fw =>
    ((12 ≤ v7 → (∃ n, wp_L_isWell_L481 v1 v2 v3 v5 K n v6 0 μ fw)) ∧ (¬ 12 ≤ v7 → (wp_X4_step v7 3 μ (fun r_30 m_31 => (wp_X4_step v7 0 m_31 (fun r_32 m_33 => (∃ n, wp_L_isWell_L277 v1 v2 v3 (v5 + (r_32 <<< (v7 &&& 31))) v7 r_30 K ih n v6 0 0 m_33 fw)))))))) n
theorem wp_L_isWell_L240_s (v1 : Int32) (v2 : Int32) (v3 : Int32) (K : Int32 → Mem → Prop) (n : Nat) (v5 : Int32) (v6 : Int32) (v7 : Int32) (μ : Mem) (fw : (Nat → Int32)) : wp_L_isWell_L240 v1 v2 v3 K (n + 1) v5 v6 v7 μ fw = (
    let ih := wp_L_isWell_L240 v1 v2 v3 K n
    ((12 ≤ v7 → (∃ n, wp_L_isWell_L481 v1 v2 v3 v5 K n v6 0 μ fw)) ∧ (¬ 12 ≤ v7 → (wp_X4_step v7 3 μ (fun r_30 m_31 => (wp_X4_step v7 0 m_31 (fun r_32 m_33 => (∃ n, wp_L_isWell_L277 v1 v2 v3 (v5 + (r_32 <<< (v7 &&& 31))) v7 r_30 K ih n v6 0 0 m_33 fw)))))))) := rfl
noncomputable def wp_L_isWell_B210 (v1 : Int32) (v2 : Int32) (v3 : Int32) (v5 : Int32) (v7 : Int32) (v8 : Int32) (s0 : Int32) (K : Int32 → Mem → Prop) (E20 : Int32 → Int32 → Int32 → Int32 → Int32 → Mem → (Nat → Int32) → Prop) (μ : Mem) (fw : (Nat → Int32)) : Prop :=
    ((v8 ≤ 1 → ((¬ s0 = 0 → E20 v1 v2 v3 0 (v7 + 1) μ fw) ∧ (s0 = 0 → E20 v1 v2 v3 1 (v7 + 1) μ fw))) ∧ (¬ v8 ≤ 1 → ((¬ s0 = 1 → E20 v1 v2 v3 0 (v7 + 1) μ fw) ∧ (s0 = 1 → E20 v1 v2 v3 1 (v7 + 1) μ fw))))
noncomputable def wp_L_isWell_B178 (v1 : Int32) (v2 : Int32) (v3 : Int32) (v5 : Int32) (v7 : Int32) (v8 : Int32) (K : Int32 → Mem → Prop) (E20 : Int32 → Int32 → Int32 → Int32 → Int32 → Mem → (Nat → Int32) → Prop) (μ : Mem) (fw : (Nat → Int32)) : Prop :=
    (wp_X4_person v7 6 μ (fun r_103 m_104 => (wp_X4_person v7 5 m_104 (fun r_105 m_106 => ((r_103 < r_105 → E20 v1 v2 v3 0 (v7 + 1) m_106 fw) ∧ (¬ r_103 < r_105 → (wp_X4_does v7 m_106 (fun r_108 m_109 => ((¬ r_108 = 0 → wp_L_isWell_B210 v1 v2 v3 v5 v7 v8 0 K E20 m_109 fw) ∧ (r_108 = 0 → wp_L_isWell_B210 v1 v2 v3 v5 v7 v8 1 K E20 m_109 fw))))))))))
noncomputable def wp_L_isWell_B140 (v1 : Int32) (v2 : Int32) (v3 : Int32) (v5 : Int32) (v7 : Int32) (v8 : Int32) (s0 : Int32) (s1 : Int32) (K : Int32 → Mem → Prop) (E20 : Int32 → Int32 → Int32 → Int32 → Int32 → Mem → (Nat → Int32) → Prop) (μ : Mem) (fw : (Nat → Int32)) : Prop :=
    ((¬ s1 = s0 → E20 v1 v2 v3 0 (v7 + 1) μ fw) ∧ (s1 = s0 → (wp_X4_person v7 8 μ (fun r_97 m_98 => (wp_X4_person v7 4 m_98 (fun r_99 m_100 => ((r_99 < r_97 → E20 v1 v2 v3 0 (v7 + 1) m_100 fw) ∧ (¬ r_99 < r_97 → ((v8 < 2 → wp_L_isWell_B178 v1 v2 v3 v5 v7 v8 K E20 m_100 fw) ∧ (¬ v8 < 2 → (wp_X4_person v7 8 m_100 (fun r_114 m_115 => ((¬ r_114 = 0 → E20 v1 v2 v3 0 (v7 + 1) m_115 fw) ∧ (r_114 = 0 → wp_L_isWell_B178 v1 v2 v3 v5 v7 v8 K E20 m_115 fw))))))))))))))
noncomputable def wp_L_isWell_B110 (v1 : Int32) (v2 : Int32) (v3 : Int32) (v5 : Int32) (v7 : Int32) (v8 : Int32) (s0 : Int32) (s1 : Int32) (K : Int32 → Mem → Prop) (E20 : Int32 → Int32 → Int32 → Int32 → Int32 → Mem → (Nat → Int32) → Prop) (μ : Mem) (fw : (Nat → Int32)) : Prop :=
    ((¬ s1 = s0 → E20 v1 v2 v3 0 (v7 + 1) μ fw) ∧ (s1 = s0 → (wp_X4_person v7 7 μ (fun r_92 m_93 => ((r_92 ≤ 0 → ((v8 ≤ 1 → wp_L_isWell_B140 v1 v2 v3 v5 v7 v8 0 0 K E20 m_93 fw) ∧ (¬ v8 ≤ 1 → wp_L_isWell_B140 v1 v2 v3 v5 v7 v8 1 0 K E20 m_93 fw))) ∧ (¬ r_92 ≤ 0 → ((v8 ≤ 1 → wp_L_isWell_B140 v1 v2 v3 v5 v7 v8 0 1 K E20 m_93 fw) ∧ (¬ v8 ≤ 1 → wp_L_isWell_B140 v1 v2 v3 v5 v7 v8 1 1 K E20 m_93 fw))))))))
noncomputable def wp_L_isWell_L20 (v5 : Int32) (K : Int32 → Mem → Prop) (n : Nat) : Int32 → Int32 → Int32 → Int32 → Int32 → Mem → (Nat → Int32) → Prop :=
  Nat.rec (motive := fun _ => Int32 → Int32 → Int32 → Int32 → Int32 → Mem → (Nat → Int32) → Prop) (fun _ _ _ _ _ _ _ => False) (fun _ ih v1 v2 v3 v6 v7 μ fw =>
    (wp_X4_count 4 μ (fun r_1 m_2 => ((r_1 ≤ v7 → (∃ n, wp_L_isWell_L240 v1 v2 v3 K n v5 v6 0 m_2 fw)) ∧ (¬ r_1 ≤ v7 → (wp_X4_person v7 2 m_2 (fun r_76 m_77 => (wp_X4_person v7 6 m_77 (fun r_78 m_79 => (wp_X4_person v7 5 m_79 (fun r_80 m_81 => (wp_X4_person v7 4 m_81 (fun r_82 m_83 => (vp_in r_76 4 ∧ (vp_in r_76 4 ∧ (∀ f_84, f_84 = upd fw r_76.toNatClampNeg ((fw r_76.toNatClampNeg) + 1) → ((v6 = 0 → ih (v1 + r_78) (v2 + r_80) (v3 + r_82) 0 (v7 + 1) m_83 f_84) ∧ (¬ v6 = 0 → (wp_X4_person v7 3 m_83 (fun r_87 m_88 => ((r_87 < 0 → ((¬ r_76 = 1 → wp_L_isWell_B110 (v1 + r_78) (v2 + r_80) (v3 + r_82) v5 v7 r_76 0 0 K ih m_88 f_84) ∧ (r_76 = 1 → wp_L_isWell_B110 (v1 + r_78) (v2 + r_80) (v3 + r_82) v5 v7 r_76 1 0 K ih m_88 f_84))) ∧ (¬ r_87 < 0 → ((¬ r_76 = 1 → wp_L_isWell_B110 (v1 + r_78) (v2 + r_80) (v3 + r_82) v5 v7 r_76 0 1 K ih m_88 f_84) ∧ (r_76 = 1 → wp_L_isWell_B110 (v1 + r_78) (v2 + r_80) (v3 + r_82) v5 v7 r_76 1 1 K ih m_88 f_84)))))))))))))))))))))))) n
theorem wp_L_isWell_L20_s (v5 : Int32) (K : Int32 → Mem → Prop) (n : Nat) (v1 : Int32) (v2 : Int32) (v3 : Int32) (v6 : Int32) (v7 : Int32) (μ : Mem) (fw : (Nat → Int32)) : wp_L_isWell_L20 v5 K (n + 1) v1 v2 v3 v6 v7 μ fw = (
    let ih := wp_L_isWell_L20 v5 K n
    (wp_X4_count 4 μ (fun r_1 m_2 => ((r_1 ≤ v7 → (∃ n, wp_L_isWell_L240 v1 v2 v3 K n v5 v6 0 m_2 fw)) ∧ (¬ r_1 ≤ v7 → (wp_X4_person v7 2 m_2 (fun r_76 m_77 => (wp_X4_person v7 6 m_77 (fun r_78 m_79 => (wp_X4_person v7 5 m_79 (fun r_80 m_81 => (wp_X4_person v7 4 m_81 (fun r_82 m_83 => (vp_in r_76 4 ∧ (vp_in r_76 4 ∧ (∀ f_84, f_84 = upd fw r_76.toNatClampNeg ((fw r_76.toNatClampNeg) + 1) → ((v6 = 0 → ih (v1 + r_78) (v2 + r_80) (v3 + r_82) 0 (v7 + 1) m_83 f_84) ∧ (¬ v6 = 0 → (wp_X4_person v7 3 m_83 (fun r_87 m_88 => ((r_87 < 0 → ((¬ r_76 = 1 → wp_L_isWell_B110 (v1 + r_78) (v2 + r_80) (v3 + r_82) v5 v7 r_76 0 0 K ih m_88 f_84) ∧ (r_76 = 1 → wp_L_isWell_B110 (v1 + r_78) (v2 + r_80) (v3 + r_82) v5 v7 r_76 1 0 K ih m_88 f_84))) ∧ (¬ r_87 < 0 → ((¬ r_76 = 1 → wp_L_isWell_B110 (v1 + r_78) (v2 + r_80) (v3 + r_82) v5 v7 r_76 0 1 K ih m_88 f_84) ∧ (r_76 = 1 → wp_L_isWell_B110 (v1 + r_78) (v2 + r_80) (v3 + r_82) v5 v7 r_76 1 1 K ih m_88 f_84)))))))))))))))))))))))) := rfl
noncomputable def wp_L_isWell  (μ : Mem) (K : Int32 → Mem → Prop) : Prop :=
    (∃ n, wp_L_isWell_L20 0 K n 0 0 0 1 0 μ (fun _ => 0))
set_option maxHeartbeats 4000000 in
set_option maxRecDepth 100000 in
theorem t_L_isWell_B583 {g : Gv} {ad : Nat → Nat} {l : Launch} {p : Program} {e : Env} {s : State} {m : MethodId} {args : Array Value} {below : List Frame} {meth : Method} {c : Code} {q0 : Nat} (C : Cx g p s m args meth c "StairBowsLaw" cL_isWell 11 (some .boolean)) {s0 : Int32}  {K : Int32 → Mem → Prop}   (μ : Mem) (fw : (Nat → Int32)) (H : Heap) (locs : List Loc) (ls : Array Slot) (h : wp_L_isWell_B583 s0 K μ fw) (w : Wd1 g ad μ q0 fw (Aw ad s.heap.size) s H locs) (hl : lv_has ls 11 [(4, .ref q0)]) : W p l e rm_L_isWell s m args below meth c H locs 1 4 (MQ below (PostI g ad s.heap.size K) args s 1 4 (Aw ad s.heap.size)) (F0 m 583 ls [.int s0]) := by
  obtain ⟨hx, hb, hml, -, hts, hown, -, -, hN⟩ := id C
  unfold wp_L_isWell_B583 at h
  refine lv_aload hx hb dL_isWell_583 (lv_at hl 0 rfl) ?_
  refine lv_iconst (v := 0) hx hb dL_isWell_585 (by decide) ?_
  refine x1_iald C w (show vp_in 0 4 from vp_lit (by decide) (by decide)) dL_isWell_586 ?_
  refine lv_aload hx hb dL_isWell_587 (lv_at hl 0 rfl) ?_
  refine lv_iconst (v := 1) hx hb dL_isWell_589 (by decide) ?_
  refine x1_iald C w (show vp_in 1 4 from vp_lit (by decide) (by decide)) dL_isWell_590 ?_
  refine lv_iadd hx hb dL_isWell_591 ?_
  refine lv_if_ne (tgt := 599) hx hb dL_isWell_592 (by decide) (fun c_22 => ?_) (fun c_22 => ?_)
  · have h := h.1 c_22
    refine lv_iconst (v := 0) hx hb dL_isWell_599 (by decide) ?_
    refine lv_icmp_ne (tgt := 607) hx hb dL_isWell_600 (by decide) (fun c_23 => ?_) (fun c_23 => ?_)
    · have h := h.1 c_23
      refine lv_iconst (v := 0) hx hb dL_isWell_607 (by decide) ?_
      exact x1_zret C w (show bz 0 from Or.inl rfl) h dL_isWell_608
    · have h := h.2 c_23
      refine lv_iconst (v := 1) hx hb dL_isWell_603 (by decide) ?_
      refine lv_goto (tgt := 608) hx hb dL_isWell_604 (by decide) ?_
      exact x1_zret C w (show bz 1 from Or.inr rfl) h dL_isWell_608
  · have h := h.2 c_22
    refine lv_iconst (v := 1) hx hb dL_isWell_595 (by decide) ?_
    refine lv_goto (tgt := 600) hx hb dL_isWell_596 (by decide) ?_
    refine lv_icmp_ne (tgt := 607) hx hb dL_isWell_600 (by decide) (fun c_24 => ?_) (fun c_24 => ?_)
    · have h := h.1 c_24
      refine lv_iconst (v := 0) hx hb dL_isWell_607 (by decide) ?_
      exact x1_zret C w (show bz 0 from Or.inl rfl) h dL_isWell_608
    · have h := h.2 c_24
      refine lv_iconst (v := 1) hx hb dL_isWell_603 (by decide) ?_
      refine lv_goto (tgt := 608) hx hb dL_isWell_604 (by decide) ?_
      exact x1_zret C w (show bz 1 from Or.inr rfl) h dL_isWell_608
set_option maxHeartbeats 4000000 in
set_option maxRecDepth 100000 in
theorem t_L_isWell_L481 {g : Gv} {ad : Nat → Nat} {l : Launch} {p : Program} {e : Env} {s : State} {m : MethodId} {args : Array Value} {below : List Frame} {meth : Method} {c : Code} {q0 : Nat} (C : Cx g p s m args meth c "StairBowsLaw" cL_isWell 11 (some .boolean)) {v1 : Int32} {v2 : Int32} {v3 : Int32} {v5 : Int32}  {K : Int32 → Mem → Prop}   : ∀ (n : Nat) (v6 : Int32) (v7 : Int32) (μ : Mem) (fw : (Nat → Int32)) (H : Heap) (locs : List Loc) (ls : Array Slot), wp_L_isWell_L481 v1 v2 v3 v5 K n v6 v7 μ fw → Wd1 g ad μ q0 fw (Aw ad s.heap.size) s H locs → lv_has ls 11 [(0, .ref (ad 0)), (1, .int v1), (2, .int v2), (3, .int v3), (4, .ref q0), (5, .int v5), (6, .int v6), (7, .int v7)] → W p l e rm_L_isWell s m args below meth c H locs 1 4 (MQ below (PostI g ad s.heap.size K) args s 1 4 (Aw ad s.heap.size)) (F0 m 481 ls []) := by
  obtain ⟨hx, hb, hml, -, hts, hown, -, -, hN⟩ := id C
  intro n
  induction n with
  | zero =>
    intro v6 v7 μ fw H locs ls h w hl
    exact (show False from h).elim
  | succ n ih =>
    intro v6 v7 μ fw H locs ls h w hl
    rw [wp_L_isWell_L481_s] at h
    dsimp only at h
    refine lv_iload hx hb dL_isWell_481 (lv_at hl 7 rfl) ?_
    refine lv_iconst (v := 4) hx hb dL_isWell_483 (by decide) ?_
    refine lv_icmp_ge (tgt := 521) hx hb dL_isWell_484 (by decide) (fun c_5 => ?_) (fun c_5 => ?_)
    · have h := h.1 c_5
      refine lv_aload_n hx hb dL_isWell_521 rfl (lv_at hl 0 rfl) ?_
      refine x1_calli C w (x_runV (ad := ad) (i := 0) (As := []) (rest := []) C w.1 (rfl : kd 0 = 0) (by decide) (ci := 4) rfl rfl rfl me_X4_untilEmpty ml_StairBowsLaw_37 (c_X4_untilEmpty l g ad μ _  h) ⟨rfl, rfl⟩ ⟨Nat.le_of_ble_eq_true rfl, Nat.le_of_ble_eq_true rfl⟩ rfl hl.1 rfl (Nat.le_of_ble_eq_true rfl) dL_isWell_522 ⟨Nat.le_of_ble_eq_true rfl, Nat.le_of_ble_eq_true rfl⟩) (fun r_6 m_7 h H locs w => ?_)
      refine lv_istore (lv' := [(7, .int r_6), (0, .ref (ad 0)), (1, .int v1), (2, .int v2), (3, .int v3), (4, .ref q0), (5, .int v5), (6, .int v6)]) hx hb dL_isWell_525 hl (by decide) rfl (fun ls hl => ?_)
      refine lv_iload hx hb dL_isWell_527 (lv_at hl 7 rfl) ?_
      refine lv_if_eq (tgt := 607) hx hb dL_isWell_529 (by decide) (fun c_8 => ?_) (fun c_8 => ?_)
      · have h := h.1 c_8
        refine lv_iconst (v := 0) hx hb dL_isWell_607 (by decide) ?_
        exact x1_zret C w (show bz 0 from Or.inl rfl) h dL_isWell_608
      · have h := h.2 c_8
        refine lv_iload_n hx hb dL_isWell_532 rfl (lv_at hl 2 rfl) ?_
        refine lv_aload_n hx hb dL_isWell_533 rfl (lv_at hl 1 rfl) ?_
        refine lv_bipush (v := 10) hx hb dL_isWell_534 (by decide) ?_
        refine x1_calli C w (x_runV (ad := ad) (i := 0) (As := [.int 10]) (rest := [.int v1]) C w.1 (rfl : kd 0 = 0) (by decide) (ci := 4) rfl rfl rfl me_X4_count ml_StairBowsLaw_9 (c_X4_count l g ad m_7 _ 10 h) ⟨rfl, rfl⟩ ⟨Nat.le_of_ble_eq_true rfl, Nat.le_of_ble_eq_true rfl⟩ rfl hl.1 rfl (Nat.le_of_ble_eq_true rfl) dL_isWell_536 ⟨Nat.le_of_ble_eq_true rfl, Nat.le_of_ble_eq_true rfl⟩) (fun r_9 m_10 h H locs w => ?_)
        refine lv_icmp_ne (tgt := 607) hx hb dL_isWell_539 (by decide) (fun c_11 => ?_) (fun c_11 => ?_)
        · have h := h.1 c_11
          refine lv_iconst (v := 0) hx hb dL_isWell_607 (by decide) ?_
          exact x1_zret C w (show bz 0 from Or.inl rfl) h dL_isWell_608
        · have h := h.2 c_11
          refine lv_iload_n hx hb dL_isWell_542 rfl (lv_at hl 3 rfl) ?_
          refine lv_aload_n hx hb dL_isWell_543 rfl (lv_at hl 1 rfl) ?_
          refine lv_bipush (v := 11) hx hb dL_isWell_544 (by decide) ?_
          refine x1_calli C w (x_runV (ad := ad) (i := 0) (As := [.int 11]) (rest := [.int v2]) C w.1 (rfl : kd 0 = 0) (by decide) (ci := 4) rfl rfl rfl me_X4_count ml_StairBowsLaw_9 (c_X4_count l g ad m_10 _ 11 h) ⟨rfl, rfl⟩ ⟨Nat.le_of_ble_eq_true rfl, Nat.le_of_ble_eq_true rfl⟩ rfl hl.1 rfl (Nat.le_of_ble_eq_true rfl) dL_isWell_546 ⟨Nat.le_of_ble_eq_true rfl, Nat.le_of_ble_eq_true rfl⟩) (fun r_12 m_13 h H locs w => ?_)
          refine lv_icmp_ne (tgt := 607) hx hb dL_isWell_549 (by decide) (fun c_14 => ?_) (fun c_14 => ?_)
          · have h := h.1 c_14
            refine lv_iconst (v := 0) hx hb dL_isWell_607 (by decide) ?_
            exact x1_zret C w (show bz 0 from Or.inl rfl) h dL_isWell_608
          · have h := h.2 c_14
            refine lv_iload_n hx hb dL_isWell_552 rfl (lv_at hl 4 rfl) ?_
            refine lv_aload_n hx hb dL_isWell_553 rfl (lv_at hl 1 rfl) ?_
            refine lv_bipush (v := 12) hx hb dL_isWell_554 (by decide) ?_
            refine x1_calli C w (x_runV (ad := ad) (i := 0) (As := [.int 12]) (rest := [.int v3]) C w.1 (rfl : kd 0 = 0) (by decide) (ci := 4) rfl rfl rfl me_X4_count ml_StairBowsLaw_9 (c_X4_count l g ad m_13 _ 12 h) ⟨rfl, rfl⟩ ⟨Nat.le_of_ble_eq_true rfl, Nat.le_of_ble_eq_true rfl⟩ rfl hl.1 rfl (Nat.le_of_ble_eq_true rfl) dL_isWell_556 ⟨Nat.le_of_ble_eq_true rfl, Nat.le_of_ble_eq_true rfl⟩) (fun r_15 m_16 h H locs w => ?_)
            refine lv_icmp_ne (tgt := 607) hx hb dL_isWell_559 (by decide) (fun c_17 => ?_) (fun c_17 => ?_)
            · have h := h.1 c_17
              refine lv_iconst (v := 0) hx hb dL_isWell_607 (by decide) ?_
              exact x1_zret C w (show bz 0 from Or.inl rfl) h dL_isWell_608
            · have h := h.2 c_17
              refine lv_iload hx hb dL_isWell_562 (lv_at hl 6 rfl) ?_
              refine lv_aload_n hx hb dL_isWell_564 rfl (lv_at hl 1 rfl) ?_
              refine lv_bipush (v := 9) hx hb dL_isWell_565 (by decide) ?_
              refine x1_calli C w (x_runV (ad := ad) (i := 0) (As := [.int 9]) (rest := [.int v5]) C w.1 (rfl : kd 0 = 0) (by decide) (ci := 4) rfl rfl rfl me_X4_count ml_StairBowsLaw_9 (c_X4_count l g ad m_16 _ 9 h) ⟨rfl, rfl⟩ ⟨Nat.le_of_ble_eq_true rfl, Nat.le_of_ble_eq_true rfl⟩ rfl hl.1 rfl (Nat.le_of_ble_eq_true rfl) dL_isWell_567 ⟨Nat.le_of_ble_eq_true rfl, Nat.le_of_ble_eq_true rfl⟩) (fun r_18 m_19 h H locs w => ?_)
              refine lv_icmp_ne (tgt := 607) hx hb dL_isWell_570 (by decide) (fun c_20 => ?_) (fun c_20 => ?_)
              · have h := h.1 c_20
                refine lv_iconst (v := 0) hx hb dL_isWell_607 (by decide) ?_
                exact x1_zret C w (show bz 0 from Or.inl rfl) h dL_isWell_608
              · have h := h.2 c_20
                refine lv_iload hx hb dL_isWell_573 (lv_at hl 0 rfl) ?_
                refine lv_if_ne (tgt := 582) hx hb dL_isWell_575 (by decide) (fun c_21 => ?_) (fun c_21 => ?_)
                · have h := h.1 c_21
                  refine lv_iconst (v := 0) hx hb dL_isWell_582 (by decide) ?_
                  exact t_L_isWell_B583 C m_19 fw _ _ _ h w (lv_sub hl [5] rfl)
                · have h := h.2 c_21
                  refine lv_iconst (v := 1) hx hb dL_isWell_578 (by decide) ?_
                  refine lv_goto (tgt := 583) hx hb dL_isWell_579 (by decide) ?_
                  exact t_L_isWell_B583 C m_19 fw _ _ _ h w (lv_sub hl [5] rfl)
    · have h := h.2 c_5
      refine lv_iload hx hb dL_isWell_487 (lv_at hl 6 rfl) ?_
      refine lv_if_eq (tgt := 512) hx hb dL_isWell_489 (by decide) (fun c_25 => ?_) (fun c_25 => ?_)
      · have h := h.1 c_25
        refine lv_iconst (v := 0) hx hb dL_isWell_512 (by decide) ?_
        refine lv_istore (lv' := [(6, .int 0), (0, .ref (ad 0)), (1, .int v1), (2, .int v2), (3, .int v3), (4, .ref q0), (5, .int v5), (7, .int v7)]) hx hb dL_isWell_513 hl (by decide) rfl (fun ls hl => ?_)
        refine lv_iinc (v := (v7 + 1)) (lv' := [(7, .int (v7 + 1)), (6, .int 0), (0, .ref (ad 0)), (1, .int v1), (2, .int v2), (3, .int v3), (4, .ref q0), (5, .int v5)]) hx hb dL_isWell_515 hl (k := 7) rfl rfl (by decide) rfl (fun ls hl => ?_)
        refine lv_goto (tgt := 481) hx hb dL_isWell_518 (by decide) ?_
        exact ih 0 (v7 + 1) μ fw _ _ _ h w (lv_sub hl [2, 3, 4, 5, 6, 7, 1, 0] rfl)
      · have h := h.2 c_25
        refine lv_aload hx hb dL_isWell_492 (lv_at hl 4 rfl) ?_
        refine lv_iload hx hb dL_isWell_494 (lv_at hl 7 rfl) ?_
        refine x1_iald C w (show vp_in v7 4 from h.1) dL_isWell_496 ?_
        have h := h.2
        refine lv_aload_n hx hb dL_isWell_497 rfl (lv_at hl 0 rfl) ?_
        refine lv_iconst (v := 5) hx hb dL_isWell_498 (by decide) ?_
        refine lv_iload hx hb dL_isWell_499 (lv_at hl 7 rfl) ?_
        refine lv_iadd hx hb dL_isWell_501 ?_
        refine x1_calli C w (x_runV (ad := ad) (i := 0) (As := [.int (5 + v7)]) (rest := [.int (fw v7.toNatClampNeg)]) C w.1 (rfl : kd 0 = 0) (by decide) (ci := 4) rfl rfl rfl me_X4_count ml_StairBowsLaw_9 (c_X4_count l g ad μ _ (5 + v7) h) ⟨rfl, rfl⟩ ⟨Nat.le_of_ble_eq_true rfl, Nat.le_of_ble_eq_true rfl⟩ rfl hl.1 rfl (Nat.le_of_ble_eq_true rfl) dL_isWell_502 ⟨Nat.le_of_ble_eq_true rfl, Nat.le_of_ble_eq_true rfl⟩) (fun r_26 m_27 h H locs w => ?_)
        refine lv_icmp_ne (tgt := 512) hx hb dL_isWell_505 (by decide) (fun c_28 => ?_) (fun c_28 => ?_)
        · have h := h.1 c_28
          refine lv_iconst (v := 0) hx hb dL_isWell_512 (by decide) ?_
          refine lv_istore (lv' := [(6, .int 0), (0, .ref (ad 0)), (1, .int v1), (2, .int v2), (3, .int v3), (4, .ref q0), (5, .int v5), (7, .int v7)]) hx hb dL_isWell_513 hl (by decide) rfl (fun ls hl => ?_)
          refine lv_iinc (v := (v7 + 1)) (lv' := [(7, .int (v7 + 1)), (6, .int 0), (0, .ref (ad 0)), (1, .int v1), (2, .int v2), (3, .int v3), (4, .ref q0), (5, .int v5)]) hx hb dL_isWell_515 hl (k := 7) rfl rfl (by decide) rfl (fun ls hl => ?_)
          refine lv_goto (tgt := 481) hx hb dL_isWell_518 (by decide) ?_
          exact ih 0 (v7 + 1) m_27 fw _ _ _ h w (lv_sub hl [2, 3, 4, 5, 6, 7, 1, 0] rfl)
        · have h := h.2 c_28
          refine lv_iconst (v := 1) hx hb dL_isWell_508 (by decide) ?_
          refine lv_goto (tgt := 513) hx hb dL_isWell_509 (by decide) ?_
          refine lv_istore (lv' := [(6, .int 1), (0, .ref (ad 0)), (1, .int v1), (2, .int v2), (3, .int v3), (4, .ref q0), (5, .int v5), (7, .int v7)]) hx hb dL_isWell_513 hl (by decide) rfl (fun ls hl => ?_)
          refine lv_iinc (v := (v7 + 1)) (lv' := [(7, .int (v7 + 1)), (6, .int 1), (0, .ref (ad 0)), (1, .int v1), (2, .int v2), (3, .int v3), (4, .ref q0), (5, .int v5)]) hx hb dL_isWell_515 hl (k := 7) rfl rfl (by decide) rfl (fun ls hl => ?_)
          refine lv_goto (tgt := 481) hx hb dL_isWell_518 (by decide) ?_
          exact ih 1 (v7 + 1) m_27 fw _ _ _ h w (lv_sub hl [2, 3, 4, 5, 6, 7, 1, 0] rfl)
set_option maxHeartbeats 4000000 in
set_option maxRecDepth 100000 in
theorem t_L_isWell_B452 {g : Gv} {ad : Nat → Nat} {l : Launch} {p : Program} {e : Env} {s : State} {m : MethodId} {args : Array Value} {below : List Frame} {meth : Method} {c : Code} {q0 : Nat} (C : Cx g p s m args meth c "StairBowsLaw" cL_isWell 11 (some .boolean)) {v1 : Int32} {v2 : Int32} {v3 : Int32} {v5 : Int32} {v7 : Int32} {v9 : Int32} {s0 : Int32}  {K : Int32 → Mem → Prop} {E240 : Int32 → Int32 → Int32 → Mem → (Nat → Int32) → Prop} (hE240 : ∀ (v5 : Int32) (v6 : Int32) (v7 : Int32) (μ : Mem) (fw : (Nat → Int32)) (H : Heap) (locs : List Loc) (ls : Array Slot), E240 v5 v6 v7 μ fw → Wd1 g ad μ q0 fw (Aw ad s.heap.size) s H locs → lv_has ls 11 [(0, .ref (ad 0)), (1, .int v1), (2, .int v2), (3, .int v3), (4, .ref q0), (5, .int v5), (6, .int v6), (7, .int v7)] → W p l e rm_L_isWell s m args below meth c H locs 1 4 (MQ below (PostI g ad s.heap.size K) args s 1 4 (Aw ad s.heap.size)) (F0 m 240 ls [])) (μ : Mem) (fw : (Nat → Int32)) (H : Heap) (locs : List Loc) (ls : Array Slot) (h : wp_L_isWell_B452 v1 v2 v3 v5 v7 v9 s0 K E240 μ fw) (w : Wd1 g ad μ q0 fw (Aw ad s.heap.size) s H locs) (hl : lv_has ls 11 [(0, .ref (ad 0)), (1, .int v1), (2, .int v2), (3, .int v3), (4, .ref q0), (5, .int v5), (7, .int v7), (9, .int v9)]) : W p l e rm_L_isWell s m args below meth c H locs 1 4 (MQ below (PostI g ad s.heap.size K) args s 1 4 (Aw ad s.heap.size)) (F0 m 452 ls [.int s0]) := by
  obtain ⟨hx, hb, hml, -, hts, hown, -, -, hN⟩ := id C
  unfold wp_L_isWell_B452 at h
  refine lv_iload hx hb dL_isWell_452 (lv_at hl 7 rfl) ?_
  refine lv_if_ne (tgt := 461) hx hb dL_isWell_454 (by decide) (fun c_51 => ?_) (fun c_51 => ?_)
  · have h := h.1 c_51
    refine lv_iconst (v := 0) hx hb dL_isWell_461 (by decide) ?_
    refine lv_icmp_ne (tgt := 469) hx hb dL_isWell_462 (by decide) (fun c_52 => ?_) (fun c_52 => ?_)
    · have h := h.1 c_52
      refine lv_iconst (v := 0) hx hb dL_isWell_469 (by decide) ?_
      refine lv_istore (lv' := [(6, .int 0), (0, .ref (ad 0)), (1, .int v1), (2, .int v2), (3, .int v3), (4, .ref q0), (5, .int v5), (7, .int v7), (9, .int v9)]) hx hb dL_isWell_470 hl (by decide) rfl (fun ls hl => ?_)
      refine lv_iinc (v := (v7 + 1)) (lv' := [(7, .int (v7 + 1)), (6, .int 0), (0, .ref (ad 0)), (1, .int v1), (2, .int v2), (3, .int v3), (4, .ref q0), (5, .int v5), (9, .int v9)]) hx hb dL_isWell_472 hl (k := 7) rfl rfl (by decide) rfl (fun ls hl => ?_)
      refine lv_goto (tgt := 240) hx hb dL_isWell_475 (by decide) ?_
      exact hE240 v5 0 (v7 + 1) μ fw _ _ _ h w (lv_sub hl [2, 3, 4, 5, 6, 7, 1, 0] rfl)
    · have h := h.2 c_52
      refine lv_iconst (v := 1) hx hb dL_isWell_465 (by decide) ?_
      refine lv_goto (tgt := 470) hx hb dL_isWell_466 (by decide) ?_
      refine lv_istore (lv' := [(6, .int 1), (0, .ref (ad 0)), (1, .int v1), (2, .int v2), (3, .int v3), (4, .ref q0), (5, .int v5), (7, .int v7), (9, .int v9)]) hx hb dL_isWell_470 hl (by decide) rfl (fun ls hl => ?_)
      refine lv_iinc (v := (v7 + 1)) (lv' := [(7, .int (v7 + 1)), (6, .int 1), (0, .ref (ad 0)), (1, .int v1), (2, .int v2), (3, .int v3), (4, .ref q0), (5, .int v5), (9, .int v9)]) hx hb dL_isWell_472 hl (k := 7) rfl rfl (by decide) rfl (fun ls hl => ?_)
      refine lv_goto (tgt := 240) hx hb dL_isWell_475 (by decide) ?_
      exact hE240 v5 1 (v7 + 1) μ fw _ _ _ h w (lv_sub hl [2, 3, 4, 5, 6, 7, 1, 0] rfl)
  · have h := h.2 c_51
    refine lv_iconst (v := 1) hx hb dL_isWell_457 (by decide) ?_
    refine lv_goto (tgt := 462) hx hb dL_isWell_458 (by decide) ?_
    refine lv_icmp_ne (tgt := 469) hx hb dL_isWell_462 (by decide) (fun c_53 => ?_) (fun c_53 => ?_)
    · have h := h.1 c_53
      refine lv_iconst (v := 0) hx hb dL_isWell_469 (by decide) ?_
      refine lv_istore (lv' := [(6, .int 0), (0, .ref (ad 0)), (1, .int v1), (2, .int v2), (3, .int v3), (4, .ref q0), (5, .int v5), (7, .int v7), (9, .int v9)]) hx hb dL_isWell_470 hl (by decide) rfl (fun ls hl => ?_)
      refine lv_iinc (v := (v7 + 1)) (lv' := [(7, .int (v7 + 1)), (6, .int 0), (0, .ref (ad 0)), (1, .int v1), (2, .int v2), (3, .int v3), (4, .ref q0), (5, .int v5), (9, .int v9)]) hx hb dL_isWell_472 hl (k := 7) rfl rfl (by decide) rfl (fun ls hl => ?_)
      refine lv_goto (tgt := 240) hx hb dL_isWell_475 (by decide) ?_
      exact hE240 v5 0 (v7 + 1) μ fw _ _ _ h w (lv_sub hl [2, 3, 4, 5, 6, 7, 1, 0] rfl)
    · have h := h.2 c_53
      refine lv_iconst (v := 1) hx hb dL_isWell_465 (by decide) ?_
      refine lv_goto (tgt := 470) hx hb dL_isWell_466 (by decide) ?_
      refine lv_istore (lv' := [(6, .int 1), (0, .ref (ad 0)), (1, .int v1), (2, .int v2), (3, .int v3), (4, .ref q0), (5, .int v5), (7, .int v7), (9, .int v9)]) hx hb dL_isWell_470 hl (by decide) rfl (fun ls hl => ?_)
      refine lv_iinc (v := (v7 + 1)) (lv' := [(7, .int (v7 + 1)), (6, .int 1), (0, .ref (ad 0)), (1, .int v1), (2, .int v2), (3, .int v3), (4, .ref q0), (5, .int v5), (9, .int v9)]) hx hb dL_isWell_472 hl (k := 7) rfl rfl (by decide) rfl (fun ls hl => ?_)
      refine lv_goto (tgt := 240) hx hb dL_isWell_475 (by decide) ?_
      exact hE240 v5 1 (v7 + 1) μ fw _ _ _ h w (lv_sub hl [2, 3, 4, 5, 6, 7, 1, 0] rfl)
set_option maxHeartbeats 4000000 in
set_option maxRecDepth 100000 in
theorem t_L_isWell_B424 {g : Gv} {ad : Nat → Nat} {l : Launch} {p : Program} {e : Env} {s : State} {m : MethodId} {args : Array Value} {below : List Frame} {meth : Method} {c : Code} {q0 : Nat} (C : Cx g p s m args meth c "StairBowsLaw" cL_isWell 11 (some .boolean)) {v1 : Int32} {v2 : Int32} {v3 : Int32} {v5 : Int32} {v7 : Int32} {v8 : Int32} {v9 : Int32} {s0 : Int32} {s1 : Int32}  {K : Int32 → Mem → Prop} {E240 : Int32 → Int32 → Int32 → Mem → (Nat → Int32) → Prop} (hE240 : ∀ (v5 : Int32) (v6 : Int32) (v7 : Int32) (μ : Mem) (fw : (Nat → Int32)) (H : Heap) (locs : List Loc) (ls : Array Slot), E240 v5 v6 v7 μ fw → Wd1 g ad μ q0 fw (Aw ad s.heap.size) s H locs → lv_has ls 11 [(0, .ref (ad 0)), (1, .int v1), (2, .int v2), (3, .int v3), (4, .ref q0), (5, .int v5), (6, .int v6), (7, .int v7)] → W p l e rm_L_isWell s m args below meth c H locs 1 4 (MQ below (PostI g ad s.heap.size K) args s 1 4 (Aw ad s.heap.size)) (F0 m 240 ls [])) (μ : Mem) (fw : (Nat → Int32)) (H : Heap) (locs : List Loc) (ls : Array Slot) (h : wp_L_isWell_B424 v1 v2 v3 v5 v7 v8 v9 s0 s1 K E240 μ fw) (w : Wd1 g ad μ q0 fw (Aw ad s.heap.size) s H locs) (hl : lv_has ls 11 [(0, .ref (ad 0)), (1, .int v1), (2, .int v2), (3, .int v3), (4, .ref q0), (5, .int v5), (7, .int v7), (8, .int v8), (9, .int v9)]) : W p l e rm_L_isWell s m args below meth c H locs 1 4 (MQ below (PostI g ad s.heap.size K) args s 1 4 (Aw ad s.heap.size)) (F0 m 424 ls [.int s0, .int s1]) := by
  obtain ⟨hx, hb, hml, -, hts, hown, -, -, hN⟩ := id C
  unfold wp_L_isWell_B424 at h
  refine lv_iload hx hb dL_isWell_424 (lv_at hl 8 rfl) ?_
  refine lv_isub hx hb dL_isWell_426 ?_
  refine lv_icmp_ne (tgt := 469) hx hb dL_isWell_427 (by decide) (fun c_46 => ?_) (fun c_46 => ?_)
  · have h := h.1 c_46
    refine lv_iconst (v := 0) hx hb dL_isWell_469 (by decide) ?_
    refine lv_istore (lv' := [(6, .int 0), (0, .ref (ad 0)), (1, .int v1), (2, .int v2), (3, .int v3), (4, .ref q0), (5, .int v5), (7, .int v7), (8, .int v8), (9, .int v9)]) hx hb dL_isWell_470 hl (by decide) rfl (fun ls hl => ?_)
    refine lv_iinc (v := (v7 + 1)) (lv' := [(7, .int (v7 + 1)), (6, .int 0), (0, .ref (ad 0)), (1, .int v1), (2, .int v2), (3, .int v3), (4, .ref q0), (5, .int v5), (8, .int v8), (9, .int v9)]) hx hb dL_isWell_472 hl (k := 7) rfl rfl (by decide) rfl (fun ls hl => ?_)
    refine lv_goto (tgt := 240) hx hb dL_isWell_475 (by decide) ?_
    exact hE240 v5 0 (v7 + 1) μ fw _ _ _ h w (lv_sub hl [2, 3, 4, 5, 6, 7, 1, 0] rfl)
  · have h := h.2 c_46
    refine lv_aload_n hx hb dL_isWell_430 rfl (lv_at hl 0 rfl) ?_
    refine lv_iload hx hb dL_isWell_431 (lv_at hl 6 rfl) ?_
    refine lv_iconst (v := 2) hx hb dL_isWell_433 (by decide) ?_
    refine x1_calli C w (x_runV (ad := ad) (i := 0) (As := [.int v7, .int 2]) (rest := []) C w.1 (rfl : kd 0 = 0) (by decide) (ci := 4) rfl rfl rfl me_X4_step ml_StairBowsLaw_21 (c_X4_step l g ad μ _ v7 2 h) ⟨rfl, rfl⟩ ⟨Nat.le_of_ble_eq_true rfl, Nat.le_of_ble_eq_true rfl⟩ rfl hl.1 rfl (Nat.le_of_ble_eq_true rfl) dL_isWell_434 ⟨Nat.le_of_ble_eq_true rfl, Nat.le_of_ble_eq_true rfl⟩) (fun r_47 m_48 h H locs w => ?_)
    refine lv_if_lt (tgt := 469) hx hb dL_isWell_437 (by decide) (fun c_49 => ?_) (fun c_49 => ?_)
    · have h := h.1 c_49
      refine lv_iconst (v := 0) hx hb dL_isWell_469 (by decide) ?_
      refine lv_istore (lv' := [(6, .int 0), (0, .ref (ad 0)), (1, .int v1), (2, .int v2), (3, .int v3), (4, .ref q0), (5, .int v5), (7, .int v7), (8, .int v8), (9, .int v9)]) hx hb dL_isWell_470 hl (by decide) rfl (fun ls hl => ?_)
      refine lv_iinc (v := (v7 + 1)) (lv' := [(7, .int (v7 + 1)), (6, .int 0), (0, .ref (ad 0)), (1, .int v1), (2, .int v2), (3, .int v3), (4, .ref q0), (5, .int v5), (8, .int v8), (9, .int v9)]) hx hb dL_isWell_472 hl (k := 7) rfl rfl (by decide) rfl (fun ls hl => ?_)
      refine lv_goto (tgt := 240) hx hb dL_isWell_475 (by decide) ?_
      exact hE240 v5 0 (v7 + 1) m_48 fw _ _ _ h w (lv_sub hl [2, 3, 4, 5, 6, 7, 1, 0] rfl)
    · have h := h.2 c_49
      refine lv_iload hx hb dL_isWell_440 (lv_at hl 7 rfl) ?_
      refine lv_bipush (v := -6) hx hb dL_isWell_442 (by decide) ?_
      refine lv_icmp_ne (tgt := 451) hx hb dL_isWell_444 (by decide) (fun c_50 => ?_) (fun c_50 => ?_)
      · have h := h.1 c_50
        refine lv_iconst (v := 0) hx hb dL_isWell_451 (by decide) ?_
        exact t_L_isWell_B452 C hE240 m_48 fw _ _ _ h w (lv_sub hl [0, 1, 2, 3, 4, 5, 6, 8] rfl)
      · have h := h.2 c_50
        refine lv_iconst (v := 1) hx hb dL_isWell_447 (by decide) ?_
        refine lv_goto (tgt := 452) hx hb dL_isWell_448 (by decide) ?_
        exact t_L_isWell_B452 C hE240 m_48 fw _ _ _ h w (lv_sub hl [0, 1, 2, 3, 4, 5, 6, 8] rfl)
set_option maxHeartbeats 4000000 in
set_option maxRecDepth 100000 in
theorem t_L_isWell_B306 {g : Gv} {ad : Nat → Nat} {l : Launch} {p : Program} {e : Env} {s : State} {m : MethodId} {args : Array Value} {below : List Frame} {meth : Method} {c : Code} {q0 : Nat} (C : Cx g p s m args meth c "StairBowsLaw" cL_isWell 11 (some .boolean)) {v1 : Int32} {v2 : Int32} {v3 : Int32} {v5 : Int32} {v6 : Int32} {v7 : Int32} {v8 : Int32} {v10 : Int32} {s0 : Int32} {s1 : Int32}  {K : Int32 → Mem → Prop} {E240 : Int32 → Int32 → Int32 → Mem → (Nat → Int32) → Prop} {E277 : Int32 → Int32 → Int32 → Mem → (Nat → Int32) → Prop} (hE240 : ∀ (v5 : Int32) (v6 : Int32) (v7 : Int32) (μ : Mem) (fw : (Nat → Int32)) (H : Heap) (locs : List Loc) (ls : Array Slot), E240 v5 v6 v7 μ fw → Wd1 g ad μ q0 fw (Aw ad s.heap.size) s H locs → lv_has ls 11 [(0, .ref (ad 0)), (1, .int v1), (2, .int v2), (3, .int v3), (4, .ref q0), (5, .int v5), (6, .int v6), (7, .int v7)] → W p l e rm_L_isWell s m args below meth c H locs 1 4 (MQ below (PostI g ad s.heap.size K) args s 1 4 (Aw ad s.heap.size)) (F0 m 240 ls [])) (hE277 : ∀ (v6 : Int32) (v9 : Int32) (v10 : Int32) (μ : Mem) (fw : (Nat → Int32)) (H : Heap) (locs : List Loc) (ls : Array Slot), E277 v6 v9 v10 μ fw → Wd1 g ad μ q0 fw (Aw ad s.heap.size) s H locs → lv_has ls 11 [(0, .ref (ad 0)), (1, .int v1), (2, .int v2), (3, .int v3), (4, .ref q0), (5, .int v5), (6, .int v6), (7, .int v7), (8, .int v8), (9, .int v9), (10, .int v10)] → W p l e rm_L_isWell s m args below meth c H locs 1 4 (MQ below (PostI g ad s.heap.size K) args s 1 4 (Aw ad s.heap.size)) (F0 m 277 ls [])) (μ : Mem) (fw : (Nat → Int32)) (H : Heap) (locs : List Loc) (ls : Array Slot) (h : wp_L_isWell_B306 v1 v2 v3 v5 v6 v7 v8 v10 s0 s1 K E240 E277 μ fw) (w : Wd1 g ad μ q0 fw (Aw ad s.heap.size) s H locs) (hl : lv_has ls 11 [(0, .ref (ad 0)), (1, .int v1), (2, .int v2), (3, .int v3), (4, .ref q0), (5, .int v5), (6, .int v6), (7, .int v7), (8, .int v8), (10, .int v10)]) : W p l e rm_L_isWell s m args below meth c H locs 1 4 (MQ below (PostI g ad s.heap.size K) args s 1 4 (Aw ad s.heap.size)) (F0 m 306 ls [.int s0, .int s1]) := by
  obtain ⟨hx, hb, hml, -, hts, hown, -, -, hN⟩ := id C
  unfold wp_L_isWell_B306 at h
  refine lv_iadd hx hb dL_isWell_306 ?_
  refine lv_istore (lv' := [(9, .int (s1 + s0)), (0, .ref (ad 0)), (1, .int v1), (2, .int v2), (3, .int v3), (4, .ref q0), (5, .int v5), (6, .int v6), (7, .int v7), (8, .int v8), (10, .int v10)]) hx hb dL_isWell_307 hl (by decide) rfl (fun ls hl => ?_)
  refine lv_iload hx hb dL_isWell_309 (lv_at hl 7 rfl) ?_
  refine lv_if_eq (tgt := 371) hx hb dL_isWell_311 (by decide) (fun c_59 => ?_) (fun c_59 => ?_)
  · have h := h.1 c_59
    refine lv_iconst (v := 0) hx hb dL_isWell_371 (by decide) ?_
    refine lv_istore (lv' := [(6, .int 0), (9, .int (s1 + s0)), (0, .ref (ad 0)), (1, .int v1), (2, .int v2), (3, .int v3), (4, .ref q0), (5, .int v5), (7, .int v7), (8, .int v8), (10, .int v10)]) hx hb dL_isWell_372 hl (by decide) rfl (fun ls hl => ?_)
    refine lv_iinc (v := (v10 + 1)) (lv' := [(10, .int (v10 + 1)), (6, .int 0), (9, .int (s1 + s0)), (0, .ref (ad 0)), (1, .int v1), (2, .int v2), (3, .int v3), (4, .ref q0), (5, .int v5), (7, .int v7), (8, .int v8)]) hx hb dL_isWell_374 hl (k := 10) rfl rfl (by decide) rfl (fun ls hl => ?_)
    refine lv_goto (tgt := 277) hx hb dL_isWell_377 (by decide) ?_
    exact hE277 0 (s1 + s0) (v10 + 1) μ fw _ _ _ h w (lv_sub hl [3, 4, 5, 6, 7, 8, 1, 9, 10, 2, 0] rfl)
  · have h := h.2 c_59
    refine lv_aload_n hx hb dL_isWell_314 rfl (lv_at hl 1 rfl) ?_
    refine lv_iload hx hb dL_isWell_315 (lv_at hl 10 rfl) ?_
    refine lv_iconst (v := 3) hx hb dL_isWell_317 (by decide) ?_
    refine x1_calli C w (x_runV (ad := ad) (i := 0) (As := [.int v10, .int 3]) (rest := []) C w.1 (rfl : kd 0 = 0) (by decide) (ci := 4) rfl rfl rfl me_X4_person ml_StairBowsLaw_31 (c_X4_person l g ad μ _ v10 3 h) ⟨rfl, rfl⟩ ⟨Nat.le_of_ble_eq_true rfl, Nat.le_of_ble_eq_true rfl⟩ rfl hl.1 rfl (Nat.le_of_ble_eq_true rfl) dL_isWell_318 ⟨Nat.le_of_ble_eq_true rfl, Nat.le_of_ble_eq_true rfl⟩) (fun r_60 m_61 h H locs w => ?_)
    refine lv_iload hx hb dL_isWell_321 (lv_at hl 8 rfl) ?_
    refine lv_icmp_ne (tgt := 367) hx hb dL_isWell_323 (by decide) (fun c_62 => ?_) (fun c_62 => ?_)
    · have h := h.1 c_62
      refine lv_iconst (v := 1) hx hb dL_isWell_367 (by decide) ?_
      refine lv_goto (tgt := 372) hx hb dL_isWell_368 (by decide) ?_
      refine lv_istore (lv' := [(6, .int 1), (9, .int (s1 + s0)), (0, .ref (ad 0)), (1, .int v1), (2, .int v2), (3, .int v3), (4, .ref q0), (5, .int v5), (7, .int v7), (8, .int v8), (10, .int v10)]) hx hb dL_isWell_372 hl (by decide) rfl (fun ls hl => ?_)
      refine lv_iinc (v := (v10 + 1)) (lv' := [(10, .int (v10 + 1)), (6, .int 1), (9, .int (s1 + s0)), (0, .ref (ad 0)), (1, .int v1), (2, .int v2), (3, .int v3), (4, .ref q0), (5, .int v5), (7, .int v7), (8, .int v8)]) hx hb dL_isWell_374 hl (k := 10) rfl rfl (by decide) rfl (fun ls hl => ?_)
      refine lv_goto (tgt := 277) hx hb dL_isWell_377 (by decide) ?_
      exact hE277 1 (s1 + s0) (v10 + 1) m_61 fw _ _ _ h w (lv_sub hl [3, 4, 5, 6, 7, 8, 1, 9, 10, 2, 0] rfl)
    · have h := h.2 c_62
      refine lv_aload_n hx hb dL_isWell_326 rfl (lv_at hl 1 rfl) ?_
      refine lv_iload hx hb dL_isWell_327 (lv_at hl 9 rfl) ?_
      refine lv_iconst (v := 0) hx hb dL_isWell_329 (by decide) ?_
      refine x1_calli C w (x_runV (ad := ad) (i := 0) (As := [.int v8, .int 0]) (rest := []) C w.1 (rfl : kd 0 = 0) (by decide) (ci := 4) rfl rfl rfl me_X4_person ml_StairBowsLaw_31 (c_X4_person l g ad m_61 _ v8 0 h) ⟨rfl, rfl⟩ ⟨Nat.le_of_ble_eq_true rfl, Nat.le_of_ble_eq_true rfl⟩ rfl hl.1 rfl (Nat.le_of_ble_eq_true rfl) dL_isWell_330 ⟨Nat.le_of_ble_eq_true rfl, Nat.le_of_ble_eq_true rfl⟩) (fun r_63 m_64 h H locs w => ?_)
      refine lv_aload_n hx hb dL_isWell_333 rfl (lv_at hl 1 rfl) ?_
      refine lv_iload hx hb dL_isWell_334 (lv_at hl 10 rfl) ?_
      refine lv_iconst (v := 0) hx hb dL_isWell_336 (by decide) ?_
      refine x1_calli C w (x_runV (ad := ad) (i := 0) (As := [.int v10, .int 0]) (rest := [.int r_63]) C w.1 (rfl : kd 0 = 0) (by decide) (ci := 4) rfl rfl rfl me_X4_person ml_StairBowsLaw_31 (c_X4_person l g ad m_64 _ v10 0 h) ⟨rfl, rfl⟩ ⟨Nat.le_of_ble_eq_true rfl, Nat.le_of_ble_eq_true rfl⟩ rfl hl.1 rfl (Nat.le_of_ble_eq_true rfl) dL_isWell_337 ⟨Nat.le_of_ble_eq_true rfl, Nat.le_of_ble_eq_true rfl⟩) (fun r_65 m_66 h H locs w => ?_)
      refine lv_icmp_gt (tgt := 367) hx hb dL_isWell_340 (by decide) (fun c_67 => ?_) (fun c_67 => ?_)
      · have h := h.1 c_67
        refine lv_iconst (v := 1) hx hb dL_isWell_367 (by decide) ?_
        refine lv_goto (tgt := 372) hx hb dL_isWell_368 (by decide) ?_
        refine lv_istore (lv' := [(6, .int 1), (9, .int (s1 + s0)), (0, .ref (ad 0)), (1, .int v1), (2, .int v2), (3, .int v3), (4, .ref q0), (5, .int v5), (7, .int v7), (8, .int v8), (10, .int v10)]) hx hb dL_isWell_372 hl (by decide) rfl (fun ls hl => ?_)
        refine lv_iinc (v := (v10 + 1)) (lv' := [(10, .int (v10 + 1)), (6, .int 1), (9, .int (s1 + s0)), (0, .ref (ad 0)), (1, .int v1), (2, .int v2), (3, .int v3), (4, .ref q0), (5, .int v5), (7, .int v7), (8, .int v8)]) hx hb dL_isWell_374 hl (k := 10) rfl rfl (by decide) rfl (fun ls hl => ?_)
        refine lv_goto (tgt := 277) hx hb dL_isWell_377 (by decide) ?_
        exact hE277 1 (s1 + s0) (v10 + 1) m_66 fw _ _ _ h w (lv_sub hl [3, 4, 5, 6, 7, 8, 1, 9, 10, 2, 0] rfl)
      · have h := h.2 c_67
        refine lv_aload_n hx hb dL_isWell_343 rfl (lv_at hl 1 rfl) ?_
        refine lv_iload hx hb dL_isWell_344 (lv_at hl 9 rfl) ?_
        refine lv_iconst (v := 0) hx hb dL_isWell_346 (by decide) ?_
        refine x1_calli C w (x_runV (ad := ad) (i := 0) (As := [.int v8, .int 0]) (rest := []) C w.1 (rfl : kd 0 = 0) (by decide) (ci := 4) rfl rfl rfl me_X4_person ml_StairBowsLaw_31 (c_X4_person l g ad m_66 _ v8 0 h) ⟨rfl, rfl⟩ ⟨Nat.le_of_ble_eq_true rfl, Nat.le_of_ble_eq_true rfl⟩ rfl hl.1 rfl (Nat.le_of_ble_eq_true rfl) dL_isWell_347 ⟨Nat.le_of_ble_eq_true rfl, Nat.le_of_ble_eq_true rfl⟩) (fun r_68 m_69 h H locs w => ?_)
        refine lv_aload_n hx hb dL_isWell_350 rfl (lv_at hl 1 rfl) ?_
        refine lv_iload hx hb dL_isWell_351 (lv_at hl 10 rfl) ?_
        refine lv_iconst (v := 0) hx hb dL_isWell_353 (by decide) ?_
        refine x1_calli C w (x_runV (ad := ad) (i := 0) (As := [.int v10, .int 0]) (rest := [.int r_68]) C w.1 (rfl : kd 0 = 0) (by decide) (ci := 4) rfl rfl rfl me_X4_person ml_StairBowsLaw_31 (c_X4_person l g ad m_69 _ v10 0 h) ⟨rfl, rfl⟩ ⟨Nat.le_of_ble_eq_true rfl, Nat.le_of_ble_eq_true rfl⟩ rfl hl.1 rfl (Nat.le_of_ble_eq_true rfl) dL_isWell_354 ⟨Nat.le_of_ble_eq_true rfl, Nat.le_of_ble_eq_true rfl⟩) (fun r_70 m_71 h H locs w => ?_)
        refine lv_icmp_ne (tgt := 371) hx hb dL_isWell_357 (by decide) (fun c_72 => ?_) (fun c_72 => ?_)
        · have h := h.1 c_72
          refine lv_iconst (v := 0) hx hb dL_isWell_371 (by decide) ?_
          refine lv_istore (lv' := [(6, .int 0), (9, .int (s1 + s0)), (0, .ref (ad 0)), (1, .int v1), (2, .int v2), (3, .int v3), (4, .ref q0), (5, .int v5), (7, .int v7), (8, .int v8), (10, .int v10)]) hx hb dL_isWell_372 hl (by decide) rfl (fun ls hl => ?_)
          refine lv_iinc (v := (v10 + 1)) (lv' := [(10, .int (v10 + 1)), (6, .int 0), (9, .int (s1 + s0)), (0, .ref (ad 0)), (1, .int v1), (2, .int v2), (3, .int v3), (4, .ref q0), (5, .int v5), (7, .int v7), (8, .int v8)]) hx hb dL_isWell_374 hl (k := 10) rfl rfl (by decide) rfl (fun ls hl => ?_)
          refine lv_goto (tgt := 277) hx hb dL_isWell_377 (by decide) ?_
          exact hE277 0 (s1 + s0) (v10 + 1) m_71 fw _ _ _ h w (lv_sub hl [3, 4, 5, 6, 7, 8, 1, 9, 10, 2, 0] rfl)
        · have h := h.2 c_72
          refine lv_iload hx hb dL_isWell_360 (lv_at hl 9 rfl) ?_
          refine lv_iload hx hb dL_isWell_362 (lv_at hl 10 rfl) ?_
          refine lv_icmp_gt (tgt := 371) hx hb dL_isWell_364 (by decide) (fun c_73 => ?_) (fun c_73 => ?_)
          · have h := h.1 c_73
            refine lv_iconst (v := 0) hx hb dL_isWell_371 (by decide) ?_
            refine lv_istore (lv' := [(6, .int 0), (9, .int (s1 + s0)), (0, .ref (ad 0)), (1, .int v1), (2, .int v2), (3, .int v3), (4, .ref q0), (5, .int v5), (7, .int v7), (8, .int v8), (10, .int v10)]) hx hb dL_isWell_372 hl (by decide) rfl (fun ls hl => ?_)
            refine lv_iinc (v := (v10 + 1)) (lv' := [(10, .int (v10 + 1)), (6, .int 0), (9, .int (s1 + s0)), (0, .ref (ad 0)), (1, .int v1), (2, .int v2), (3, .int v3), (4, .ref q0), (5, .int v5), (7, .int v7), (8, .int v8)]) hx hb dL_isWell_374 hl (k := 10) rfl rfl (by decide) rfl (fun ls hl => ?_)
            refine lv_goto (tgt := 277) hx hb dL_isWell_377 (by decide) ?_
            exact hE277 0 (s1 + s0) (v10 + 1) m_71 fw _ _ _ h w (lv_sub hl [3, 4, 5, 6, 7, 8, 1, 9, 10, 2, 0] rfl)
          · have h := h.2 c_73
            refine lv_iconst (v := 1) hx hb dL_isWell_367 (by decide) ?_
            refine lv_goto (tgt := 372) hx hb dL_isWell_368 (by decide) ?_
            refine lv_istore (lv' := [(6, .int 1), (9, .int (s1 + s0)), (0, .ref (ad 0)), (1, .int v1), (2, .int v2), (3, .int v3), (4, .ref q0), (5, .int v5), (7, .int v7), (8, .int v8), (10, .int v10)]) hx hb dL_isWell_372 hl (by decide) rfl (fun ls hl => ?_)
            refine lv_iinc (v := (v10 + 1)) (lv' := [(10, .int (v10 + 1)), (6, .int 1), (9, .int (s1 + s0)), (0, .ref (ad 0)), (1, .int v1), (2, .int v2), (3, .int v3), (4, .ref q0), (5, .int v5), (7, .int v7), (8, .int v8)]) hx hb dL_isWell_374 hl (k := 10) rfl rfl (by decide) rfl (fun ls hl => ?_)
            refine lv_goto (tgt := 277) hx hb dL_isWell_377 (by decide) ?_
            exact hE277 1 (s1 + s0) (v10 + 1) m_71 fw _ _ _ h w (lv_sub hl [3, 4, 5, 6, 7, 8, 1, 9, 10, 2, 0] rfl)
set_option maxHeartbeats 4000000 in
set_option maxRecDepth 100000 in
theorem t_L_isWell_L277 {g : Gv} {ad : Nat → Nat} {l : Launch} {p : Program} {e : Env} {s : State} {m : MethodId} {args : Array Value} {below : List Frame} {meth : Method} {c : Code} {q0 : Nat} (C : Cx g p s m args meth c "StairBowsLaw" cL_isWell 11 (some .boolean)) {v1 : Int32} {v2 : Int32} {v3 : Int32} {v5 : Int32} {v7 : Int32} {v8 : Int32}  {K : Int32 → Mem → Prop} {E240 : Int32 → Int32 → Int32 → Mem → (Nat → Int32) → Prop} (hE240 : ∀ (v5 : Int32) (v6 : Int32) (v7 : Int32) (μ : Mem) (fw : (Nat → Int32)) (H : Heap) (locs : List Loc) (ls : Array Slot), E240 v5 v6 v7 μ fw → Wd1 g ad μ q0 fw (Aw ad s.heap.size) s H locs → lv_has ls 11 [(0, .ref (ad 0)), (1, .int v1), (2, .int v2), (3, .int v3), (4, .ref q0), (5, .int v5), (6, .int v6), (7, .int v7)] → W p l e rm_L_isWell s m args below meth c H locs 1 4 (MQ below (PostI g ad s.heap.size K) args s 1 4 (Aw ad s.heap.size)) (F0 m 240 ls [])) : ∀ (n : Nat) (v6 : Int32) (v9 : Int32) (v10 : Int32) (μ : Mem) (fw : (Nat → Int32)) (H : Heap) (locs : List Loc) (ls : Array Slot), wp_L_isWell_L277 v1 v2 v3 v5 v7 v8 K E240 n v6 v9 v10 μ fw → Wd1 g ad μ q0 fw (Aw ad s.heap.size) s H locs → lv_has ls 11 [(0, .ref (ad 0)), (1, .int v1), (2, .int v2), (3, .int v3), (4, .ref q0), (5, .int v5), (6, .int v6), (7, .int v7), (8, .int v8), (9, .int v9), (10, .int v10)] → W p l e rm_L_isWell s m args below meth c H locs 1 4 (MQ below (PostI g ad s.heap.size K) args s 1 4 (Aw ad s.heap.size)) (F0 m 277 ls []) := by
  obtain ⟨hx, hb, hml, -, hts, hown, -, -, hN⟩ := id C
  intro n
  induction n with
  | zero =>
    intro v6 v9 v10 μ fw H locs ls h w hl
    exact (show False from h).elim
  | succ n ih =>
    intro v6 v9 v10 μ fw H locs ls h w hl
    rw [wp_L_isWell_L277_s] at h
    dsimp only at h
    refine lv_iload hx hb dL_isWell_277 (lv_at hl 10 rfl) ?_
    refine lv_aload_n hx hb dL_isWell_279 rfl (lv_at hl 0 rfl) ?_
    refine lv_iconst (v := 4) hx hb dL_isWell_280 (by decide) ?_
    refine x1_calli C w (x_runV (ad := ad) (i := 0) (As := [.int 4]) (rest := [.int v10]) C w.1 (rfl : kd 0 = 0) (by decide) (ci := 4) rfl rfl rfl me_X4_count ml_StairBowsLaw_9 (c_X4_count l g ad μ _ 4 h) ⟨rfl, rfl⟩ ⟨Nat.le_of_ble_eq_true rfl, Nat.le_of_ble_eq_true rfl⟩ rfl hl.1 rfl (Nat.le_of_ble_eq_true rfl) dL_isWell_281 ⟨Nat.le_of_ble_eq_true rfl, Nat.le_of_ble_eq_true rfl⟩) (fun r_34 m_35 h H locs w => ?_)
    refine lv_icmp_ge (tgt := 380) hx hb dL_isWell_284 (by decide) (fun c_36 => ?_) (fun c_36 => ?_)
    · have h := h.1 c_36
      refine lv_iload hx hb dL_isWell_380 (lv_at hl 6 rfl) ?_
      refine lv_if_eq (tgt := 469) hx hb dL_isWell_382 (by decide) (fun c_37 => ?_) (fun c_37 => ?_)
      · have h := h.1 c_37
        refine lv_iconst (v := 0) hx hb dL_isWell_469 (by decide) ?_
        refine lv_istore (lv' := [(6, .int 0), (0, .ref (ad 0)), (1, .int v1), (2, .int v2), (3, .int v3), (4, .ref q0), (5, .int v5), (7, .int v7), (8, .int v8), (9, .int v9), (10, .int v10)]) hx hb dL_isWell_470 hl (by decide) rfl (fun ls hl => ?_)
        refine lv_iinc (v := (v7 + 1)) (lv' := [(7, .int (v7 + 1)), (6, .int 0), (0, .ref (ad 0)), (1, .int v1), (2, .int v2), (3, .int v3), (4, .ref q0), (5, .int v5), (8, .int v8), (9, .int v9), (10, .int v10)]) hx hb dL_isWell_472 hl (k := 7) rfl rfl (by decide) rfl (fun ls hl => ?_)
        refine lv_goto (tgt := 240) hx hb dL_isWell_475 (by decide) ?_
        exact hE240 v5 0 (v7 + 1) m_35 fw _ _ _ h w (lv_sub hl [2, 3, 4, 5, 6, 7, 1, 0] rfl)
      · have h := h.2 c_37
        refine lv_iload hx hb dL_isWell_385 (lv_at hl 9 rfl) ?_
        refine lv_aload_n hx hb dL_isWell_387 rfl (lv_at hl 0 rfl) ?_
        refine lv_iload hx hb dL_isWell_388 (lv_at hl 7 rfl) ?_
        refine lv_iconst (v := 1) hx hb dL_isWell_390 (by decide) ?_
        refine x1_calli C w (x_runV (ad := ad) (i := 0) (As := [.int v7, .int 1]) (rest := [.int v9]) C w.1 (rfl : kd 0 = 0) (by decide) (ci := 4) rfl rfl rfl me_X4_step ml_StairBowsLaw_21 (c_X4_step l g ad m_35 _ v7 1 h) ⟨rfl, rfl⟩ ⟨Nat.le_of_ble_eq_true rfl, Nat.le_of_ble_eq_true rfl⟩ rfl hl.1 rfl (Nat.le_of_ble_eq_true rfl) dL_isWell_391 ⟨Nat.le_of_ble_eq_true rfl, Nat.le_of_ble_eq_true rfl⟩) (fun r_38 m_39 h H locs w => ?_)
        refine lv_icmp_ne (tgt := 469) hx hb dL_isWell_394 (by decide) (fun c_40 => ?_) (fun c_40 => ?_)
        · have h := h.1 c_40
          refine lv_iconst (v := 0) hx hb dL_isWell_469 (by decide) ?_
          refine lv_istore (lv' := [(6, .int 0), (0, .ref (ad 0)), (1, .int v1), (2, .int v2), (3, .int v3), (4, .ref q0), (5, .int v5), (7, .int v7), (8, .int v8), (9, .int v9), (10, .int v10)]) hx hb dL_isWell_470 hl (by decide) rfl (fun ls hl => ?_)
          refine lv_iinc (v := (v7 + 1)) (lv' := [(7, .int (v7 + 1)), (6, .int 0), (0, .ref (ad 0)), (1, .int v1), (2, .int v2), (3, .int v3), (4, .ref q0), (5, .int v5), (8, .int v8), (9, .int v9), (10, .int v10)]) hx hb dL_isWell_472 hl (k := 7) rfl rfl (by decide) rfl (fun ls hl => ?_)
          refine lv_goto (tgt := 240) hx hb dL_isWell_475 (by decide) ?_
          exact hE240 v5 0 (v7 + 1) m_39 fw _ _ _ h w (lv_sub hl [2, 3, 4, 5, 6, 7, 1, 0] rfl)
        · have h := h.2 c_40
          refine lv_aload_n hx hb dL_isWell_397 rfl (lv_at hl 0 rfl) ?_
          refine lv_iload hx hb dL_isWell_398 (lv_at hl 7 rfl) ?_
          refine lv_iconst (v := 2) hx hb dL_isWell_400 (by decide) ?_
          refine x1_calli C w (x_runV (ad := ad) (i := 0) (As := [.int v7, .int 2]) (rest := []) C w.1 (rfl : kd 0 = 0) (by decide) (ci := 4) rfl rfl rfl me_X4_step ml_StairBowsLaw_21 (c_X4_step l g ad m_39 _ v7 2 h) ⟨rfl, rfl⟩ ⟨Nat.le_of_ble_eq_true rfl, Nat.le_of_ble_eq_true rfl⟩ rfl hl.1 rfl (Nat.le_of_ble_eq_true rfl) dL_isWell_401 ⟨Nat.le_of_ble_eq_true rfl, Nat.le_of_ble_eq_true rfl⟩) (fun r_41 m_42 h H locs w => ?_)
          refine lv_aload_n hx hb dL_isWell_404 rfl (lv_at hl 0 rfl) ?_
          refine lv_iload hx hb dL_isWell_405 (lv_at hl 7 rfl) ?_
          refine lv_iconst (v := 0) hx hb dL_isWell_407 (by decide) ?_
          refine x1_calli C w (x_runV (ad := ad) (i := 0) (As := [.int v7, .int 0]) (rest := [.int r_41]) C w.1 (rfl : kd 0 = 0) (by decide) (ci := 4) rfl rfl rfl me_X4_step ml_StairBowsLaw_21 (c_X4_step l g ad m_42 _ v7 0 h) ⟨rfl, rfl⟩ ⟨Nat.le_of_ble_eq_true rfl, Nat.le_of_ble_eq_true rfl⟩ rfl hl.1 rfl (Nat.le_of_ble_eq_true rfl) dL_isWell_408 ⟨Nat.le_of_ble_eq_true rfl, Nat.le_of_ble_eq_true rfl⟩) (fun r_43 m_44 h H locs w => ?_)
          refine lv_iconst (v := 1) hx hb dL_isWell_411 (by decide) ?_
          refine lv_icmp_ne (tgt := 423) hx hb dL_isWell_412 (by decide) (fun c_45 => ?_) (fun c_45 => ?_)
          · have h := h.1 c_45
            refine lv_iconst (v := 1) hx hb dL_isWell_423 (by decide) ?_
            exact t_L_isWell_B424 C hE240 m_44 fw _ _ _ h w (lv_sub hl [0, 1, 2, 3, 4, 5, 7, 8, 9] rfl)
          · have h := h.2 c_45
            refine lv_aload_n hx hb dL_isWell_415 rfl (lv_at hl 0 rfl) ?_
            refine lv_iconst (v := 0) hx hb dL_isWell_416 (by decide) ?_
            refine x1_calli C w (x_runV (ad := ad) (i := 0) (As := [.int 0]) (rest := [.int r_41]) C w.1 (rfl : kd 0 = 0) (by decide) (ci := 4) rfl rfl rfl me_X4_count ml_StairBowsLaw_9 (c_X4_count l g ad m_44 _ 0 h) ⟨rfl, rfl⟩ ⟨Nat.le_of_ble_eq_true rfl, Nat.le_of_ble_eq_true rfl⟩ rfl hl.1 rfl (Nat.le_of_ble_eq_true rfl) dL_isWell_417 ⟨Nat.le_of_ble_eq_true rfl, Nat.le_of_ble_eq_true rfl⟩) (fun r_54 m_55 h H locs w => ?_)
            refine lv_goto (tgt := 424) hx hb dL_isWell_420 (by decide) ?_
            exact t_L_isWell_B424 C hE240 m_55 fw _ _ _ h w (lv_sub hl [0, 1, 2, 3, 4, 5, 7, 8, 9] rfl)
    · have h := h.2 c_36
      refine lv_iload hx hb dL_isWell_287 (lv_at hl 9 rfl) ?_
      refine lv_aload_n hx hb dL_isWell_289 rfl (lv_at hl 0 rfl) ?_
      refine lv_iload hx hb dL_isWell_290 (lv_at hl 10 rfl) ?_
      refine lv_iconst (v := 3) hx hb dL_isWell_292 (by decide) ?_
      refine x1_calli C w (x_runV (ad := ad) (i := 0) (As := [.int v10, .int 3]) (rest := [.int v9]) C w.1 (rfl : kd 0 = 0) (by decide) (ci := 4) rfl rfl rfl me_X4_person ml_StairBowsLaw_31 (c_X4_person l g ad m_35 _ v10 3 h) ⟨rfl, rfl⟩ ⟨Nat.le_of_ble_eq_true rfl, Nat.le_of_ble_eq_true rfl⟩ rfl hl.1 rfl (Nat.le_of_ble_eq_true rfl) dL_isWell_293 ⟨Nat.le_of_ble_eq_true rfl, Nat.le_of_ble_eq_true rfl⟩) (fun r_56 m_57 h H locs w => ?_)
      refine lv_iload hx hb dL_isWell_296 (lv_at hl 7 rfl) ?_
      refine lv_icmp_ne (tgt := 305) hx hb dL_isWell_298 (by decide) (fun c_58 => ?_) (fun c_58 => ?_)
      · have h := h.1 c_58
        refine lv_iconst (v := 0) hx hb dL_isWell_305 (by decide) ?_
        exact t_L_isWell_B306 C hE240 ih m_57 fw _ _ _ h w (lv_sub hl [0, 1, 2, 3, 4, 5, 6, 7, 8, 10] rfl)
      · have h := h.2 c_58
        refine lv_iconst (v := 1) hx hb dL_isWell_301 (by decide) ?_
        refine lv_goto (tgt := 306) hx hb dL_isWell_302 (by decide) ?_
        exact t_L_isWell_B306 C hE240 ih m_57 fw _ _ _ h w (lv_sub hl [0, 1, 2, 3, 4, 5, 6, 7, 8, 10] rfl)
set_option maxHeartbeats 4000000 in
set_option maxRecDepth 100000 in
theorem t_L_isWell_L240 {g : Gv} {ad : Nat → Nat} {l : Launch} {p : Program} {e : Env} {s : State} {m : MethodId} {args : Array Value} {below : List Frame} {meth : Method} {c : Code} {q0 : Nat} (C : Cx g p s m args meth c "StairBowsLaw" cL_isWell 11 (some .boolean)) {v1 : Int32} {v2 : Int32} {v3 : Int32}  {K : Int32 → Mem → Prop}   : ∀ (n : Nat) (v5 : Int32) (v6 : Int32) (v7 : Int32) (μ : Mem) (fw : (Nat → Int32)) (H : Heap) (locs : List Loc) (ls : Array Slot), wp_L_isWell_L240 v1 v2 v3 K n v5 v6 v7 μ fw → Wd1 g ad μ q0 fw (Aw ad s.heap.size) s H locs → lv_has ls 11 [(0, .ref (ad 0)), (1, .int v1), (2, .int v2), (3, .int v3), (4, .ref q0), (5, .int v5), (6, .int v6), (7, .int v7)] → W p l e rm_L_isWell s m args below meth c H locs 1 4 (MQ below (PostI g ad s.heap.size K) args s 1 4 (Aw ad s.heap.size)) (F0 m 240 ls []) := by
  obtain ⟨hx, hb, hml, -, hts, hown, -, -, hN⟩ := id C
  intro n
  induction n with
  | zero =>
    intro v5 v6 v7 μ fw H locs ls h w hl
    exact (show False from h).elim
  | succ n ih =>
    intro v5 v6 v7 μ fw H locs ls h w hl
    rw [wp_L_isWell_L240_s] at h
    dsimp only at h
    refine lv_iload hx hb dL_isWell_240 (lv_at hl 7 rfl) ?_
    refine lv_bipush (v := 12) hx hb dL_isWell_242 (by decide) ?_
    refine lv_icmp_ge (tgt := 478) hx hb dL_isWell_244 (by decide) (fun c_4 => ?_) (fun c_4 => ?_)
    · have h := h.1 c_4
      refine lv_iconst (v := 0) hx hb dL_isWell_478 (by decide) ?_
      refine lv_istore (lv' := [(7, .int 0), (0, .ref (ad 0)), (1, .int v1), (2, .int v2), (3, .int v3), (4, .ref q0), (5, .int v5), (6, .int v6)]) hx hb dL_isWell_479 hl (by decide) rfl (fun ls hl => ?_)
      obtain ⟨n_29, h⟩ := h
      exact t_L_isWell_L481 C n_29 v6 0 μ fw _ _ _ h w (lv_sub hl [1, 2, 3, 4, 5, 6, 7, 0] rfl)
    · have h := h.2 c_4
      refine lv_aload_n hx hb dL_isWell_247 rfl (lv_at hl 0 rfl) ?_
      refine lv_iload hx hb dL_isWell_248 (lv_at hl 7 rfl) ?_
      refine lv_iconst (v := 3) hx hb dL_isWell_250 (by decide) ?_
      refine x1_calli C w (x_runV (ad := ad) (i := 0) (As := [.int v7, .int 3]) (rest := []) C w.1 (rfl : kd 0 = 0) (by decide) (ci := 4) rfl rfl rfl me_X4_step ml_StairBowsLaw_21 (c_X4_step l g ad μ _ v7 3 h) ⟨rfl, rfl⟩ ⟨Nat.le_of_ble_eq_true rfl, Nat.le_of_ble_eq_true rfl⟩ rfl hl.1 rfl (Nat.le_of_ble_eq_true rfl) dL_isWell_251 ⟨Nat.le_of_ble_eq_true rfl, Nat.le_of_ble_eq_true rfl⟩) (fun r_30 m_31 h H locs w => ?_)
      refine lv_istore (lv' := [(8, .int r_30), (0, .ref (ad 0)), (1, .int v1), (2, .int v2), (3, .int v3), (4, .ref q0), (5, .int v5), (6, .int v6), (7, .int v7)]) hx hb dL_isWell_254 hl (by decide) rfl (fun ls hl => ?_)
      refine lv_iload hx hb dL_isWell_256 (lv_at hl 6 rfl) ?_
      refine lv_aload_n hx hb dL_isWell_258 rfl (lv_at hl 1 rfl) ?_
      refine lv_iload hx hb dL_isWell_259 (lv_at hl 8 rfl) ?_
      refine lv_iconst (v := 0) hx hb dL_isWell_261 (by decide) ?_
      refine x1_calli C w (x_runV (ad := ad) (i := 0) (As := [.int v7, .int 0]) (rest := [.int v5]) C w.1 (rfl : kd 0 = 0) (by decide) (ci := 4) rfl rfl rfl me_X4_step ml_StairBowsLaw_21 (c_X4_step l g ad m_31 _ v7 0 h) ⟨rfl, rfl⟩ ⟨Nat.le_of_ble_eq_true rfl, Nat.le_of_ble_eq_true rfl⟩ rfl hl.1 rfl (Nat.le_of_ble_eq_true rfl) dL_isWell_262 ⟨Nat.le_of_ble_eq_true rfl, Nat.le_of_ble_eq_true rfl⟩) (fun r_32 m_33 h H locs w => ?_)
      refine lv_iload hx hb dL_isWell_265 (lv_at hl 8 rfl) ?_
      refine lv_ishl hx hb dL_isWell_267 ?_
      refine lv_iadd hx hb dL_isWell_268 ?_
      refine lv_istore (lv' := [(5, .int (v5 + (r_32 <<< (v7 &&& 31)))), (8, .int r_30), (0, .ref (ad 0)), (1, .int v1), (2, .int v2), (3, .int v3), (4, .ref q0), (6, .int v6), (7, .int v7)]) hx hb dL_isWell_269 hl (by decide) rfl (fun ls hl => ?_)
      refine lv_iconst (v := 0) hx hb dL_isWell_271 (by decide) ?_
      refine lv_istore (lv' := [(9, .int 0), (5, .int (v5 + (r_32 <<< (v7 &&& 31)))), (8, .int r_30), (0, .ref (ad 0)), (1, .int v1), (2, .int v2), (3, .int v3), (4, .ref q0), (6, .int v6), (7, .int v7)]) hx hb dL_isWell_272 hl (by decide) rfl (fun ls hl => ?_)
      refine lv_iconst (v := 0) hx hb dL_isWell_274 (by decide) ?_
      refine lv_istore (lv' := [(10, .int 0), (9, .int 0), (5, .int (v5 + (r_32 <<< (v7 &&& 31)))), (8, .int r_30), (0, .ref (ad 0)), (1, .int v1), (2, .int v2), (3, .int v3), (4, .ref q0), (6, .int v6), (7, .int v7)]) hx hb dL_isWell_275 hl (by decide) rfl (fun ls hl => ?_)
      obtain ⟨n_74, h⟩ := h
      exact t_L_isWell_L277 C ih n_74 v6 0 0 m_33 fw _ _ _ h w (lv_sub hl [4, 5, 6, 7, 8, 2, 9, 10, 3, 1, 0] rfl)
set_option maxHeartbeats 4000000 in
set_option maxRecDepth 100000 in
theorem t_L_isWell_B210 {g : Gv} {ad : Nat → Nat} {l : Launch} {p : Program} {e : Env} {s : State} {m : MethodId} {args : Array Value} {below : List Frame} {meth : Method} {c : Code} {q0 : Nat} (C : Cx g p s m args meth c "StairBowsLaw" cL_isWell 11 (some .boolean)) {v1 : Int32} {v2 : Int32} {v3 : Int32} {v5 : Int32} {v7 : Int32} {v8 : Int32} {s0 : Int32}  {K : Int32 → Mem → Prop} {E20 : Int32 → Int32 → Int32 → Int32 → Int32 → Mem → (Nat → Int32) → Prop} (hE20 : ∀ (v1 : Int32) (v2 : Int32) (v3 : Int32) (v6 : Int32) (v7 : Int32) (μ : Mem) (fw : (Nat → Int32)) (H : Heap) (locs : List Loc) (ls : Array Slot), E20 v1 v2 v3 v6 v7 μ fw → Wd1 g ad μ q0 fw (Aw ad s.heap.size) s H locs → lv_has ls 11 [(0, .ref (ad 0)), (1, .int v1), (2, .int v2), (3, .int v3), (4, .ref q0), (5, .int v5), (6, .int v6), (7, .int v7)] → W p l e rm_L_isWell s m args below meth c H locs 1 4 (MQ below (PostI g ad s.heap.size K) args s 1 4 (Aw ad s.heap.size)) (F0 m 20 ls [])) (μ : Mem) (fw : (Nat → Int32)) (H : Heap) (locs : List Loc) (ls : Array Slot) (h : wp_L_isWell_B210 v1 v2 v3 v5 v7 v8 s0 K E20 μ fw) (w : Wd1 g ad μ q0 fw (Aw ad s.heap.size) s H locs) (hl : lv_has ls 11 [(0, .ref (ad 0)), (1, .int v1), (2, .int v2), (3, .int v3), (4, .ref q0), (5, .int v5), (7, .int v7), (8, .int v8)]) : W p l e rm_L_isWell s m args below meth c H locs 1 4 (MQ below (PostI g ad s.heap.size K) args s 1 4 (Aw ad s.heap.size)) (F0 m 210 ls [.int s0]) := by
  obtain ⟨hx, hb, hml, -, hts, hown, -, -, hN⟩ := id C
  unfold wp_L_isWell_B210 at h
  refine lv_iload hx hb dL_isWell_210 (lv_at hl 7 rfl) ?_
  refine lv_iconst (v := 1) hx hb dL_isWell_212 (by decide) ?_
  refine lv_icmp_le (tgt := 220) hx hb dL_isWell_213 (by decide) (fun c_111 => ?_) (fun c_111 => ?_)
  · have h := h.1 c_111
    refine lv_iconst (v := 0) hx hb dL_isWell_220 (by decide) ?_
    refine lv_icmp_ne (tgt := 228) hx hb dL_isWell_221 (by decide) (fun c_112 => ?_) (fun c_112 => ?_)
    · have h := h.1 c_112
      refine lv_iconst (v := 0) hx hb dL_isWell_228 (by decide) ?_
      refine lv_istore (lv' := [(6, .int 0), (0, .ref (ad 0)), (1, .int v1), (2, .int v2), (3, .int v3), (4, .ref q0), (5, .int v5), (7, .int v7), (8, .int v8)]) hx hb dL_isWell_229 hl (by decide) rfl (fun ls hl => ?_)
      refine lv_iinc (v := (v7 + 1)) (lv' := [(7, .int (v7 + 1)), (6, .int 0), (0, .ref (ad 0)), (1, .int v1), (2, .int v2), (3, .int v3), (4, .ref q0), (5, .int v5), (8, .int v8)]) hx hb dL_isWell_231 hl (k := 7) rfl rfl (by decide) rfl (fun ls hl => ?_)
      refine lv_goto (tgt := 20) hx hb dL_isWell_234 (by decide) ?_
      exact hE20 v1 v2 v3 0 (v7 + 1) μ fw _ _ _ h w (lv_sub hl [2, 3, 4, 5, 6, 7, 1, 0] rfl)
    · have h := h.2 c_112
      refine lv_iconst (v := 1) hx hb dL_isWell_224 (by decide) ?_
      refine lv_goto (tgt := 229) hx hb dL_isWell_225 (by decide) ?_
      refine lv_istore (lv' := [(6, .int 1), (0, .ref (ad 0)), (1, .int v1), (2, .int v2), (3, .int v3), (4, .ref q0), (5, .int v5), (7, .int v7), (8, .int v8)]) hx hb dL_isWell_229 hl (by decide) rfl (fun ls hl => ?_)
      refine lv_iinc (v := (v7 + 1)) (lv' := [(7, .int (v7 + 1)), (6, .int 1), (0, .ref (ad 0)), (1, .int v1), (2, .int v2), (3, .int v3), (4, .ref q0), (5, .int v5), (8, .int v8)]) hx hb dL_isWell_231 hl (k := 7) rfl rfl (by decide) rfl (fun ls hl => ?_)
      refine lv_goto (tgt := 20) hx hb dL_isWell_234 (by decide) ?_
      exact hE20 v1 v2 v3 1 (v7 + 1) μ fw _ _ _ h w (lv_sub hl [2, 3, 4, 5, 6, 7, 1, 0] rfl)
  · have h := h.2 c_111
    refine lv_iconst (v := 1) hx hb dL_isWell_216 (by decide) ?_
    refine lv_goto (tgt := 221) hx hb dL_isWell_217 (by decide) ?_
    refine lv_icmp_ne (tgt := 228) hx hb dL_isWell_221 (by decide) (fun c_113 => ?_) (fun c_113 => ?_)
    · have h := h.1 c_113
      refine lv_iconst (v := 0) hx hb dL_isWell_228 (by decide) ?_
      refine lv_istore (lv' := [(6, .int 0), (0, .ref (ad 0)), (1, .int v1), (2, .int v2), (3, .int v3), (4, .ref q0), (5, .int v5), (7, .int v7), (8, .int v8)]) hx hb dL_isWell_229 hl (by decide) rfl (fun ls hl => ?_)
      refine lv_iinc (v := (v7 + 1)) (lv' := [(7, .int (v7 + 1)), (6, .int 0), (0, .ref (ad 0)), (1, .int v1), (2, .int v2), (3, .int v3), (4, .ref q0), (5, .int v5), (8, .int v8)]) hx hb dL_isWell_231 hl (k := 7) rfl rfl (by decide) rfl (fun ls hl => ?_)
      refine lv_goto (tgt := 20) hx hb dL_isWell_234 (by decide) ?_
      exact hE20 v1 v2 v3 0 (v7 + 1) μ fw _ _ _ h w (lv_sub hl [2, 3, 4, 5, 6, 7, 1, 0] rfl)
    · have h := h.2 c_113
      refine lv_iconst (v := 1) hx hb dL_isWell_224 (by decide) ?_
      refine lv_goto (tgt := 229) hx hb dL_isWell_225 (by decide) ?_
      refine lv_istore (lv' := [(6, .int 1), (0, .ref (ad 0)), (1, .int v1), (2, .int v2), (3, .int v3), (4, .ref q0), (5, .int v5), (7, .int v7), (8, .int v8)]) hx hb dL_isWell_229 hl (by decide) rfl (fun ls hl => ?_)
      refine lv_iinc (v := (v7 + 1)) (lv' := [(7, .int (v7 + 1)), (6, .int 1), (0, .ref (ad 0)), (1, .int v1), (2, .int v2), (3, .int v3), (4, .ref q0), (5, .int v5), (8, .int v8)]) hx hb dL_isWell_231 hl (k := 7) rfl rfl (by decide) rfl (fun ls hl => ?_)
      refine lv_goto (tgt := 20) hx hb dL_isWell_234 (by decide) ?_
      exact hE20 v1 v2 v3 1 (v7 + 1) μ fw _ _ _ h w (lv_sub hl [2, 3, 4, 5, 6, 7, 1, 0] rfl)
set_option maxHeartbeats 4000000 in
set_option maxRecDepth 100000 in
theorem t_L_isWell_B178 {g : Gv} {ad : Nat → Nat} {l : Launch} {p : Program} {e : Env} {s : State} {m : MethodId} {args : Array Value} {below : List Frame} {meth : Method} {c : Code} {q0 : Nat} (C : Cx g p s m args meth c "StairBowsLaw" cL_isWell 11 (some .boolean)) {v1 : Int32} {v2 : Int32} {v3 : Int32} {v5 : Int32} {v7 : Int32} {v8 : Int32}  {K : Int32 → Mem → Prop} {E20 : Int32 → Int32 → Int32 → Int32 → Int32 → Mem → (Nat → Int32) → Prop} (hE20 : ∀ (v1 : Int32) (v2 : Int32) (v3 : Int32) (v6 : Int32) (v7 : Int32) (μ : Mem) (fw : (Nat → Int32)) (H : Heap) (locs : List Loc) (ls : Array Slot), E20 v1 v2 v3 v6 v7 μ fw → Wd1 g ad μ q0 fw (Aw ad s.heap.size) s H locs → lv_has ls 11 [(0, .ref (ad 0)), (1, .int v1), (2, .int v2), (3, .int v3), (4, .ref q0), (5, .int v5), (6, .int v6), (7, .int v7)] → W p l e rm_L_isWell s m args below meth c H locs 1 4 (MQ below (PostI g ad s.heap.size K) args s 1 4 (Aw ad s.heap.size)) (F0 m 20 ls [])) (μ : Mem) (fw : (Nat → Int32)) (H : Heap) (locs : List Loc) (ls : Array Slot) (h : wp_L_isWell_B178 v1 v2 v3 v5 v7 v8 K E20 μ fw) (w : Wd1 g ad μ q0 fw (Aw ad s.heap.size) s H locs) (hl : lv_has ls 11 [(0, .ref (ad 0)), (1, .int v1), (2, .int v2), (3, .int v3), (4, .ref q0), (5, .int v5), (7, .int v7), (8, .int v8)]) : W p l e rm_L_isWell s m args below meth c H locs 1 4 (MQ below (PostI g ad s.heap.size K) args s 1 4 (Aw ad s.heap.size)) (F0 m 178 ls []) := by
  obtain ⟨hx, hb, hml, -, hts, hown, -, -, hN⟩ := id C
  unfold wp_L_isWell_B178 at h
  refine lv_aload_n hx hb dL_isWell_178 rfl (lv_at hl 0 rfl) ?_
  refine lv_iload hx hb dL_isWell_179 (lv_at hl 6 rfl) ?_
  refine lv_bipush (v := 6) hx hb dL_isWell_181 (by decide) ?_
  refine x1_calli C w (x_runV (ad := ad) (i := 0) (As := [.int v7, .int 6]) (rest := []) C w.1 (rfl : kd 0 = 0) (by decide) (ci := 4) rfl rfl rfl me_X4_person ml_StairBowsLaw_31 (c_X4_person l g ad μ _ v7 6 h) ⟨rfl, rfl⟩ ⟨Nat.le_of_ble_eq_true rfl, Nat.le_of_ble_eq_true rfl⟩ rfl hl.1 rfl (Nat.le_of_ble_eq_true rfl) dL_isWell_183 ⟨Nat.le_of_ble_eq_true rfl, Nat.le_of_ble_eq_true rfl⟩) (fun r_103 m_104 h H locs w => ?_)
  refine lv_aload_n hx hb dL_isWell_186 rfl (lv_at hl 0 rfl) ?_
  refine lv_iload hx hb dL_isWell_187 (lv_at hl 6 rfl) ?_
  refine lv_iconst (v := 5) hx hb dL_isWell_189 (by decide) ?_
  refine x1_calli C w (x_runV (ad := ad) (i := 0) (As := [.int v7, .int 5]) (rest := [.int r_103]) C w.1 (rfl : kd 0 = 0) (by decide) (ci := 4) rfl rfl rfl me_X4_person ml_StairBowsLaw_31 (c_X4_person l g ad m_104 _ v7 5 h) ⟨rfl, rfl⟩ ⟨Nat.le_of_ble_eq_true rfl, Nat.le_of_ble_eq_true rfl⟩ rfl hl.1 rfl (Nat.le_of_ble_eq_true rfl) dL_isWell_190 ⟨Nat.le_of_ble_eq_true rfl, Nat.le_of_ble_eq_true rfl⟩) (fun r_105 m_106 h H locs w => ?_)
  refine lv_icmp_lt (tgt := 228) hx hb dL_isWell_193 (by decide) (fun c_107 => ?_) (fun c_107 => ?_)
  · have h := h.1 c_107
    refine lv_iconst (v := 0) hx hb dL_isWell_228 (by decide) ?_
    refine lv_istore (lv' := [(6, .int 0), (0, .ref (ad 0)), (1, .int v1), (2, .int v2), (3, .int v3), (4, .ref q0), (5, .int v5), (7, .int v7), (8, .int v8)]) hx hb dL_isWell_229 hl (by decide) rfl (fun ls hl => ?_)
    refine lv_iinc (v := (v7 + 1)) (lv' := [(7, .int (v7 + 1)), (6, .int 0), (0, .ref (ad 0)), (1, .int v1), (2, .int v2), (3, .int v3), (4, .ref q0), (5, .int v5), (8, .int v8)]) hx hb dL_isWell_231 hl (k := 7) rfl rfl (by decide) rfl (fun ls hl => ?_)
    refine lv_goto (tgt := 20) hx hb dL_isWell_234 (by decide) ?_
    exact hE20 v1 v2 v3 0 (v7 + 1) m_106 fw _ _ _ h w (lv_sub hl [2, 3, 4, 5, 6, 7, 1, 0] rfl)
  · have h := h.2 c_107
    refine lv_aload_n hx hb dL_isWell_196 rfl (lv_at hl 0 rfl) ?_
    refine lv_iload hx hb dL_isWell_197 (lv_at hl 6 rfl) ?_
    refine x1_calli C w (x_runV (ad := ad) (i := 0) (As := [.int v7]) (rest := []) C w.1 (rfl : kd 0 = 0) (by decide) (ci := 4) rfl rfl rfl me_X4_does ml_StairBowsLaw_73 (c_X4_does l g ad m_106 _ v7 h) ⟨rfl, rfl⟩ ⟨Nat.le_of_ble_eq_true rfl, Nat.le_of_ble_eq_true rfl⟩ rfl hl.1 rfl (Nat.le_of_ble_eq_true rfl) dL_isWell_199 ⟨Nat.le_of_ble_eq_true rfl, Nat.le_of_ble_eq_true rfl⟩) (fun r_108 m_109 h H locs w => ?_)
    refine lv_if_ne (tgt := 209) hx hb dL_isWell_202 (by decide) (fun c_110 => ?_) (fun c_110 => ?_)
    · have h := h.1 c_110
      refine lv_iconst (v := 0) hx hb dL_isWell_209 (by decide) ?_
      exact t_L_isWell_B210 C hE20 m_109 fw _ _ _ h w (lv_sub hl [0, 1, 2, 3, 4, 5, 6, 7] rfl)
    · have h := h.2 c_110
      refine lv_iconst (v := 1) hx hb dL_isWell_205 (by decide) ?_
      refine lv_goto (tgt := 210) hx hb dL_isWell_206 (by decide) ?_
      exact t_L_isWell_B210 C hE20 m_109 fw _ _ _ h w (lv_sub hl [0, 1, 2, 3, 4, 5, 6, 7] rfl)
set_option maxHeartbeats 4000000 in
set_option maxRecDepth 100000 in
theorem t_L_isWell_B140 {g : Gv} {ad : Nat → Nat} {l : Launch} {p : Program} {e : Env} {s : State} {m : MethodId} {args : Array Value} {below : List Frame} {meth : Method} {c : Code} {q0 : Nat} (C : Cx g p s m args meth c "StairBowsLaw" cL_isWell 11 (some .boolean)) {v1 : Int32} {v2 : Int32} {v3 : Int32} {v5 : Int32} {v7 : Int32} {v8 : Int32} {s0 : Int32} {s1 : Int32}  {K : Int32 → Mem → Prop} {E20 : Int32 → Int32 → Int32 → Int32 → Int32 → Mem → (Nat → Int32) → Prop} (hE20 : ∀ (v1 : Int32) (v2 : Int32) (v3 : Int32) (v6 : Int32) (v7 : Int32) (μ : Mem) (fw : (Nat → Int32)) (H : Heap) (locs : List Loc) (ls : Array Slot), E20 v1 v2 v3 v6 v7 μ fw → Wd1 g ad μ q0 fw (Aw ad s.heap.size) s H locs → lv_has ls 11 [(0, .ref (ad 0)), (1, .int v1), (2, .int v2), (3, .int v3), (4, .ref q0), (5, .int v5), (6, .int v6), (7, .int v7)] → W p l e rm_L_isWell s m args below meth c H locs 1 4 (MQ below (PostI g ad s.heap.size K) args s 1 4 (Aw ad s.heap.size)) (F0 m 20 ls [])) (μ : Mem) (fw : (Nat → Int32)) (H : Heap) (locs : List Loc) (ls : Array Slot) (h : wp_L_isWell_B140 v1 v2 v3 v5 v7 v8 s0 s1 K E20 μ fw) (w : Wd1 g ad μ q0 fw (Aw ad s.heap.size) s H locs) (hl : lv_has ls 11 [(0, .ref (ad 0)), (1, .int v1), (2, .int v2), (3, .int v3), (4, .ref q0), (5, .int v5), (7, .int v7), (8, .int v8)]) : W p l e rm_L_isWell s m args below meth c H locs 1 4 (MQ below (PostI g ad s.heap.size K) args s 1 4 (Aw ad s.heap.size)) (F0 m 140 ls [.int s0, .int s1]) := by
  obtain ⟨hx, hb, hml, -, hts, hown, -, -, hN⟩ := id C
  unfold wp_L_isWell_B140 at h
  refine lv_icmp_ne (tgt := 228) hx hb dL_isWell_140 (by decide) (fun c_96 => ?_) (fun c_96 => ?_)
  · have h := h.1 c_96
    refine lv_iconst (v := 0) hx hb dL_isWell_228 (by decide) ?_
    refine lv_istore (lv' := [(6, .int 0), (0, .ref (ad 0)), (1, .int v1), (2, .int v2), (3, .int v3), (4, .ref q0), (5, .int v5), (7, .int v7), (8, .int v8)]) hx hb dL_isWell_229 hl (by decide) rfl (fun ls hl => ?_)
    refine lv_iinc (v := (v7 + 1)) (lv' := [(7, .int (v7 + 1)), (6, .int 0), (0, .ref (ad 0)), (1, .int v1), (2, .int v2), (3, .int v3), (4, .ref q0), (5, .int v5), (8, .int v8)]) hx hb dL_isWell_231 hl (k := 7) rfl rfl (by decide) rfl (fun ls hl => ?_)
    refine lv_goto (tgt := 20) hx hb dL_isWell_234 (by decide) ?_
    exact hE20 v1 v2 v3 0 (v7 + 1) μ fw _ _ _ h w (lv_sub hl [2, 3, 4, 5, 6, 7, 1, 0] rfl)
  · have h := h.2 c_96
    refine lv_aload_n hx hb dL_isWell_143 rfl (lv_at hl 0 rfl) ?_
    refine lv_iload hx hb dL_isWell_144 (lv_at hl 6 rfl) ?_
    refine lv_bipush (v := 8) hx hb dL_isWell_146 (by decide) ?_
    refine x1_calli C w (x_runV (ad := ad) (i := 0) (As := [.int v7, .int 8]) (rest := []) C w.1 (rfl : kd 0 = 0) (by decide) (ci := 4) rfl rfl rfl me_X4_person ml_StairBowsLaw_31 (c_X4_person l g ad μ _ v7 8 h) ⟨rfl, rfl⟩ ⟨Nat.le_of_ble_eq_true rfl, Nat.le_of_ble_eq_true rfl⟩ rfl hl.1 rfl (Nat.le_of_ble_eq_true rfl) dL_isWell_148 ⟨Nat.le_of_ble_eq_true rfl, Nat.le_of_ble_eq_true rfl⟩) (fun r_97 m_98 h H locs w => ?_)
    refine lv_aload_n hx hb dL_isWell_151 rfl (lv_at hl 0 rfl) ?_
    refine lv_iload hx hb dL_isWell_152 (lv_at hl 6 rfl) ?_
    refine lv_iconst (v := 4) hx hb dL_isWell_154 (by decide) ?_
    refine x1_calli C w (x_runV (ad := ad) (i := 0) (As := [.int v7, .int 4]) (rest := [.int r_97]) C w.1 (rfl : kd 0 = 0) (by decide) (ci := 4) rfl rfl rfl me_X4_person ml_StairBowsLaw_31 (c_X4_person l g ad m_98 _ v7 4 h) ⟨rfl, rfl⟩ ⟨Nat.le_of_ble_eq_true rfl, Nat.le_of_ble_eq_true rfl⟩ rfl hl.1 rfl (Nat.le_of_ble_eq_true rfl) dL_isWell_155 ⟨Nat.le_of_ble_eq_true rfl, Nat.le_of_ble_eq_true rfl⟩) (fun r_99 m_100 h H locs w => ?_)
    refine lv_icmp_gt (tgt := 228) hx hb dL_isWell_158 (by decide) (fun c_101 => ?_) (fun c_101 => ?_)
    · have h := h.1 c_101
      refine lv_iconst (v := 0) hx hb dL_isWell_228 (by decide) ?_
      refine lv_istore (lv' := [(6, .int 0), (0, .ref (ad 0)), (1, .int v1), (2, .int v2), (3, .int v3), (4, .ref q0), (5, .int v5), (7, .int v7), (8, .int v8)]) hx hb dL_isWell_229 hl (by decide) rfl (fun ls hl => ?_)
      refine lv_iinc (v := (v7 + 1)) (lv' := [(7, .int (v7 + 1)), (6, .int 0), (0, .ref (ad 0)), (1, .int v1), (2, .int v2), (3, .int v3), (4, .ref q0), (5, .int v5), (8, .int v8)]) hx hb dL_isWell_231 hl (k := 7) rfl rfl (by decide) rfl (fun ls hl => ?_)
      refine lv_goto (tgt := 20) hx hb dL_isWell_234 (by decide) ?_
      exact hE20 v1 v2 v3 0 (v7 + 1) m_100 fw _ _ _ h w (lv_sub hl [2, 3, 4, 5, 6, 7, 1, 0] rfl)
    · have h := h.2 c_101
      refine lv_iload hx hb dL_isWell_161 (lv_at hl 7 rfl) ?_
      refine lv_iconst (v := 2) hx hb dL_isWell_163 (by decide) ?_
      refine lv_icmp_lt (tgt := 178) hx hb dL_isWell_164 (by decide) (fun c_102 => ?_) (fun c_102 => ?_)
      · have h := h.1 c_102
        exact t_L_isWell_B178 C hE20 m_100 fw _ _ _ h w (lv_sub hl [0, 1, 2, 3, 4, 5, 6, 7] rfl)
      · have h := h.2 c_102
        refine lv_aload_n hx hb dL_isWell_167 rfl (lv_at hl 0 rfl) ?_
        refine lv_iload hx hb dL_isWell_168 (lv_at hl 6 rfl) ?_
        refine lv_bipush (v := 8) hx hb dL_isWell_170 (by decide) ?_
        refine x1_calli C w (x_runV (ad := ad) (i := 0) (As := [.int v7, .int 8]) (rest := []) C w.1 (rfl : kd 0 = 0) (by decide) (ci := 4) rfl rfl rfl me_X4_person ml_StairBowsLaw_31 (c_X4_person l g ad m_100 _ v7 8 h) ⟨rfl, rfl⟩ ⟨Nat.le_of_ble_eq_true rfl, Nat.le_of_ble_eq_true rfl⟩ rfl hl.1 rfl (Nat.le_of_ble_eq_true rfl) dL_isWell_172 ⟨Nat.le_of_ble_eq_true rfl, Nat.le_of_ble_eq_true rfl⟩) (fun r_114 m_115 h H locs w => ?_)
        refine lv_if_ne (tgt := 228) hx hb dL_isWell_175 (by decide) (fun c_116 => ?_) (fun c_116 => ?_)
        · have h := h.1 c_116
          refine lv_iconst (v := 0) hx hb dL_isWell_228 (by decide) ?_
          refine lv_istore (lv' := [(6, .int 0), (0, .ref (ad 0)), (1, .int v1), (2, .int v2), (3, .int v3), (4, .ref q0), (5, .int v5), (7, .int v7), (8, .int v8)]) hx hb dL_isWell_229 hl (by decide) rfl (fun ls hl => ?_)
          refine lv_iinc (v := (v7 + 1)) (lv' := [(7, .int (v7 + 1)), (6, .int 0), (0, .ref (ad 0)), (1, .int v1), (2, .int v2), (3, .int v3), (4, .ref q0), (5, .int v5), (8, .int v8)]) hx hb dL_isWell_231 hl (k := 7) rfl rfl (by decide) rfl (fun ls hl => ?_)
          refine lv_goto (tgt := 20) hx hb dL_isWell_234 (by decide) ?_
          exact hE20 v1 v2 v3 0 (v7 + 1) m_115 fw _ _ _ h w (lv_sub hl [2, 3, 4, 5, 6, 7, 1, 0] rfl)
        · have h := h.2 c_116
          exact t_L_isWell_B178 C hE20 m_115 fw _ _ _ h w (lv_sub hl [0, 1, 2, 3, 4, 5, 6, 7] rfl)
set_option maxHeartbeats 4000000 in
set_option maxRecDepth 100000 in
theorem t_L_isWell_B110 {g : Gv} {ad : Nat → Nat} {l : Launch} {p : Program} {e : Env} {s : State} {m : MethodId} {args : Array Value} {below : List Frame} {meth : Method} {c : Code} {q0 : Nat} (C : Cx g p s m args meth c "StairBowsLaw" cL_isWell 11 (some .boolean)) {v1 : Int32} {v2 : Int32} {v3 : Int32} {v5 : Int32} {v7 : Int32} {v8 : Int32} {s0 : Int32} {s1 : Int32}  {K : Int32 → Mem → Prop} {E20 : Int32 → Int32 → Int32 → Int32 → Int32 → Mem → (Nat → Int32) → Prop} (hE20 : ∀ (v1 : Int32) (v2 : Int32) (v3 : Int32) (v6 : Int32) (v7 : Int32) (μ : Mem) (fw : (Nat → Int32)) (H : Heap) (locs : List Loc) (ls : Array Slot), E20 v1 v2 v3 v6 v7 μ fw → Wd1 g ad μ q0 fw (Aw ad s.heap.size) s H locs → lv_has ls 11 [(0, .ref (ad 0)), (1, .int v1), (2, .int v2), (3, .int v3), (4, .ref q0), (5, .int v5), (6, .int v6), (7, .int v7)] → W p l e rm_L_isWell s m args below meth c H locs 1 4 (MQ below (PostI g ad s.heap.size K) args s 1 4 (Aw ad s.heap.size)) (F0 m 20 ls [])) (μ : Mem) (fw : (Nat → Int32)) (H : Heap) (locs : List Loc) (ls : Array Slot) (h : wp_L_isWell_B110 v1 v2 v3 v5 v7 v8 s0 s1 K E20 μ fw) (w : Wd1 g ad μ q0 fw (Aw ad s.heap.size) s H locs) (hl : lv_has ls 11 [(0, .ref (ad 0)), (1, .int v1), (2, .int v2), (3, .int v3), (4, .ref q0), (5, .int v5), (7, .int v7), (8, .int v8)]) : W p l e rm_L_isWell s m args below meth c H locs 1 4 (MQ below (PostI g ad s.heap.size K) args s 1 4 (Aw ad s.heap.size)) (F0 m 110 ls [.int s0, .int s1]) := by
  obtain ⟨hx, hb, hml, -, hts, hown, -, -, hN⟩ := id C
  unfold wp_L_isWell_B110 at h
  refine lv_icmp_ne (tgt := 228) hx hb dL_isWell_110 (by decide) (fun c_91 => ?_) (fun c_91 => ?_)
  · have h := h.1 c_91
    refine lv_iconst (v := 0) hx hb dL_isWell_228 (by decide) ?_
    refine lv_istore (lv' := [(6, .int 0), (0, .ref (ad 0)), (1, .int v1), (2, .int v2), (3, .int v3), (4, .ref q0), (5, .int v5), (7, .int v7), (8, .int v8)]) hx hb dL_isWell_229 hl (by decide) rfl (fun ls hl => ?_)
    refine lv_iinc (v := (v7 + 1)) (lv' := [(7, .int (v7 + 1)), (6, .int 0), (0, .ref (ad 0)), (1, .int v1), (2, .int v2), (3, .int v3), (4, .ref q0), (5, .int v5), (8, .int v8)]) hx hb dL_isWell_231 hl (k := 7) rfl rfl (by decide) rfl (fun ls hl => ?_)
    refine lv_goto (tgt := 20) hx hb dL_isWell_234 (by decide) ?_
    exact hE20 v1 v2 v3 0 (v7 + 1) μ fw _ _ _ h w (lv_sub hl [2, 3, 4, 5, 6, 7, 1, 0] rfl)
  · have h := h.2 c_91
    refine lv_aload_n hx hb dL_isWell_113 rfl (lv_at hl 0 rfl) ?_
    refine lv_iload hx hb dL_isWell_114 (lv_at hl 6 rfl) ?_
    refine lv_bipush (v := 7) hx hb dL_isWell_116 (by decide) ?_
    refine x1_calli C w (x_runV (ad := ad) (i := 0) (As := [.int v7, .int 7]) (rest := []) C w.1 (rfl : kd 0 = 0) (by decide) (ci := 4) rfl rfl rfl me_X4_person ml_StairBowsLaw_31 (c_X4_person l g ad μ _ v7 7 h) ⟨rfl, rfl⟩ ⟨Nat.le_of_ble_eq_true rfl, Nat.le_of_ble_eq_true rfl⟩ rfl hl.1 rfl (Nat.le_of_ble_eq_true rfl) dL_isWell_118 ⟨Nat.le_of_ble_eq_true rfl, Nat.le_of_ble_eq_true rfl⟩) (fun r_92 m_93 h H locs w => ?_)
    refine lv_if_le (tgt := 128) hx hb dL_isWell_121 (by decide) (fun c_94 => ?_) (fun c_94 => ?_)
    · have h := h.1 c_94
      refine lv_iconst (v := 0) hx hb dL_isWell_128 (by decide) ?_
      refine lv_iload hx hb dL_isWell_129 (lv_at hl 7 rfl) ?_
      refine lv_iconst (v := 1) hx hb dL_isWell_131 (by decide) ?_
      refine lv_icmp_le (tgt := 139) hx hb dL_isWell_132 (by decide) (fun c_95 => ?_) (fun c_95 => ?_)
      · have h := h.1 c_95
        refine lv_iconst (v := 0) hx hb dL_isWell_139 (by decide) ?_
        exact t_L_isWell_B140 C hE20 m_93 fw _ _ _ h w (lv_sub hl [0, 1, 2, 3, 4, 5, 6, 7] rfl)
      · have h := h.2 c_95
        refine lv_iconst (v := 1) hx hb dL_isWell_135 (by decide) ?_
        refine lv_goto (tgt := 140) hx hb dL_isWell_136 (by decide) ?_
        exact t_L_isWell_B140 C hE20 m_93 fw _ _ _ h w (lv_sub hl [0, 1, 2, 3, 4, 5, 6, 7] rfl)
    · have h := h.2 c_94
      refine lv_iconst (v := 1) hx hb dL_isWell_124 (by decide) ?_
      refine lv_goto (tgt := 129) hx hb dL_isWell_125 (by decide) ?_
      refine lv_iload hx hb dL_isWell_129 (lv_at hl 7 rfl) ?_
      refine lv_iconst (v := 1) hx hb dL_isWell_131 (by decide) ?_
      refine lv_icmp_le (tgt := 139) hx hb dL_isWell_132 (by decide) (fun c_117 => ?_) (fun c_117 => ?_)
      · have h := h.1 c_117
        refine lv_iconst (v := 0) hx hb dL_isWell_139 (by decide) ?_
        exact t_L_isWell_B140 C hE20 m_93 fw _ _ _ h w (lv_sub hl [0, 1, 2, 3, 4, 5, 6, 7] rfl)
      · have h := h.2 c_117
        refine lv_iconst (v := 1) hx hb dL_isWell_135 (by decide) ?_
        refine lv_goto (tgt := 140) hx hb dL_isWell_136 (by decide) ?_
        exact t_L_isWell_B140 C hE20 m_93 fw _ _ _ h w (lv_sub hl [0, 1, 2, 3, 4, 5, 6, 7] rfl)
set_option maxHeartbeats 4000000 in
set_option maxRecDepth 100000 in
theorem t_L_isWell_L20 {g : Gv} {ad : Nat → Nat} {l : Launch} {p : Program} {e : Env} {s : State} {m : MethodId} {args : Array Value} {below : List Frame} {meth : Method} {c : Code} {q0 : Nat} (C : Cx g p s m args meth c "StairBowsLaw" cL_isWell 11 (some .boolean)) {v5 : Int32}  {K : Int32 → Mem → Prop}   : ∀ (n : Nat) (v1 : Int32) (v2 : Int32) (v3 : Int32) (v6 : Int32) (v7 : Int32) (μ : Mem) (fw : (Nat → Int32)) (H : Heap) (locs : List Loc) (ls : Array Slot), wp_L_isWell_L20 v5 K n v1 v2 v3 v6 v7 μ fw → Wd1 g ad μ q0 fw (Aw ad s.heap.size) s H locs → lv_has ls 11 [(0, .ref (ad 0)), (1, .int v1), (2, .int v2), (3, .int v3), (4, .ref q0), (5, .int v5), (6, .int v6), (7, .int v7)] → W p l e rm_L_isWell s m args below meth c H locs 1 4 (MQ below (PostI g ad s.heap.size K) args s 1 4 (Aw ad s.heap.size)) (F0 m 20 ls []) := by
  obtain ⟨hx, hb, hml, -, hts, hown, -, -, hN⟩ := id C
  intro n
  induction n with
  | zero =>
    intro v1 v2 v3 v6 v7 μ fw H locs ls h w hl
    exact (show False from h).elim
  | succ n ih =>
    intro v1 v2 v3 v6 v7 μ fw H locs ls h w hl
    rw [wp_L_isWell_L20_s] at h
    dsimp only at h
    refine lv_iload hx hb dL_isWell_20 (lv_at hl 7 rfl) ?_
    refine lv_aload_n hx hb dL_isWell_22 rfl (lv_at hl 0 rfl) ?_
    refine lv_iconst (v := 4) hx hb dL_isWell_23 (by decide) ?_
    refine x1_calli C w (x_runV (ad := ad) (i := 0) (As := [.int 4]) (rest := [.int v7]) C w.1 (rfl : kd 0 = 0) (by decide) (ci := 4) rfl rfl rfl me_X4_count ml_StairBowsLaw_9 (c_X4_count l g ad μ _ 4 h) ⟨rfl, rfl⟩ ⟨Nat.le_of_ble_eq_true rfl, Nat.le_of_ble_eq_true rfl⟩ rfl hl.1 rfl (Nat.le_of_ble_eq_true rfl) dL_isWell_24 ⟨Nat.le_of_ble_eq_true rfl, Nat.le_of_ble_eq_true rfl⟩) (fun r_1 m_2 h H locs w => ?_)
    refine lv_icmp_ge (tgt := 237) hx hb dL_isWell_27 (by decide) (fun c_3 => ?_) (fun c_3 => ?_)
    · have h := h.1 c_3
      refine lv_iconst (v := 0) hx hb dL_isWell_237 (by decide) ?_
      refine lv_istore (lv' := [(7, .int 0), (0, .ref (ad 0)), (1, .int v1), (2, .int v2), (3, .int v3), (4, .ref q0), (5, .int v5), (6, .int v6)]) hx hb dL_isWell_238 hl (by decide) rfl (fun ls hl => ?_)
      obtain ⟨n_75, h⟩ := h
      exact t_L_isWell_L240 C n_75 v5 v6 0 m_2 fw _ _ _ h w (lv_sub hl [1, 2, 3, 4, 5, 6, 7, 0] rfl)
    · have h := h.2 c_3
      refine lv_aload_n hx hb dL_isWell_30 rfl (lv_at hl 0 rfl) ?_
      refine lv_iload hx hb dL_isWell_31 (lv_at hl 7 rfl) ?_
      refine lv_iconst (v := 2) hx hb dL_isWell_33 (by decide) ?_
      refine x1_calli C w (x_runV (ad := ad) (i := 0) (As := [.int v7, .int 2]) (rest := []) C w.1 (rfl : kd 0 = 0) (by decide) (ci := 4) rfl rfl rfl me_X4_person ml_StairBowsLaw_31 (c_X4_person l g ad m_2 _ v7 2 h) ⟨rfl, rfl⟩ ⟨Nat.le_of_ble_eq_true rfl, Nat.le_of_ble_eq_true rfl⟩ rfl hl.1 rfl (Nat.le_of_ble_eq_true rfl) dL_isWell_34 ⟨Nat.le_of_ble_eq_true rfl, Nat.le_of_ble_eq_true rfl⟩) (fun r_76 m_77 h H locs w => ?_)
      refine lv_istore (lv' := [(8, .int r_76), (0, .ref (ad 0)), (1, .int v1), (2, .int v2), (3, .int v3), (4, .ref q0), (5, .int v5), (6, .int v6), (7, .int v7)]) hx hb dL_isWell_37 hl (by decide) rfl (fun ls hl => ?_)
      refine lv_iload_n hx hb dL_isWell_39 rfl (lv_at hl 2 rfl) ?_
      refine lv_aload_n hx hb dL_isWell_40 rfl (lv_at hl 1 rfl) ?_
      refine lv_iload hx hb dL_isWell_41 (lv_at hl 8 rfl) ?_
      refine lv_bipush (v := 6) hx hb dL_isWell_43 (by decide) ?_
      refine x1_calli C w (x_runV (ad := ad) (i := 0) (As := [.int v7, .int 6]) (rest := [.int v1]) C w.1 (rfl : kd 0 = 0) (by decide) (ci := 4) rfl rfl rfl me_X4_person ml_StairBowsLaw_31 (c_X4_person l g ad m_77 _ v7 6 h) ⟨rfl, rfl⟩ ⟨Nat.le_of_ble_eq_true rfl, Nat.le_of_ble_eq_true rfl⟩ rfl hl.1 rfl (Nat.le_of_ble_eq_true rfl) dL_isWell_45 ⟨Nat.le_of_ble_eq_true rfl, Nat.le_of_ble_eq_true rfl⟩) (fun r_78 m_79 h H locs w => ?_)
      refine lv_iadd hx hb dL_isWell_48 ?_
      refine lv_istore_n (lv' := [(1, .int (v1 + r_78)), (8, .int r_76), (0, .ref (ad 0)), (2, .int v2), (3, .int v3), (4, .ref q0), (5, .int v5), (6, .int v6), (7, .int v7)]) hx hb dL_isWell_49 rfl hl (by decide) rfl (fun ls hl => ?_)
      refine lv_iload_n hx hb dL_isWell_50 rfl (lv_at hl 3 rfl) ?_
      refine lv_aload_n hx hb dL_isWell_51 rfl (lv_at hl 2 rfl) ?_
      refine lv_iload hx hb dL_isWell_52 (lv_at hl 8 rfl) ?_
      refine lv_iconst (v := 5) hx hb dL_isWell_54 (by decide) ?_
      refine x1_calli C w (x_runV (ad := ad) (i := 0) (As := [.int v7, .int 5]) (rest := [.int v2]) C w.1 (rfl : kd 0 = 0) (by decide) (ci := 4) rfl rfl rfl me_X4_person ml_StairBowsLaw_31 (c_X4_person l g ad m_79 _ v7 5 h) ⟨rfl, rfl⟩ ⟨Nat.le_of_ble_eq_true rfl, Nat.le_of_ble_eq_true rfl⟩ rfl hl.1 rfl (Nat.le_of_ble_eq_true rfl) dL_isWell_55 ⟨Nat.le_of_ble_eq_true rfl, Nat.le_of_ble_eq_true rfl⟩) (fun r_80 m_81 h H locs w => ?_)
      refine lv_iadd hx hb dL_isWell_58 ?_
      refine lv_istore_n (lv' := [(2, .int (v2 + r_80)), (1, .int (v1 + r_78)), (8, .int r_76), (0, .ref (ad 0)), (3, .int v3), (4, .ref q0), (5, .int v5), (6, .int v6), (7, .int v7)]) hx hb dL_isWell_59 rfl hl (by decide) rfl (fun ls hl => ?_)
      refine lv_iload_n hx hb dL_isWell_60 rfl (lv_at hl 4 rfl) ?_
      refine lv_aload_n hx hb dL_isWell_61 rfl (lv_at hl 3 rfl) ?_
      refine lv_iload hx hb dL_isWell_62 (lv_at hl 8 rfl) ?_
      refine lv_iconst (v := 4) hx hb dL_isWell_64 (by decide) ?_
      refine x1_calli C w (x_runV (ad := ad) (i := 0) (As := [.int v7, .int 4]) (rest := [.int v3]) C w.1 (rfl : kd 0 = 0) (by decide) (ci := 4) rfl rfl rfl me_X4_person ml_StairBowsLaw_31 (c_X4_person l g ad m_81 _ v7 4 h) ⟨rfl, rfl⟩ ⟨Nat.le_of_ble_eq_true rfl, Nat.le_of_ble_eq_true rfl⟩ rfl hl.1 rfl (Nat.le_of_ble_eq_true rfl) dL_isWell_65 ⟨Nat.le_of_ble_eq_true rfl, Nat.le_of_ble_eq_true rfl⟩) (fun r_82 m_83 h H locs w => ?_)
      refine lv_iadd hx hb dL_isWell_68 ?_
      refine lv_istore_n (lv' := [(3, .int (v3 + r_82)), (2, .int (v2 + r_80)), (1, .int (v1 + r_78)), (8, .int r_76), (0, .ref (ad 0)), (4, .ref q0), (5, .int v5), (6, .int v6), (7, .int v7)]) hx hb dL_isWell_69 rfl hl (by decide) rfl (fun ls hl => ?_)
      refine lv_aload hx hb dL_isWell_70 (lv_at hl 5 rfl) ?_
      refine lv_iload hx hb dL_isWell_72 (lv_at hl 3 rfl) ?_
      refine lv_dup2_11 hx hb dL_isWell_74 rfl rfl ?_
      refine x1_iald C w (show vp_in r_76 4 from h.1) dL_isWell_75 ?_
      have h := h.2
      refine lv_iconst (v := 1) hx hb dL_isWell_76 (by decide) ?_
      refine lv_iadd hx hb dL_isWell_77 ?_
      refine x1_iast C w h.1 dL_isWell_78 (fun f_84 e_85 H locs w => ?_)
      have h := h.2 f_84 e_85
      refine lv_iload hx hb dL_isWell_79 (lv_at hl 7 rfl) ?_
      refine lv_if_eq (tgt := 228) hx hb dL_isWell_81 (by decide) (fun c_86 => ?_) (fun c_86 => ?_)
      · have h := h.1 c_86
        refine lv_iconst (v := 0) hx hb dL_isWell_228 (by decide) ?_
        refine lv_istore (lv' := [(6, .int 0), (3, .int (v3 + r_82)), (2, .int (v2 + r_80)), (1, .int (v1 + r_78)), (8, .int r_76), (0, .ref (ad 0)), (4, .ref q0), (5, .int v5), (7, .int v7)]) hx hb dL_isWell_229 hl (by decide) rfl (fun ls hl => ?_)
        refine lv_iinc (v := (v7 + 1)) (lv' := [(7, .int (v7 + 1)), (6, .int 0), (3, .int (v3 + r_82)), (2, .int (v2 + r_80)), (1, .int (v1 + r_78)), (8, .int r_76), (0, .ref (ad 0)), (4, .ref q0), (5, .int v5)]) hx hb dL_isWell_231 hl (k := 8) rfl rfl (by decide) rfl (fun ls hl => ?_)
        refine lv_goto (tgt := 20) hx hb dL_isWell_234 (by decide) ?_
        exact ih (v1 + r_78) (v2 + r_80) (v3 + r_82) 0 (v7 + 1) m_83 f_84 _ _ _ h w (lv_sub hl [6, 4, 3, 2, 7, 8, 1, 0] rfl)
      · have h := h.2 c_86
        refine lv_aload_n hx hb dL_isWell_84 rfl (lv_at hl 4 rfl) ?_
        refine lv_iload hx hb dL_isWell_85 (lv_at hl 8 rfl) ?_
        refine lv_iconst (v := 3) hx hb dL_isWell_87 (by decide) ?_
        refine x1_calli C w (x_runV (ad := ad) (i := 0) (As := [.int v7, .int 3]) (rest := []) C w.1 (rfl : kd 0 = 0) (by decide) (ci := 4) rfl rfl rfl me_X4_person ml_StairBowsLaw_31 (c_X4_person l g ad m_83 _ v7 3 h) ⟨rfl, rfl⟩ ⟨Nat.le_of_ble_eq_true rfl, Nat.le_of_ble_eq_true rfl⟩ rfl hl.1 rfl (Nat.le_of_ble_eq_true rfl) dL_isWell_88 ⟨Nat.le_of_ble_eq_true rfl, Nat.le_of_ble_eq_true rfl⟩) (fun r_87 m_88 h H locs w => ?_)
        refine lv_if_lt (tgt := 98) hx hb dL_isWell_91 (by decide) (fun c_89 => ?_) (fun c_89 => ?_)
        · have h := h.1 c_89
          refine lv_iconst (v := 0) hx hb dL_isWell_98 (by decide) ?_
          refine lv_iload hx hb dL_isWell_99 (lv_at hl 3 rfl) ?_
          refine lv_iconst (v := 1) hx hb dL_isWell_101 (by decide) ?_
          refine lv_icmp_ne (tgt := 109) hx hb dL_isWell_102 (by decide) (fun c_90 => ?_) (fun c_90 => ?_)
          · have h := h.1 c_90
            refine lv_iconst (v := 0) hx hb dL_isWell_109 (by decide) ?_
            exact t_L_isWell_B110 C ih m_88 f_84 _ _ _ h w (lv_sub hl [4, 2, 1, 0, 5, 6, 8, 3] rfl)
          · have h := h.2 c_90
            refine lv_iconst (v := 1) hx hb dL_isWell_105 (by decide) ?_
            refine lv_goto (tgt := 110) hx hb dL_isWell_106 (by decide) ?_
            exact t_L_isWell_B110 C ih m_88 f_84 _ _ _ h w (lv_sub hl [4, 2, 1, 0, 5, 6, 8, 3] rfl)
        · have h := h.2 c_89
          refine lv_iconst (v := 1) hx hb dL_isWell_94 (by decide) ?_
          refine lv_goto (tgt := 99) hx hb dL_isWell_95 (by decide) ?_
          refine lv_iload hx hb dL_isWell_99 (lv_at hl 3 rfl) ?_
          refine lv_iconst (v := 1) hx hb dL_isWell_101 (by decide) ?_
          refine lv_icmp_ne (tgt := 109) hx hb dL_isWell_102 (by decide) (fun c_118 => ?_) (fun c_118 => ?_)
          · have h := h.1 c_118
            refine lv_iconst (v := 0) hx hb dL_isWell_109 (by decide) ?_
            exact t_L_isWell_B110 C ih m_88 f_84 _ _ _ h w (lv_sub hl [4, 2, 1, 0, 5, 6, 8, 3] rfl)
          · have h := h.2 c_118
            refine lv_iconst (v := 1) hx hb dL_isWell_105 (by decide) ?_
            refine lv_goto (tgt := 110) hx hb dL_isWell_106 (by decide) ?_
            exact t_L_isWell_B110 C ih m_88 f_84 _ _ _ h w (lv_sub hl [4, 2, 1, 0, 5, 6, 8, 3] rfl)
set_option maxHeartbeats 4000000 in
set_option maxRecDepth 100000 in
theorem c_L_isWell (l : Launch) (g : Gv) (ad : Nat → Nat) (μ : Mem) (sz : Nat)  {K : Int32 → Mem → Prop} (h : wp_L_isWell μ K) : Met l yL_isWell (wX yL_isWell cL_isWell 11 (some .boolean)) rm_L_isWell (Pre g ad μ sz [.ref (ad 0)]) (PostI g ad sz K) 1 4 (Aw ad sz) := by
  refine Met.ofW (cc := cL_isWell) (maxL := 11) (ret := (some .boolean)) (by decide) rfl ?_
  intro p e s m args below meth c s₁ B hml hv
  obtain ⟨rfl, rfl, C, w⟩ := x_start B hml hv
  obtain ⟨hx, hb, hml, -, hts, hown, -, -, hN⟩ := id C
  have hl := lv_entry ([.ref (ad 0)]) (n := 11) (Nat.le_of_ble_eq_true rfl)
  rw [lg_entry_eq]
  generalize (lg_sl ([.ref (ad 0)]) ++ List.replicate (11 - (lg_sl ([.ref (ad 0)])).length) Slot.unset).toArray = ls at hl ⊢
  have hl : lv_has ls 11 [(0, .ref (ad 0))] := hl
  show W p l e rm_L_isWell s m _ below meth c s.heap [] 0 0 _ _
  unfold wp_L_isWell at h
  refine lv_iconst (v := 0) hx hb dL_isWell_0 (by decide) ?_
  refine lv_istore_n (lv' := [(1, .int 0), (0, .ref (ad 0))]) hx hb dL_isWell_1 rfl hl (by decide) rfl (fun ls hl => ?_)
  refine lv_iconst (v := 0) hx hb dL_isWell_2 (by decide) ?_
  refine lv_istore_n (lv' := [(2, .int 0), (1, .int 0), (0, .ref (ad 0))]) hx hb dL_isWell_3 rfl hl (by decide) rfl (fun ls hl => ?_)
  refine lv_iconst (v := 0) hx hb dL_isWell_4 (by decide) ?_
  refine lv_istore_n (lv' := [(3, .int 0), (2, .int 0), (1, .int 0), (0, .ref (ad 0))]) hx hb dL_isWell_5 rfl hl (by decide) rfl (fun ls hl => ?_)
  refine lv_iconst (v := 4) hx hb dL_isWell_6 (by decide) ?_
  refine x1_newa C w ⟨Nat.le_of_ble_eq_true rfl, Nat.le_of_ble_eq_true rfl⟩ dL_isWell_7 (fun q0 H w => ?_)
  refine lv_astore (lv' := [(4, .ref q0), (3, .int 0), (2, .int 0), (1, .int 0), (0, .ref (ad 0))]) hx hb dL_isWell_9 hl (by decide) rfl (fun ls hl => ?_)
  refine lv_iconst (v := 0) hx hb dL_isWell_11 (by decide) ?_
  refine lv_istore (lv' := [(5, .int 0), (4, .ref q0), (3, .int 0), (2, .int 0), (1, .int 0), (0, .ref (ad 0))]) hx hb dL_isWell_12 hl (by decide) rfl (fun ls hl => ?_)
  refine lv_iconst (v := 1) hx hb dL_isWell_14 (by decide) ?_
  refine lv_istore (lv' := [(6, .int 1), (5, .int 0), (4, .ref q0), (3, .int 0), (2, .int 0), (1, .int 0), (0, .ref (ad 0))]) hx hb dL_isWell_15 hl (by decide) rfl (fun ls hl => ?_)
  refine lv_iconst (v := 0) hx hb dL_isWell_17 (by decide) ?_
  refine lv_istore (lv' := [(7, .int 0), (6, .int 1), (5, .int 0), (4, .ref q0), (3, .int 0), (2, .int 0), (1, .int 0), (0, .ref (ad 0))]) hx hb dL_isWell_18 hl (by decide) rfl (fun ls hl => ?_)
  obtain ⟨n_119, h⟩ := h
  exact t_L_isWell_L20 C n_119 0 0 0 1 0 μ (fun _ => 0) _ _ _ h w (lv_sub hl [7, 6, 5, 4, 3, 2, 1, 0] rfl)

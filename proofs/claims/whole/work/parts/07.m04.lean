-- X2_water
def wp_X2_water  (a0 : Int32) (a1 : Int32)  (mem : q_Mem) (Q : Int32 → q_Mem → Prop) : Prop := wp_X1_has 1 a0 mem (fun r_1 m_2 => ((¬ r_1 = 0) → vp_in a0 (q_al 6) ∧ (wp_X2_within a1 (0 : Int32) (m_2 6 a0.toNatClampNeg) m_2 (fun r_5 m_6 => ((¬ r_5 = 0) → vp_in a0 (q_al 10) ∧ (∀ x3_9 : Int32, x3_9 = (m_6 10 a0.toNatClampNeg) → vp_in a0 (q_al 10) ∧ (∀ m_11 : q_Mem, m_11 = q_set m_6 10 (upd (m_6 10) a0.toNatClampNeg a1) → vp_in (4 : Int32) (q_al 14) ∧ (vp_in (4 : Int32) (q_al 14) ∧ (∀ m_14 : q_Mem, m_14 = q_set m_11 14 (upd (m_11 14) (4 : Int32).toNatClampNeg ((m_11 14 (4 : Int32).toNatClampNeg) + (a1 - x3_9))) → Q x3_9 m_14))))) ∧ ((r_5 = 0) → Q (-102 : Int32) m_6)))) ∧ ((r_1 = 0) → Q (-101 : Int32) m_2))
set_option maxRecDepth 100000 in
set_option maxHeartbeats 4000000 in
theorem sn_X2_water_0 {X : q_X} {G : q_G} (hX : q_C X cX2_water 4 RX2 (some .int) 1 22) (a0 : Int32) (a1 : Int32)   (Q : Int32 → q_Mem → Prop)  (mem : q_Mem) (h : wp_X2_water  a0 a1  mem Q) : q_J X G 4 (q_QI X G Q) 0 [some (.ref (q_ad G 0)), some (.int a0), some (.int a1), none] [] mem := by
  unfold wp_X2_water at h
  refine q_aload_n hX rfl dX2_water_0 1 rfl ?_
  refine gf_X2_10 hX dX2_water_1 4 rfl ?_
  refine q_iload_n hX rfl dX2_water_4 5 rfl ?_
  refine cl_X2_67 hX (Or.inl rfl) ⟨Nat.le_of_ble_eq_true rfl, Nat.le_of_ble_eq_true rfl⟩ (Nat.le_of_ble_eq_true rfl) dX2_water_5 8 rfl (sn_X1_has 1 a0 (Or.inl rfl) mem _ h) (fun r_1 m_2 h => ?_)
  refine q_if_ne hX dX2_water_8 11 14 rfl (by decide) (fun c_3 => ?_) (fun c_3 => ?_)
  · replace h := h.1 c_3
    refine q_iload_n hX rfl dX2_water_14 15 rfl ?_
    refine q_iconst hX (0 : Int32) q_ki_0 dX2_water_15 16 rfl ?_
    refine q_aload_n hX rfl dX2_water_16 17 rfl ?_
    refine gf_X2_10 hX dX2_water_17 20 rfl ?_
    refine gf_X2_71 hX (Or.inl rfl) dX2_water_20 23 rfl ?_
    refine q_iload_n hX rfl dX2_water_23 24 rfl ?_
    obtain ⟨g_4, h⟩ := h
    refine q_iald hX g_4 dX2_water_24 25 rfl ?_
    refine cl_X2_50 hX  ⟨Nat.le_of_ble_eq_true rfl, Nat.le_of_ble_eq_true rfl⟩ (Nat.le_of_ble_eq_true rfl) dX2_water_25 28 rfl (sn_X2_within a1 (0 : Int32) (m_2 6 a0.toNatClampNeg)  m_2 _ h) (fun r_5 m_6 h => ?_)
    refine q_if_ne hX dX2_water_28 31 34 rfl (by decide) (fun c_7 => ?_) (fun c_7 => ?_)
    · replace h := h.1 c_7
      refine q_aload_n hX rfl dX2_water_34 35 rfl ?_
      refine gf_X2_10 hX dX2_water_35 38 rfl ?_
      refine gf_X2_75 hX (Or.inl rfl) dX2_water_38 41 rfl ?_
      refine q_iload_n hX rfl dX2_water_41 42 rfl ?_
      obtain ⟨g_8, h⟩ := h
      refine q_iald hX g_8 dX2_water_42 43 rfl ?_
      refine q_istore_n hX dX2_water_43 44 rfl (Nat.le_of_ble_eq_true rfl) rfl (fun y => [some (.ref (q_ad G 0)), some (.int a0), some (.int a1), some (.int y)]) (fun _ => rfl) (fun x3_9 ex3_9 => ?_)
      replace h := h x3_9 ex3_9
      refine q_aload_n hX rfl dX2_water_44 45 rfl ?_
      refine gf_X2_10 hX dX2_water_45 48 rfl ?_
      refine gf_X2_75 hX (Or.inl rfl) dX2_water_48 51 rfl ?_
      refine q_iload_n hX rfl dX2_water_51 52 rfl ?_
      refine q_iload_n hX rfl dX2_water_52 53 rfl ?_
      obtain ⟨g_10, h⟩ := h
      refine q_iast hX g_10 dX2_water_53 54 rfl (fun m_11 em_11 => ?_)
      replace h := h m_11 em_11
      refine q_aload_n hX rfl dX2_water_54 55 rfl ?_
      refine gf_X2_10 hX dX2_water_55 58 rfl ?_
      refine gf_X2_78 hX (Or.inl rfl) dX2_water_58 61 rfl ?_
      refine q_iconst hX (4 : Int32) q_ki_4 dX2_water_61 62 rfl ?_
      refine q_dup2 hX rfl rfl dX2_water_62 63 rfl ?_
      obtain ⟨g_12, h⟩ := h
      refine q_iald hX g_12 dX2_water_63 64 rfl ?_
      refine q_iload_n hX rfl dX2_water_64 65 rfl ?_
      refine q_iload_n hX rfl dX2_water_65 66 rfl ?_
      refine q_isub hX dX2_water_66 67 rfl ?_
      refine q_iadd hX dX2_water_67 68 rfl ?_
      obtain ⟨g_13, h⟩ := h
      refine q_iast hX g_13 dX2_water_68 69 rfl (fun m_14 em_14 => ?_)
      replace h := h m_14 em_14
      refine q_iload_n hX rfl dX2_water_69 70 rfl ?_
      exact q_iret hX dX2_water_70 h
    · replace h := h.2 c_7
      refine q_bipush hX (-102 : Int32) q_kb_m102 dX2_water_31 33 rfl ?_
      exact q_iret hX dX2_water_33 h
  · replace h := h.2 c_3
    refine q_bipush hX (-101 : Int32) q_kb_m101 dX2_water_11 13 rfl ?_
    exact q_iret hX dX2_water_13 h
set_option maxRecDepth 100000 in
set_option maxHeartbeats 4000000 in
theorem sn_X2_water {l : Launch} {G : q_G} (a0 : Int32) (a1 : Int32)  (mem : q_Mem) (Q : Int32 → q_Mem → Prop) (h : wp_X2_water a0 a1 mem Q) : q_MI l G yX2_water cX2_water 4 (some .int) rm_X2_water [.ref (q_ad G 0), .int a0, .int a1] mem Q := by
  refine q_metI 1 (by decide +kernel) (Nat.le_of_ble_eq_true rfl) rfl (fun X hl hX => ?_)
  subst hl
  exact sn_X2_water_0 hX a0 a1  Q mem h

-- X3_damp
def wp_X3_damp_81  (a0 : Int32) (s2 : Int32) (s1 : Int32) (mem : q_Mem) (Q : Int32 → q_Mem → Prop) : Prop := Q (s1 + s2) mem
def wp_X3_damp  (a0 : Int32)  (mem : q_Mem) (Q : Int32 → q_Mem → Prop) : Prop := vp_in a0 (q_al 77) ∧ (∀ x2_2 : Int32, x2_2 = ((4 : Int32) * (mem 77 a0.toNatClampNeg)) → vp_in a0 (q_al 73) ∧ ((¬ (mem 73 a0.toNatClampNeg) = 0) ∧ (∀ x3_5 : Int32, x3_5 = (x2_2 / (mem 73 a0.toNatClampNeg)) → vp_in a0 (q_al 76) ∧ (∀ x4_7 : Int32, x4_7 = (((5 : Int32) * (mem 76 a0.toNatClampNeg)) + x3_5) → vp_in x4_7 (q_al 81) ∧ ((((4 : Int32) ≤ x3_5) → wp_X3_damp_81  a0 (0 : Int32) (mem 81 x4_7.toNatClampNeg) mem Q) ∧ ((¬ (4 : Int32) ≤ x3_5) → vp_in (x4_7 + (1 : Int32)) (q_al 81) ∧ (vp_in x4_7 (q_al 81) ∧ (vp_in a0 (q_al 73) ∧ (vp_in a0 (q_al 73) ∧ ((¬ (mem 73 a0.toNatClampNeg) = 0) ∧ (wp_X3_damp_81  a0 ((((mem 81 (x4_7 + (1 : Int32)).toNatClampNeg) - (mem 81 x4_7.toNatClampNeg)) * (x2_2 - (x3_5 * (mem 73 a0.toNatClampNeg)))) / (mem 73 a0.toNatClampNeg)) (mem 81 x4_7.toNatClampNeg) mem Q)))))))))))
set_option maxRecDepth 100000 in
set_option maxHeartbeats 4000000 in
theorem sn_X3_damp_81 {X : q_X} {G : q_G} (hX : q_C X cX3_damp 5 RX3 (some .int) 0 0) (a0 : Int32)  (s2 : Int32) (s1 : Int32) (Q : Int32 → q_Mem → Prop)  (mem : q_Mem) (h : wp_X3_damp_81  a0 s2 s1 mem Q) : q_J X G 5 (q_QI X G Q) 81 [some (.ref (q_ad G 72)), some (.int a0), none, none, none] [.int s2, .int s1] mem := by
  unfold wp_X3_damp_81 at h
  refine q_iadd hX dX3_damp_81 82 rfl ?_
  exact q_iret hX dX3_damp_82 h
set_option maxRecDepth 100000 in
set_option maxHeartbeats 4000000 in
theorem sn_X3_damp_0 {X : q_X} {G : q_G} (hX : q_C X cX3_damp 5 RX3 (some .int) 0 0) (a0 : Int32)   (Q : Int32 → q_Mem → Prop)  (mem : q_Mem) (h : wp_X3_damp  a0  mem Q) : q_J X G 5 (q_QI X G Q) 0 [some (.ref (q_ad G 72)), some (.int a0), none, none, none] [] mem := by
  unfold wp_X3_damp at h
  refine q_iconst hX (4 : Int32) q_ki_4 dX3_damp_0 1 rfl ?_
  refine q_aload_n hX rfl dX3_damp_1 2 rfl ?_
  refine gf_X3_22 hX dX3_damp_2 5 rfl ?_
  refine q_iload_n hX rfl dX3_damp_5 6 rfl ?_
  obtain ⟨g_1, h⟩ := h
  refine q_iald hX g_1 dX3_damp_6 7 rfl ?_
  refine q_imul hX dX3_damp_7 8 rfl ?_
  refine q_istore_n hX dX3_damp_8 9 rfl (Nat.le_of_ble_eq_true rfl) rfl (fun y => [some (.ref (q_ad G 72)), some (.int a0), some (.int y), none, none]) (fun _ => rfl) (fun x2_2 ex2_2 => ?_)
  replace h := h x2_2 ex2_2
  refine q_iload_n hX rfl dX3_damp_9 10 rfl ?_
  refine q_aload_n hX rfl dX3_damp_10 11 rfl ?_
  refine gf_X3_7 hX dX3_damp_11 14 rfl ?_
  refine q_iload_n hX rfl dX3_damp_14 15 rfl ?_
  obtain ⟨g_3, h⟩ := h
  refine q_iald hX g_3 dX3_damp_15 16 rfl ?_
  obtain ⟨g_4, h⟩ := h
  refine q_idiv hX g_4 dX3_damp_16 17 rfl ?_
  refine q_istore_n hX dX3_damp_17 18 rfl (Nat.le_of_ble_eq_true rfl) rfl (fun y => [some (.ref (q_ad G 72)), some (.int a0), some (.int x2_2), some (.int y), none]) (fun _ => rfl) (fun x3_5 ex3_5 => ?_)
  replace h := h x3_5 ex3_5
  refine q_iconst hX (5 : Int32) q_ki_5 dX3_damp_18 19 rfl ?_
  refine q_aload_n hX rfl dX3_damp_19 20 rfl ?_
  refine gf_X3_19 hX dX3_damp_20 23 rfl ?_
  refine q_iload_n hX rfl dX3_damp_23 24 rfl ?_
  obtain ⟨g_6, h⟩ := h
  refine q_iald hX g_6 dX3_damp_24 25 rfl ?_
  refine q_imul hX dX3_damp_25 26 rfl ?_
  refine q_iload_n hX rfl dX3_damp_26 27 rfl ?_
  refine q_iadd hX dX3_damp_27 28 rfl ?_
  refine q_istore hX dX3_damp_28 30 rfl (Nat.le_of_ble_eq_true rfl) rfl (fun y => [some (.ref (q_ad G 72)), some (.int a0), some (.int x2_2), some (.int x3_5), some (.int y)]) (fun _ => rfl) (fun x4_7 ex4_7 => ?_)
  replace h := h x4_7 ex4_7
  refine q_aload_n hX rfl dX3_damp_30 31 rfl ?_
  refine gf_X3_34 hX dX3_damp_31 34 rfl ?_
  refine q_iload hX rfl dX3_damp_34 36 rfl ?_
  obtain ⟨g_8, h⟩ := h
  refine q_iald hX g_8 dX3_damp_36 37 rfl ?_
  refine q_iload_n hX rfl dX3_damp_37 38 rfl ?_
  refine q_iconst hX (4 : Int32) q_ki_4 dX3_damp_38 39 rfl ?_
  refine q_icmp_ge hX dX3_damp_39 42 80 rfl (by decide) (fun c_9 => ?_) (fun c_9 => ?_)
  · replace h := h.1 c_9
    refine q_iconst hX (0 : Int32) q_ki_0 dX3_damp_80 81 rfl ?_
    exact q_weak [true, true, false, false, false] rfl (sn_X3_damp_81 hX  a0  (0 : Int32) (mem 81 x4_7.toNatClampNeg) Q  mem h)
  · replace h := h.2 c_9
    refine q_aload_n hX rfl dX3_damp_42 43 rfl ?_
    refine gf_X3_34 hX dX3_damp_43 46 rfl ?_
    refine q_iload hX rfl dX3_damp_46 48 rfl ?_
    refine q_iconst hX (1 : Int32) q_ki_1 dX3_damp_48 49 rfl ?_
    refine q_iadd hX dX3_damp_49 50 rfl ?_
    obtain ⟨g_10, h⟩ := h
    refine q_iald hX g_10 dX3_damp_50 51 rfl ?_
    refine q_aload_n hX rfl dX3_damp_51 52 rfl ?_
    refine gf_X3_34 hX dX3_damp_52 55 rfl ?_
    refine q_iload hX rfl dX3_damp_55 57 rfl ?_
    obtain ⟨g_11, h⟩ := h
    refine q_iald hX g_11 dX3_damp_57 58 rfl ?_
    refine q_isub hX dX3_damp_58 59 rfl ?_
    refine q_iload_n hX rfl dX3_damp_59 60 rfl ?_
    refine q_iload_n hX rfl dX3_damp_60 61 rfl ?_
    refine q_aload_n hX rfl dX3_damp_61 62 rfl ?_
    refine gf_X3_7 hX dX3_damp_62 65 rfl ?_
    refine q_iload_n hX rfl dX3_damp_65 66 rfl ?_
    obtain ⟨g_12, h⟩ := h
    refine q_iald hX g_12 dX3_damp_66 67 rfl ?_
    refine q_imul hX dX3_damp_67 68 rfl ?_
    refine q_isub hX dX3_damp_68 69 rfl ?_
    refine q_imul hX dX3_damp_69 70 rfl ?_
    refine q_aload_n hX rfl dX3_damp_70 71 rfl ?_
    refine gf_X3_7 hX dX3_damp_71 74 rfl ?_
    refine q_iload_n hX rfl dX3_damp_74 75 rfl ?_
    obtain ⟨g_13, h⟩ := h
    refine q_iald hX g_13 dX3_damp_75 76 rfl ?_
    obtain ⟨g_14, h⟩ := h
    refine q_idiv hX g_14 dX3_damp_76 77 rfl ?_
    refine q_goto hX dX3_damp_77 81 (by decide) ?_
    exact q_weak [true, true, false, false, false] rfl (sn_X3_damp_81 hX  a0  ((((mem 81 (x4_7 + (1 : Int32)).toNatClampNeg) - (mem 81 x4_7.toNatClampNeg)) * (x2_2 - (x3_5 * (mem 73 a0.toNatClampNeg)))) / (mem 73 a0.toNatClampNeg)) (mem 81 x4_7.toNatClampNeg) Q  mem h)
set_option maxRecDepth 100000 in
set_option maxHeartbeats 4000000 in
theorem sn_X3_damp {l : Launch} {G : q_G} (a0 : Int32)  (mem : q_Mem) (Q : Int32 → q_Mem → Prop) (h : wp_X3_damp a0 mem Q) : q_MI l G yX3_damp cX3_damp 5 (some .int) rm_X3_damp [.ref (q_ad G 72), .int a0] mem Q := by
  refine q_metI 3 (by decide +kernel) (Nat.le_of_ble_eq_true rfl) rfl (fun X hl hX => ?_)
  subst hl
  exact sn_X3_damp_0 hX a0  Q mem h

-- X3_aboutOf
def wp_X3_aboutOf  (a0 : Int32) (a1 : Int32)  (mem : q_Mem) (Q : Int32 → q_Mem → Prop) : Prop := (a1 = (0 : Int32) → vp_in a0 (q_al 73) ∧ (Q (mem 73 a0.toNatClampNeg) mem)) ∧ (¬ a1 = (0 : Int32) → (a1 = (1 : Int32) → vp_in a0 (q_al 74) ∧ (Q (mem 74 a0.toNatClampNeg) mem)) ∧ (¬ a1 = (1 : Int32) → (a1 = (2 : Int32) → vp_in a0 (q_al 75) ∧ (Q (mem 75 a0.toNatClampNeg) mem)) ∧ (¬ a1 = (2 : Int32) → (a1 = (3 : Int32) → vp_in a0 (q_al 76) ∧ (Q (mem 76 a0.toNatClampNeg) mem)) ∧ (¬ a1 = (3 : Int32) → (a1 = (4 : Int32) → vp_in a0 (q_al 77) ∧ (Q (mem 77 a0.toNatClampNeg) mem)) ∧ (¬ a1 = (4 : Int32) → (a1 = (5 : Int32) → wp_X3_damp a0 mem (fun r_12 m_13 => Q r_12 m_13)) ∧ (¬ a1 = (5 : Int32) → (a1 = (6 : Int32) → vp_in a0 (q_al 78) ∧ (Q (mem 78 a0.toNatClampNeg) mem)) ∧ (¬ a1 = (6 : Int32) → (a1 = (7 : Int32) → vp_in a0 (q_al 79) ∧ (Q (mem 79 a0.toNatClampNeg) mem)) ∧ (¬ a1 = (7 : Int32) → (a1 = (8 : Int32) → vp_in a0 (q_al 80) ∧ (Q (mem 80 a0.toNatClampNeg) mem)) ∧ (¬ a1 = (8 : Int32) → Q (-102 : Int32) mem)))))))))
set_option maxRecDepth 100000 in
set_option maxHeartbeats 4000000 in
theorem sn_X3_aboutOf_0 {X : q_X} {G : q_G} (hX : q_C X cX3_aboutOf 3 RX3 (some .int) 1 24) (a0 : Int32) (a1 : Int32)   (Q : Int32 → q_Mem → Prop)  (mem : q_Mem) (h : wp_X3_aboutOf  a0 a1  mem Q) : q_J X G 3 (q_QI X G Q) 0 [some (.ref (q_ad G 72)), some (.int a0), some (.int a1)] [] mem := by
  unfold wp_X3_aboutOf at h
  refine q_iload_n hX rfl dX3_aboutOf_0 1 rfl ?_
  by_cases c_1 : a1 = (0 : Int32)
  · replace h := h.1 c_1
    refine q_tin hX dX3_aboutOf_1 52 (by rw [c_1]; decide) (by rw [c_1]; decide) (by rw [c_1]; rfl) (by decide) ?_
    refine q_aload_n hX rfl dX3_aboutOf_52 53 rfl ?_
    refine gf_X3_7 hX dX3_aboutOf_53 56 rfl ?_
    refine q_iload_n hX rfl dX3_aboutOf_56 57 rfl ?_
    obtain ⟨g_2, h⟩ := h
    refine q_iald hX g_2 dX3_aboutOf_57 58 rfl ?_
    exact q_iret hX dX3_aboutOf_58 h
  replace h := h.2 c_1
  by_cases c_3 : a1 = (1 : Int32)
  · replace h := h.1 c_3
    refine q_tin hX dX3_aboutOf_1 59 (by rw [c_3]; decide) (by rw [c_3]; decide) (by rw [c_3]; rfl) (by decide) ?_
    refine q_aload_n hX rfl dX3_aboutOf_59 60 rfl ?_
    refine gf_X3_13 hX dX3_aboutOf_60 63 rfl ?_
    refine q_iload_n hX rfl dX3_aboutOf_63 64 rfl ?_
    obtain ⟨g_4, h⟩ := h
    refine q_iald hX g_4 dX3_aboutOf_64 65 rfl ?_
    exact q_iret hX dX3_aboutOf_65 h
  replace h := h.2 c_3
  by_cases c_5 : a1 = (2 : Int32)
  · replace h := h.1 c_5
    refine q_tin hX dX3_aboutOf_1 66 (by rw [c_5]; decide) (by rw [c_5]; decide) (by rw [c_5]; rfl) (by decide) ?_
    refine q_aload_n hX rfl dX3_aboutOf_66 67 rfl ?_
    refine gf_X3_16 hX dX3_aboutOf_67 70 rfl ?_
    refine q_iload_n hX rfl dX3_aboutOf_70 71 rfl ?_
    obtain ⟨g_6, h⟩ := h
    refine q_iald hX g_6 dX3_aboutOf_71 72 rfl ?_
    exact q_iret hX dX3_aboutOf_72 h
  replace h := h.2 c_5
  by_cases c_7 : a1 = (3 : Int32)
  · replace h := h.1 c_7
    refine q_tin hX dX3_aboutOf_1 73 (by rw [c_7]; decide) (by rw [c_7]; decide) (by rw [c_7]; rfl) (by decide) ?_
    refine q_aload_n hX rfl dX3_aboutOf_73 74 rfl ?_
    refine gf_X3_19 hX dX3_aboutOf_74 77 rfl ?_
    refine q_iload_n hX rfl dX3_aboutOf_77 78 rfl ?_
    obtain ⟨g_8, h⟩ := h
    refine q_iald hX g_8 dX3_aboutOf_78 79 rfl ?_
    exact q_iret hX dX3_aboutOf_79 h
  replace h := h.2 c_7
  by_cases c_9 : a1 = (4 : Int32)
  · replace h := h.1 c_9
    refine q_tin hX dX3_aboutOf_1 80 (by rw [c_9]; decide) (by rw [c_9]; decide) (by rw [c_9]; rfl) (by decide) ?_
    refine q_aload_n hX rfl dX3_aboutOf_80 81 rfl ?_
    refine gf_X3_22 hX dX3_aboutOf_81 84 rfl ?_
    refine q_iload_n hX rfl dX3_aboutOf_84 85 rfl ?_
    obtain ⟨g_10, h⟩ := h
    refine q_iald hX g_10 dX3_aboutOf_85 86 rfl ?_
    exact q_iret hX dX3_aboutOf_86 h
  replace h := h.2 c_9
  by_cases c_11 : a1 = (5 : Int32)
  · replace h := h.1 c_11
    refine q_tin hX dX3_aboutOf_1 87 (by rw [c_11]; decide) (by rw [c_11]; decide) (by rw [c_11]; rfl) (by decide) ?_
    refine q_aload_n hX rfl dX3_aboutOf_87 88 rfl ?_
    refine q_iload_n hX rfl dX3_aboutOf_88 89 rfl ?_
    refine cl_X3_96 hX  ⟨Nat.le_of_ble_eq_true rfl, Nat.le_of_ble_eq_true rfl⟩ (Nat.le_of_ble_eq_true rfl) dX3_aboutOf_89 92 rfl (sn_X3_damp a0  mem _ h) (fun r_12 m_13 h => ?_)
    exact q_iret hX dX3_aboutOf_92 h
  replace h := h.2 c_11
  by_cases c_14 : a1 = (6 : Int32)
  · replace h := h.1 c_14
    refine q_tin hX dX3_aboutOf_1 93 (by rw [c_14]; decide) (by rw [c_14]; decide) (by rw [c_14]; rfl) (by decide) ?_
    refine q_aload_n hX rfl dX3_aboutOf_93 94 rfl ?_
    refine gf_X3_25 hX dX3_aboutOf_94 97 rfl ?_
    refine q_iload_n hX rfl dX3_aboutOf_97 98 rfl ?_
    obtain ⟨g_15, h⟩ := h
    refine q_iald hX g_15 dX3_aboutOf_98 99 rfl ?_
    exact q_iret hX dX3_aboutOf_99 h
  replace h := h.2 c_14
  by_cases c_16 : a1 = (7 : Int32)
  · replace h := h.1 c_16
    refine q_tin hX dX3_aboutOf_1 100 (by rw [c_16]; decide) (by rw [c_16]; decide) (by rw [c_16]; rfl) (by decide) ?_
    refine q_aload_n hX rfl dX3_aboutOf_100 101 rfl ?_
    refine gf_X3_28 hX dX3_aboutOf_101 104 rfl ?_
    refine q_iload_n hX rfl dX3_aboutOf_104 105 rfl ?_
    obtain ⟨g_17, h⟩ := h
    refine q_iald hX g_17 dX3_aboutOf_105 106 rfl ?_
    exact q_iret hX dX3_aboutOf_106 h
  replace h := h.2 c_16
  by_cases c_18 : a1 = (8 : Int32)
  · replace h := h.1 c_18
    refine q_tin hX dX3_aboutOf_1 107 (by rw [c_18]; decide) (by rw [c_18]; decide) (by rw [c_18]; rfl) (by decide) ?_
    refine q_aload_n hX rfl dX3_aboutOf_107 108 rfl ?_
    refine gf_X3_31 hX dX3_aboutOf_108 111 rfl ?_
    refine q_iload_n hX rfl dX3_aboutOf_111 112 rfl ?_
    obtain ⟨g_19, h⟩ := h
    refine q_iald hX g_19 dX3_aboutOf_112 113 rfl ?_
    exact q_iret hX dX3_aboutOf_113 h
  replace h := h.2 c_18
  refine q_tout hX dX3_aboutOf_1 114 (by decide) (by have a0 := lv_neT c_1 (a := 0) (by decide); have a1 := lv_neT c_3 (a := 1) (by decide); have a2 := lv_neT c_5 (a := 2) (by decide); have a3 := lv_neT c_7 (a := 3) (by decide); have a4 := lv_neT c_9 (a := 4) (by decide); have a5 := lv_neT c_11 (a := 5) (by decide); have a6 := lv_neT c_14 (a := 6) (by decide); have a7 := lv_neT c_16 (a := 7) (by decide); have a8 := lv_neT c_18 (a := 8) (by decide); omega) ?_
  refine q_bipush hX (-102 : Int32) q_kb_m102 dX3_aboutOf_114 116 rfl ?_
  exact q_iret hX dX3_aboutOf_116 h
set_option maxRecDepth 100000 in
set_option maxHeartbeats 4000000 in
theorem sn_X3_aboutOf {l : Launch} {G : q_G} (a0 : Int32) (a1 : Int32)  (mem : q_Mem) (Q : Int32 → q_Mem → Prop) (h : wp_X3_aboutOf a0 a1 mem Q) : q_MI l G yX3_aboutOf cX3_aboutOf 3 (some .int) rm_X3_aboutOf [.ref (q_ad G 72), .int a0, .int a1] mem Q := by
  refine q_metI 0 (by decide +kernel) (Nat.le_of_ble_eq_true rfl) rfl (fun X hl hX => ?_)
  subst hl
  exact sn_X3_aboutOf_0 hX a0 a1  Q mem h

-- X3_in
def wp_X3_in  (a0 : Int64) (a1 : Int64) (a2 : Int64)  (mem : q_Mem) (Q : Int32 → q_Mem → Prop) : Prop := (((lg_cmp a0 a1) < 0) → Q (0 : Int32) mem) ∧ ((¬ (lg_cmp a0 a1) < 0) → ((0 < (lg_cmp a0 a2)) → Q (0 : Int32) mem) ∧ ((¬ 0 < (lg_cmp a0 a2)) → Q (1 : Int32) mem))
set_option maxRecDepth 100000 in
set_option maxHeartbeats 4000000 in
theorem sn_X3_in_0 {X : q_X} {G : q_G} (hX : q_C X cX3_in 6 RX3 (some .boolean) 0 0) (a0 : Int64) (a1 : Int64) (a2 : Int64)   (Q : Int32 → q_Mem → Prop)  (mem : q_Mem) (h : wp_X3_in  a0 a1 a2  mem Q) : q_J X G 6 (q_QI X G Q) 0 [some (.long a0), none, some (.long a1), none, some (.long a2), none] [] mem := by
  unfold wp_X3_in at h
  refine q_lload_n hX rfl dX3_in_0 1 rfl ?_
  refine q_lload_n hX rfl dX3_in_1 2 rfl ?_
  refine q_lcmp hX dX3_in_2 3 rfl ?_
  refine q_if_lt hX dX3_in_3 6 17 rfl (by decide) (fun c_1 => ?_) (fun c_1 => ?_)
  · replace h := h.1 c_1
    refine q_iconst hX (0 : Int32) q_ki_0 dX3_in_17 18 rfl ?_
    exact q_zret hX dX3_in_18 (by decide) h
  · replace h := h.2 c_1
    refine q_lload_n hX rfl dX3_in_6 7 rfl ?_
    refine q_lload hX rfl dX3_in_7 9 rfl ?_
    refine q_lcmp hX dX3_in_9 10 rfl ?_
    refine q_if_gt hX dX3_in_10 13 17 rfl (by decide) (fun c_2 => ?_) (fun c_2 => ?_)
    · replace h := h.1 c_2
      refine q_iconst hX (0 : Int32) q_ki_0 dX3_in_17 18 rfl ?_
      exact q_zret hX dX3_in_18 (by decide) h
    · replace h := h.2 c_2
      refine q_iconst hX (1 : Int32) q_ki_1 dX3_in_13 14 rfl ?_
      refine q_goto hX dX3_in_14 18 (by decide) ?_
      exact q_zret hX dX3_in_18 (by decide) h
set_option maxRecDepth 100000 in
set_option maxHeartbeats 4000000 in
theorem sn_X3_in {l : Launch} {G : q_G} (a0 : Int64) (a1 : Int64) (a2 : Int64)  (mem : q_Mem) (Q : Int32 → q_Mem → Prop) (h : wp_X3_in a0 a1 a2 mem Q) : q_MI l G yX3_in cX3_in 6 (some .boolean) rm_X3_in [.long a0, .long a1, .long a2] mem Q := by
  refine q_metI 0 (by decide +kernel) (Nat.le_of_ble_eq_true rfl) rfl (fun X hl hX => ?_)
  subst hl
  exact sn_X3_in_0 hX a0 a1 a2  Q mem h

-- X3_isLayer
def wp_X3_isLayer  (a0 : Int32)  (mem : q_Mem) (Q : Int32 → q_Mem → Prop) : Prop := wp_X3_in (a0.toInt64) (0 : Int64) (((mem 72 0) - (1 : Int32)).toInt64) mem (fun r_1 m_2 => (r_1 &&& 1 = r_1) ∧ Q r_1 m_2)
set_option maxRecDepth 100000 in
set_option maxHeartbeats 4000000 in
theorem sn_X3_isLayer_0 {X : q_X} {G : q_G} (hX : q_C X cX3_isLayer 2 RX3 (some .boolean) 1 25) (a0 : Int32)   (Q : Int32 → q_Mem → Prop)  (mem : q_Mem) (h : wp_X3_isLayer  a0  mem Q) : q_J X G 2 (q_QI X G Q) 0 [some (.ref (q_ad G 72)), some (.int a0)] [] mem := by
  unfold wp_X3_isLayer at h
  refine q_iload_n hX rfl dX3_isLayer_0 1 rfl ?_
  refine q_i2l hX dX3_isLayer_1 2 rfl ?_
  refine q_lconst hX (0 : Int64) rfl dX3_isLayer_2 3 rfl ?_
  refine q_aload_n hX rfl dX3_isLayer_3 4 rfl ?_
  refine gf_X3_74 hX dX3_isLayer_4 7 rfl ?_
  refine q_iconst hX (1 : Int32) q_ki_1 dX3_isLayer_7 8 rfl ?_
  refine q_isub hX dX3_isLayer_8 9 rfl ?_
  refine q_i2l hX dX3_isLayer_9 10 rfl ?_
  refine cl_X3_77 hX  ⟨Nat.le_of_ble_eq_true rfl, Nat.le_of_ble_eq_true rfl⟩ (Nat.le_of_ble_eq_true rfl) dX3_isLayer_10 13 rfl (sn_X3_in (a0.toInt64) (0 : Int64) (((mem 72 0) - (1 : Int32)).toInt64)  mem _ h) (fun r_1 m_2 h => ?_)
  exact q_zret hX dX3_isLayer_13 h.1 h.2
set_option maxRecDepth 100000 in
set_option maxHeartbeats 4000000 in
theorem sn_X3_isLayer {l : Launch} {G : q_G} (a0 : Int32)  (mem : q_Mem) (Q : Int32 → q_Mem → Prop) (h : wp_X3_isLayer a0 mem Q) : q_MI l G yX3_isLayer cX3_isLayer 2 (some .boolean) rm_X3_isLayer [.ref (q_ad G 72), .int a0] mem Q := by
  refine q_metI 0 (by decide +kernel) (Nat.le_of_ble_eq_true rfl) rfl (fun X hl hX => ?_)
  subst hl
  exact sn_X3_isLayer_0 hX a0  Q mem h

-- X3_about
def wp_X3_about  (a0 : Int32) (a1 : Int32)  (mem : q_Mem) (Q : Int32 → q_Mem → Prop) : Prop := wp_X3_isLayer a0 mem (fun r_1 m_2 => ((r_1 = 0) → Q (-101 : Int32) m_2) ∧ ((¬ r_1 = 0) → wp_X3_aboutOf a0 a1 m_2 (fun r_4 m_5 => Q r_4 m_5)))
set_option maxRecDepth 100000 in
set_option maxHeartbeats 4000000 in
theorem sn_X3_about_0 {X : q_X} {G : q_G} (hX : q_C X cX3_about 3 RX3 (some .int) 2 46) (a0 : Int32) (a1 : Int32)   (Q : Int32 → q_Mem → Prop)  (mem : q_Mem) (h : wp_X3_about  a0 a1  mem Q) : q_J X G 3 (q_QI X G Q) 0 [some (.ref (q_ad G 72)), some (.int a0), some (.int a1)] [] mem := by
  unfold wp_X3_about at h
  refine q_aload_n hX rfl dX3_about_0 1 rfl ?_
  refine q_iload_n hX rfl dX3_about_1 2 rfl ?_
  refine cl_X3_92 hX  ⟨Nat.le_of_ble_eq_true rfl, Nat.le_of_ble_eq_true rfl⟩ (Nat.le_of_ble_eq_true rfl) dX3_about_2 5 rfl (sn_X3_isLayer a0  mem _ h) (fun r_1 m_2 h => ?_)
  refine q_if_eq hX dX3_about_5 8 17 rfl (by decide) (fun c_3 => ?_) (fun c_3 => ?_)
  · replace h := h.1 c_3
    refine q_bipush hX (-101 : Int32) q_kb_m101 dX3_about_17 19 rfl ?_
    exact q_iret hX dX3_about_19 h
  · replace h := h.2 c_3
    refine q_aload_n hX rfl dX3_about_8 9 rfl ?_
    refine q_iload_n hX rfl dX3_about_9 10 rfl ?_
    refine q_iload_n hX rfl dX3_about_10 11 rfl ?_
    refine cl_X3_100 hX  ⟨Nat.le_of_ble_eq_true rfl, Nat.le_of_ble_eq_true rfl⟩ (Nat.le_of_ble_eq_true rfl) dX3_about_11 14 rfl (sn_X3_aboutOf a0 a1  m_2 _ h) (fun r_4 m_5 h => ?_)
    refine q_goto hX dX3_about_14 19 (by decide) ?_
    exact q_iret hX dX3_about_19 h
set_option maxRecDepth 100000 in
set_option maxHeartbeats 4000000 in
theorem sn_X3_about {l : Launch} {G : q_G} (a0 : Int32) (a1 : Int32)  (mem : q_Mem) (Q : Int32 → q_Mem → Prop) (h : wp_X3_about a0 a1 mem Q) : q_MI l G yX3_about cX3_about 3 (some .int) rm_X3_about [.ref (q_ad G 72), .int a0, .int a1] mem Q := by
  refine q_metI 0 (by decide +kernel) (Nat.le_of_ble_eq_true rfl) rfl (fun X hl hX => ?_)
  subst hl
  exact sn_X3_about_0 hX a0 a1  Q mem h

-- X3_fetch
def wp_X3_fetch  (a0 : Int32) (a1 : Int32)  (mem : q_Mem) (Q : q_Mem → Prop) : Prop := vp_in a1 (q_al 87) ∧ (vp_in a0 (q_al 73) ∧ (∀ m_3 : q_Mem, m_3 = q_set mem 73 (upd (mem 73) a0.toNatClampNeg (mem 87 a1.toNatClampNeg)) → vp_in ((6 : Int32) + a1) (q_al 87) ∧ (vp_in a0 (q_al 74) ∧ (∀ m_6 : q_Mem, m_6 = q_set m_3 74 (upd (m_3 74) a0.toNatClampNeg (m_3 87 ((6 : Int32) + a1).toNatClampNeg)) → vp_in ((12 : Int32) + a1) (q_al 87) ∧ (vp_in a0 (q_al 75) ∧ (∀ m_9 : q_Mem, m_9 = q_set m_6 75 (upd (m_6 75) a0.toNatClampNeg (m_6 87 ((12 : Int32) + a1).toNatClampNeg)) → vp_in ((18 : Int32) + a1) (q_al 87) ∧ (vp_in a0 (q_al 76) ∧ (∀ m_12 : q_Mem, m_12 = q_set m_9 76 (upd (m_9 76) a0.toNatClampNeg (m_9 87 ((18 : Int32) + a1).toNatClampNeg)) → vp_in ((24 : Int32) + a1) (q_al 87) ∧ (vp_in a0 (q_al 77) ∧ (∀ m_15 : q_Mem, m_15 = q_set m_12 77 (upd (m_12 77) a0.toNatClampNeg (m_12 87 ((24 : Int32) + a1).toNatClampNeg)) → vp_in ((30 : Int32) + a1) (q_al 87) ∧ (vp_in a0 (q_al 78) ∧ (∀ m_18 : q_Mem, m_18 = q_set m_15 78 (upd (m_15 78) a0.toNatClampNeg (m_15 87 ((30 : Int32) + a1).toNatClampNeg)) → vp_in ((36 : Int32) + a1) (q_al 87) ∧ (vp_in a0 (q_al 79) ∧ (∀ m_21 : q_Mem, m_21 = q_set m_18 79 (upd (m_18 79) a0.toNatClampNeg (m_18 87 ((36 : Int32) + a1).toNatClampNeg)) → vp_in ((42 : Int32) + a1) (q_al 87) ∧ (vp_in a0 (q_al 80) ∧ (∀ m_24 : q_Mem, m_24 = q_set m_21 80 (upd (m_21 80) a0.toNatClampNeg (m_21 87 ((42 : Int32) + a1).toNatClampNeg)) → Q m_24))))))))))))))))
set_option maxRecDepth 100000 in
set_option maxHeartbeats 4000000 in
theorem sn_X3_fetch_0 {X : q_X} {G : q_G} (hX : q_C X cX3_fetch 3 RX3 none 0 0) (a0 : Int32) (a1 : Int32)   (Q : q_Mem → Prop)  (mem : q_Mem) (h : wp_X3_fetch  a0 a1  mem Q) : q_J X G 3 (q_QV X G Q) 0 [some (.ref (q_ad G 72)), some (.int a0), some (.int a1)] [] mem := by
  unfold wp_X3_fetch at h
  refine q_aload_n hX rfl dX3_fetch_0 1 rfl ?_
  refine gf_X3_7 hX dX3_fetch_1 4 rfl ?_
  refine q_iload_n hX rfl dX3_fetch_4 5 rfl ?_
  refine q_aload_n hX rfl dX3_fetch_5 6 rfl ?_
  refine gf_X3_52 hX dX3_fetch_6 9 rfl ?_
  refine q_iload_n hX rfl dX3_fetch_9 10 rfl ?_
  obtain ⟨g_1, h⟩ := h
  refine q_iald hX g_1 dX3_fetch_10 11 rfl ?_
  obtain ⟨g_2, h⟩ := h
  refine q_iast hX g_2 dX3_fetch_11 12 rfl (fun m_3 em_3 => ?_)
  replace h := h m_3 em_3
  refine q_aload_n hX rfl dX3_fetch_12 13 rfl ?_
  refine gf_X3_13 hX dX3_fetch_13 16 rfl ?_
  refine q_iload_n hX rfl dX3_fetch_16 17 rfl ?_
  refine q_aload_n hX rfl dX3_fetch_17 18 rfl ?_
  refine gf_X3_52 hX dX3_fetch_18 21 rfl ?_
  refine q_bipush hX (6 : Int32) q_kb_6 dX3_fetch_21 23 rfl ?_
  refine q_iload_n hX rfl dX3_fetch_23 24 rfl ?_
  refine q_iadd hX dX3_fetch_24 25 rfl ?_
  obtain ⟨g_4, h⟩ := h
  refine q_iald hX g_4 dX3_fetch_25 26 rfl ?_
  obtain ⟨g_5, h⟩ := h
  refine q_iast hX g_5 dX3_fetch_26 27 rfl (fun m_6 em_6 => ?_)
  replace h := h m_6 em_6
  refine q_aload_n hX rfl dX3_fetch_27 28 rfl ?_
  refine gf_X3_16 hX dX3_fetch_28 31 rfl ?_
  refine q_iload_n hX rfl dX3_fetch_31 32 rfl ?_
  refine q_aload_n hX rfl dX3_fetch_32 33 rfl ?_
  refine gf_X3_52 hX dX3_fetch_33 36 rfl ?_
  refine q_bipush hX (12 : Int32) q_kb_12 dX3_fetch_36 38 rfl ?_
  refine q_iload_n hX rfl dX3_fetch_38 39 rfl ?_
  refine q_iadd hX dX3_fetch_39 40 rfl ?_
  obtain ⟨g_7, h⟩ := h
  refine q_iald hX g_7 dX3_fetch_40 41 rfl ?_
  obtain ⟨g_8, h⟩ := h
  refine q_iast hX g_8 dX3_fetch_41 42 rfl (fun m_9 em_9 => ?_)
  replace h := h m_9 em_9
  refine q_aload_n hX rfl dX3_fetch_42 43 rfl ?_
  refine gf_X3_19 hX dX3_fetch_43 46 rfl ?_
  refine q_iload_n hX rfl dX3_fetch_46 47 rfl ?_
  refine q_aload_n hX rfl dX3_fetch_47 48 rfl ?_
  refine gf_X3_52 hX dX3_fetch_48 51 rfl ?_
  refine q_bipush hX (18 : Int32) q_kb_18 dX3_fetch_51 53 rfl ?_
  refine q_iload_n hX rfl dX3_fetch_53 54 rfl ?_
  refine q_iadd hX dX3_fetch_54 55 rfl ?_
  obtain ⟨g_10, h⟩ := h
  refine q_iald hX g_10 dX3_fetch_55 56 rfl ?_
  obtain ⟨g_11, h⟩ := h
  refine q_iast hX g_11 dX3_fetch_56 57 rfl (fun m_12 em_12 => ?_)
  replace h := h m_12 em_12
  refine q_aload_n hX rfl dX3_fetch_57 58 rfl ?_
  refine gf_X3_22 hX dX3_fetch_58 61 rfl ?_
  refine q_iload_n hX rfl dX3_fetch_61 62 rfl ?_
  refine q_aload_n hX rfl dX3_fetch_62 63 rfl ?_
  refine gf_X3_52 hX dX3_fetch_63 66 rfl ?_
  refine q_bipush hX (24 : Int32) q_kb_24 dX3_fetch_66 68 rfl ?_
  refine q_iload_n hX rfl dX3_fetch_68 69 rfl ?_
  refine q_iadd hX dX3_fetch_69 70 rfl ?_
  obtain ⟨g_13, h⟩ := h
  refine q_iald hX g_13 dX3_fetch_70 71 rfl ?_
  obtain ⟨g_14, h⟩ := h
  refine q_iast hX g_14 dX3_fetch_71 72 rfl (fun m_15 em_15 => ?_)
  replace h := h m_15 em_15
  refine q_aload_n hX rfl dX3_fetch_72 73 rfl ?_
  refine gf_X3_25 hX dX3_fetch_73 76 rfl ?_
  refine q_iload_n hX rfl dX3_fetch_76 77 rfl ?_
  refine q_aload_n hX rfl dX3_fetch_77 78 rfl ?_
  refine gf_X3_52 hX dX3_fetch_78 81 rfl ?_
  refine q_bipush hX (30 : Int32) q_kb_30 dX3_fetch_81 83 rfl ?_
  refine q_iload_n hX rfl dX3_fetch_83 84 rfl ?_
  refine q_iadd hX dX3_fetch_84 85 rfl ?_
  obtain ⟨g_16, h⟩ := h
  refine q_iald hX g_16 dX3_fetch_85 86 rfl ?_
  obtain ⟨g_17, h⟩ := h
  refine q_iast hX g_17 dX3_fetch_86 87 rfl (fun m_18 em_18 => ?_)
  replace h := h m_18 em_18
  refine q_aload_n hX rfl dX3_fetch_87 88 rfl ?_
  refine gf_X3_28 hX dX3_fetch_88 91 rfl ?_
  refine q_iload_n hX rfl dX3_fetch_91 92 rfl ?_
  refine q_aload_n hX rfl dX3_fetch_92 93 rfl ?_
  refine gf_X3_52 hX dX3_fetch_93 96 rfl ?_
  refine q_bipush hX (36 : Int32) q_kb_36 dX3_fetch_96 98 rfl ?_
  refine q_iload_n hX rfl dX3_fetch_98 99 rfl ?_
  refine q_iadd hX dX3_fetch_99 100 rfl ?_
  obtain ⟨g_19, h⟩ := h
  refine q_iald hX g_19 dX3_fetch_100 101 rfl ?_
  obtain ⟨g_20, h⟩ := h
  refine q_iast hX g_20 dX3_fetch_101 102 rfl (fun m_21 em_21 => ?_)
  replace h := h m_21 em_21
  refine q_aload_n hX rfl dX3_fetch_102 103 rfl ?_
  refine gf_X3_31 hX dX3_fetch_103 106 rfl ?_
  refine q_iload_n hX rfl dX3_fetch_106 107 rfl ?_
  refine q_aload_n hX rfl dX3_fetch_107 108 rfl ?_
  refine gf_X3_52 hX dX3_fetch_108 111 rfl ?_
  refine q_bipush hX (42 : Int32) q_kb_42 dX3_fetch_111 113 rfl ?_
  refine q_iload_n hX rfl dX3_fetch_113 114 rfl ?_
  refine q_iadd hX dX3_fetch_114 115 rfl ?_
  obtain ⟨g_22, h⟩ := h
  refine q_iald hX g_22 dX3_fetch_115 116 rfl ?_
  obtain ⟨g_23, h⟩ := h
  refine q_iast hX g_23 dX3_fetch_116 117 rfl (fun m_24 em_24 => ?_)
  replace h := h m_24 em_24
  exact q_vret hX dX3_fetch_117 h
set_option maxRecDepth 100000 in
set_option maxHeartbeats 4000000 in
theorem sn_X3_fetch {l : Launch} {G : q_G} (a0 : Int32) (a1 : Int32)  (mem : q_Mem) (Q : q_Mem → Prop) (h : wp_X3_fetch a0 a1 mem Q) : q_MV l G yX3_fetch cX3_fetch 3 none rm_X3_fetch [.ref (q_ad G 72), .int a0, .int a1] mem Q := by
  refine q_metV 0 (by decide +kernel) (Nat.le_of_ble_eq_true rfl) rfl (fun X hl hX => ?_)
  subst hl
  exact sn_X3_fetch_0 hX a0 a1  Q mem h

-- X3_floor
def wp_X3_floor_20  (a0 : Int32) (a1 : Int32) (x2 : Int32) (mem : q_Mem) (Q : Int32 → q_Mem → Prop) : Prop := Q x2 mem
def wp_X3_floor  (a0 : Int32) (a1 : Int32)  (mem : q_Mem) (Q : Int32 → q_Mem → Prop) : Prop := (¬ a1 = 0) ∧ (∀ x2_2 : Int32, x2_2 = (a0 / a1) → ((0 ≤ a0) → wp_X3_floor_20  a0 a1 x2_2 mem Q) ∧ ((¬ 0 ≤ a0) → (¬ a1 = 0) ∧ ((((a0 - a0 / a1 * a1) = 0) → wp_X3_floor_20  a0 a1 x2_2 mem Q) ∧ ((¬ (a0 - a0 / a1 * a1) = 0) → Q (x2_2 - (1 : Int32)) mem))))
set_option maxRecDepth 100000 in
set_option maxHeartbeats 4000000 in
theorem sn_X3_floor_20 {X : q_X} {G : q_G} (hX : q_C X cX3_floor 3 RX3 (some .int) 0 0) (a0 : Int32) (a1 : Int32)  (x2 : Int32) (Q : Int32 → q_Mem → Prop)  (mem : q_Mem) (h : wp_X3_floor_20  a0 a1 x2 mem Q) : q_J X G 3 (q_QI X G Q) 20 [some (.int a0), some (.int a1), some (.int x2)] [] mem := by
  unfold wp_X3_floor_20 at h
  refine q_iload_n hX rfl dX3_floor_20 21 rfl ?_
  exact q_iret hX dX3_floor_21 h
set_option maxRecDepth 100000 in
set_option maxHeartbeats 4000000 in
theorem sn_X3_floor_0 {X : q_X} {G : q_G} (hX : q_C X cX3_floor 3 RX3 (some .int) 0 0) (a0 : Int32) (a1 : Int32)   (Q : Int32 → q_Mem → Prop)  (mem : q_Mem) (h : wp_X3_floor  a0 a1  mem Q) : q_J X G 3 (q_QI X G Q) 0 [some (.int a0), some (.int a1), none] [] mem := by
  unfold wp_X3_floor at h
  refine q_iload_n hX rfl dX3_floor_0 1 rfl ?_
  refine q_iload_n hX rfl dX3_floor_1 2 rfl ?_
  obtain ⟨g_1, h⟩ := h
  refine q_idiv hX g_1 dX3_floor_2 3 rfl ?_
  refine q_istore_n hX dX3_floor_3 4 rfl (Nat.le_of_ble_eq_true rfl) rfl (fun y => [some (.int a0), some (.int a1), some (.int y)]) (fun _ => rfl) (fun x2_2 ex2_2 => ?_)
  replace h := h x2_2 ex2_2
  refine q_iload_n hX rfl dX3_floor_4 5 rfl ?_
  refine q_if_ge hX dX3_floor_5 8 20 rfl (by decide) (fun c_3 => ?_) (fun c_3 => ?_)
  · replace h := h.1 c_3
    exact q_weak [true, true, true] rfl (sn_X3_floor_20 hX  a0 a1  x2_2 Q  mem h)
  · replace h := h.2 c_3
    refine q_iload_n hX rfl dX3_floor_8 9 rfl ?_
    refine q_iload_n hX rfl dX3_floor_9 10 rfl ?_
    obtain ⟨g_4, h⟩ := h
    refine q_irem hX g_4 dX3_floor_10 11 rfl ?_
    refine q_if_eq hX dX3_floor_11 14 20 rfl (by decide) (fun c_5 => ?_) (fun c_5 => ?_)
    · replace h := h.1 c_5
      exact q_weak [true, true, true] rfl (sn_X3_floor_20 hX  a0 a1  x2_2 Q  mem h)
    · replace h := h.2 c_5
      refine q_iload_n hX rfl dX3_floor_14 15 rfl ?_
      refine q_iconst hX (1 : Int32) q_ki_1 dX3_floor_15 16 rfl ?_
      refine q_isub hX dX3_floor_16 17 rfl ?_
      refine q_goto hX dX3_floor_17 21 (by decide) ?_
      exact q_iret hX dX3_floor_21 h
set_option maxRecDepth 100000 in
set_option maxHeartbeats 4000000 in
theorem sn_X3_floor {l : Launch} {G : q_G} (a0 : Int32) (a1 : Int32)  (mem : q_Mem) (Q : Int32 → q_Mem → Prop) (h : wp_X3_floor a0 a1 mem Q) : q_MI l G yX3_floor cX3_floor 3 (some .int) rm_X3_floor [.int a0, .int a1] mem Q := by
  refine q_metI 1 (by decide +kernel) (Nat.le_of_ble_eq_true rfl) rfl (fun X hl hX => ?_)
  subst hl
  exact sn_X3_floor_0 hX a0 a1  Q mem h

-- X3_between
def wp_X3_between_12  (a0 : Int32) (a1 : Int32) (a2 : Int32) (a3 : Int32)  (mem : q_Mem) (Q : Int32 → q_Mem → Prop) : Prop := ((¬ a2 = 0) → Q a1 mem) ∧ ((a2 = 0) → Q a0 mem)
def wp_X3_between_104  (a0 : Int32) (a1 : Int32) (a2 : Int32) (a3 : Int32) (x5 : Int32) (x6 : Int32) (mem : q_Mem) (Q : Int32 → q_Mem → Prop) : Prop := wp_X3_floor ((a1 - a0) * x5) x6 mem (fun r_1 m_2 => Q (a0 + r_1) m_2)
def wp_X3_between_88 (K31 : Int32 → Int32 → Int32 → q_Mem → Prop) (a0 : Int32) (a1 : Int32) (a2 : Int32) (a3 : Int32) (x6 : Int32) (x7 : Int32) (x8 : Int32) (s2 : Int32) (s1 : Int32) (mem : q_Mem) (Q : Int32 → q_Mem → Prop) : Prop := ∀ x5_1 : Int32, x5_1 = (s1 + s2) → ∀ x6_2 : Int32, x6_2 = (x6 + x8) → ∀ x7_3 : Int32, x7_3 = (x7 + (1 : Int32)) → K31 x5_1 x6_2 x7_3 mem
def wp_X3_between_72 (K31 : Int32 → Int32 → Int32 → q_Mem → Prop) (a0 : Int32) (a1 : Int32) (a2 : Int32) (a3 : Int32) (x5 : Int32) (x6 : Int32) (x7 : Int32) (s1 : Int32) (mem : q_Mem) (Q : Int32 → q_Mem → Prop) : Prop := ((a2 ≤ x7) → wp_X3_between_88 K31 a0 a1 a2 a3 x6 x7 s1 (0 : Int32) x5 mem Q) ∧ ((¬ a2 ≤ x7) → wp_X3_between_88 K31 a0 a1 a2 a3 x6 x7 s1 s1 x5 mem Q)
def wp_X3_between_31_b (K31 : Int32 → Int32 → Int32 → q_Mem → Prop) (a0 : Int32) (a1 : Int32) (a2 : Int32) (a3 : Int32) (x5 : Int32) (x6 : Int32) (x7 : Int32) (mem : q_Mem) (Q : Int32 → q_Mem → Prop) : Prop := (((mem 72 0) ≤ x7) → wp_X3_between_104  a0 a1 a2 a3 x5 x6 mem Q) ∧ ((¬ (mem 72 0) ≤ x7) → ((a3 = 0) → vp_in x7 (q_al 85) ∧ (vp_in (mem 85 x7.toNatClampNeg) (q_al 75) ∧ (wp_X3_between_72 K31 a0 a1 a2 a3 x5 x6 x7 (mem 75 (mem 85 x7.toNatClampNeg).toNatClampNeg) mem Q))) ∧ ((¬ a3 = 0) → vp_in x7 (q_al 85) ∧ (vp_in (mem 85 x7.toNatClampNeg) (q_al 74) ∧ (wp_X3_between_72 K31 a0 a1 a2 a3 x5 x6 x7 (mem 74 (mem 85 x7.toNatClampNeg).toNatClampNeg) mem Q))))
def wp_X3_between_31  (a0 : Int32) (a1 : Int32) (a2 : Int32) (a3 : Int32) (x5 : Int32) (x6 : Int32) (x7 : Int32) (mem : q_Mem) (Q : Int32 → q_Mem → Prop) : Prop := ∃ I : Nat → Int32 → Int32 → Int32 → q_Mem → Prop, (∃ n, I n x5 x6 x7 mem) ∧ ∀ (n : Nat) (yx5 : Int32) (yx6 : Int32) (yx7 : Int32) (ymem : q_Mem), I n yx5 yx6 yx7 ymem → wp_X3_between_31_b  (fun (zx5 : Int32) (zx6 : Int32) (zx7 : Int32) (zmem : q_Mem) => ∃ n2, n2 < n ∧ I n2 zx5 zx6 zx7 zmem) a0 a1 a2 a3 yx5 yx6 yx7 ymem Q
def wp_X3_between  (a0 : Int32) (a1 : Int32) (a2 : Int32) (a3 : Int32)  (mem : q_Mem) (Q : Int32 → q_Mem → Prop) : Prop := ((a2 = 0) → wp_X3_between_12  a0 a1 a2 a3  mem Q) ∧ ((¬ a2 = 0) → ((¬ a2 = (mem 72 0)) → wp_X3_between_31  a0 a1 a2 a3 (1 : Int32) (2 : Int32) (0 : Int32) mem Q) ∧ ((a2 = (mem 72 0)) → wp_X3_between_12  a0 a1 a2 a3  mem Q))
set_option maxRecDepth 100000 in
set_option maxHeartbeats 4000000 in
theorem sn_X3_between_12 {X : q_X} {G : q_G} (hX : q_C X cX3_between 9 RX3 (some .int) 1 22) (a0 : Int32) (a1 : Int32) (a2 : Int32) (a3 : Int32)   (Q : Int32 → q_Mem → Prop)  (mem : q_Mem) (h : wp_X3_between_12  a0 a1 a2 a3  mem Q) : q_J X G 9 (q_QI X G Q) 12 [some (.ref (q_ad G 72)), some (.int a0), some (.int a1), some (.int a2), some (.int a3), none, none, none, none] [] mem := by
  unfold wp_X3_between_12 at h
  refine q_iload_n hX rfl dX3_between_12 13 rfl ?_
  refine q_if_ne hX dX3_between_13 16 20 rfl (by decide) (fun c_1 => ?_) (fun c_1 => ?_)
  · replace h := h.1 c_1
    refine q_iload_n hX rfl dX3_between_20 21 rfl ?_
    exact q_iret hX dX3_between_21 h
  · replace h := h.2 c_1
    refine q_iload_n hX rfl dX3_between_16 17 rfl ?_
    refine q_goto hX dX3_between_17 21 (by decide) ?_
    exact q_iret hX dX3_between_21 h
set_option maxRecDepth 100000 in
set_option maxHeartbeats 4000000 in
theorem sn_X3_between_104 {X : q_X} {G : q_G} (hX : q_C X cX3_between 9 RX3 (some .int) 1 22) (a0 : Int32) (a1 : Int32) (a2 : Int32) (a3 : Int32)  (x5 : Int32) (x6 : Int32) (Q : Int32 → q_Mem → Prop)  (mem : q_Mem) (h : wp_X3_between_104  a0 a1 a2 a3 x5 x6 mem Q) : q_J X G 9 (q_QI X G Q) 104 [some (.ref (q_ad G 72)), some (.int a0), some (.int a1), some (.int a2), some (.int a3), some (.int x5), some (.int x6), none, none] [] mem := by
  unfold wp_X3_between_104 at h
  refine q_iload_n hX rfl dX3_between_104 105 rfl ?_
  refine q_iload_n hX rfl dX3_between_105 106 rfl ?_
  refine q_iload_n hX rfl dX3_between_106 107 rfl ?_
  refine q_isub hX dX3_between_107 108 rfl ?_
  refine q_iload hX rfl dX3_between_108 110 rfl ?_
  refine q_imul hX dX3_between_110 111 rfl ?_
  refine q_iload hX rfl dX3_between_111 113 rfl ?_
  refine cl_X3_123 hX  ⟨Nat.le_of_ble_eq_true rfl, Nat.le_of_ble_eq_true rfl⟩ (Nat.le_of_ble_eq_true rfl) dX3_between_113 116 rfl (sn_X3_floor ((a1 - a0) * x5) x6  mem _ h) (fun r_1 m_2 h => ?_)
  refine q_iadd hX dX3_between_116 117 rfl ?_
  exact q_iret hX dX3_between_117 h
set_option maxRecDepth 100000 in
set_option maxHeartbeats 4000000 in
theorem sn_X3_between_88 {X : q_X} {G : q_G} (hX : q_C X cX3_between 9 RX3 (some .int) 1 22) (a0 : Int32) (a1 : Int32) (a2 : Int32) (a3 : Int32)  (x6 : Int32) (x7 : Int32) (x8 : Int32) (s2 : Int32) (s1 : Int32) (Q : Int32 → q_Mem → Prop) (K31 : Int32 → Int32 → Int32 → q_Mem → Prop) (hK31 : ∀ (yx5 : Int32) (yx6 : Int32) (yx7 : Int32) (ymem : q_Mem), K31 yx5 yx6 yx7 ymem → q_J X G 9 (q_QI X G Q) 31 [some (.ref (q_ad G 72)), some (.int a0), some (.int a1), some (.int a2), some (.int a3), some (.int yx5), some (.int yx6), some (.int yx7), none] [] ymem) (mem : q_Mem) (h : wp_X3_between_88 K31 a0 a1 a2 a3 x6 x7 x8 s2 s1 mem Q) : q_J X G 9 (q_QI X G Q) 88 [some (.ref (q_ad G 72)), some (.int a0), some (.int a1), some (.int a2), some (.int a3), none, some (.int x6), some (.int x7), some (.int x8)] [.int s2, .int s1] mem := by
  unfold wp_X3_between_88 at h
  refine q_iadd hX dX3_between_88 89 rfl ?_
  refine q_istore hX dX3_between_89 91 rfl (Nat.le_of_ble_eq_true rfl) rfl (fun y => [some (.ref (q_ad G 72)), some (.int a0), some (.int a1), some (.int a2), some (.int a3), some (.int y), some (.int x6), some (.int x7), some (.int x8)]) (fun _ => rfl) (fun x5_1 ex5_1 => ?_)
  replace h := h x5_1 ex5_1
  refine q_iload hX rfl dX3_between_91 93 rfl ?_
  refine q_iload hX rfl dX3_between_93 95 rfl ?_
  refine q_iadd hX dX3_between_95 96 rfl ?_
  refine q_istore hX dX3_between_96 98 rfl (Nat.le_of_ble_eq_true rfl) rfl (fun y => [some (.ref (q_ad G 72)), some (.int a0), some (.int a1), some (.int a2), some (.int a3), some (.int x5_1), some (.int y), some (.int x7), some (.int x8)]) (fun _ => rfl) (fun x6_2 ex6_2 => ?_)
  replace h := h x6_2 ex6_2
  refine q_iinc hX (1 : Int32) q_ki_1 rfl dX3_between_98 101 rfl (Nat.le_of_ble_eq_true rfl) rfl (fun y => [some (.ref (q_ad G 72)), some (.int a0), some (.int a1), some (.int a2), some (.int a3), some (.int x5_1), some (.int x6_2), some (.int y), some (.int x8)]) (fun _ => rfl) (fun x7_3 ex7_3 => ?_)
  replace h := h x7_3 ex7_3
  refine q_goto hX dX3_between_101 31 (by decide) ?_
  exact q_weak [true, true, true, true, true, true, true, true, false] rfl (hK31 x5_1 x6_2 x7_3 mem h)
set_option maxRecDepth 100000 in
set_option maxHeartbeats 4000000 in
theorem sn_X3_between_72 {X : q_X} {G : q_G} (hX : q_C X cX3_between 9 RX3 (some .int) 1 22) (a0 : Int32) (a1 : Int32) (a2 : Int32) (a3 : Int32)  (x5 : Int32) (x6 : Int32) (x7 : Int32) (s1 : Int32) (Q : Int32 → q_Mem → Prop) (K31 : Int32 → Int32 → Int32 → q_Mem → Prop) (hK31 : ∀ (yx5 : Int32) (yx6 : Int32) (yx7 : Int32) (ymem : q_Mem), K31 yx5 yx6 yx7 ymem → q_J X G 9 (q_QI X G Q) 31 [some (.ref (q_ad G 72)), some (.int a0), some (.int a1), some (.int a2), some (.int a3), some (.int yx5), some (.int yx6), some (.int yx7), none] [] ymem) (mem : q_Mem) (h : wp_X3_between_72 K31 a0 a1 a2 a3 x5 x6 x7 s1 mem Q) : q_J X G 9 (q_QI X G Q) 72 [some (.ref (q_ad G 72)), some (.int a0), some (.int a1), some (.int a2), some (.int a3), some (.int x5), some (.int x6), some (.int x7), none] [.int s1] mem := by
  unfold wp_X3_between_72 at h
  refine q_istore hX dX3_between_72 74 rfl (Nat.le_of_ble_eq_true rfl) rfl (fun y => [some (.ref (q_ad G 72)), some (.int a0), some (.int a1), some (.int a2), some (.int a3), some (.int x5), some (.int x6), some (.int x7), some (.int y)]) (fun _ => rfl) (fun x8_1 ex8_1 => ?_)
  replace ex8_1 := ex8_1.symm; subst ex8_1
  refine q_iload hX rfl dX3_between_74 76 rfl ?_
  refine q_iload hX rfl dX3_between_76 78 rfl ?_
  refine q_iload_n hX rfl dX3_between_78 79 rfl ?_
  refine q_icmp_ge hX dX3_between_79 82 87 rfl (by decide) (fun c_2 => ?_) (fun c_2 => ?_)
  · replace h := h.1 c_2
    refine q_iconst hX (0 : Int32) q_ki_0 dX3_between_87 88 rfl ?_
    exact q_weak [true, true, true, true, true, false, true, true, true] rfl (sn_X3_between_88 hX  a0 a1 a2 a3  x6 x7 s1 (0 : Int32) x5 Q K31 hK31 mem h)
  · replace h := h.2 c_2
    refine q_iload hX rfl dX3_between_82 84 rfl ?_
    refine q_goto hX dX3_between_84 88 (by decide) ?_
    exact q_weak [true, true, true, true, true, false, true, true, true] rfl (sn_X3_between_88 hX  a0 a1 a2 a3  x6 x7 s1 s1 x5 Q K31 hK31 mem h)
set_option maxRecDepth 100000 in
set_option maxHeartbeats 4000000 in
theorem sn_X3_between_31_b {X : q_X} {G : q_G} (hX : q_C X cX3_between 9 RX3 (some .int) 1 22) (a0 : Int32) (a1 : Int32) (a2 : Int32) (a3 : Int32)  (x5 : Int32) (x6 : Int32) (x7 : Int32) (Q : Int32 → q_Mem → Prop) (K31 : Int32 → Int32 → Int32 → q_Mem → Prop) (hK31 : ∀ (yx5 : Int32) (yx6 : Int32) (yx7 : Int32) (ymem : q_Mem), K31 yx5 yx6 yx7 ymem → q_J X G 9 (q_QI X G Q) 31 [some (.ref (q_ad G 72)), some (.int a0), some (.int a1), some (.int a2), some (.int a3), some (.int yx5), some (.int yx6), some (.int yx7), none] [] ymem) (mem : q_Mem) (h : wp_X3_between_31_b K31 a0 a1 a2 a3 x5 x6 x7 mem Q) : q_J X G 9 (q_QI X G Q) 31 [some (.ref (q_ad G 72)), some (.int a0), some (.int a1), some (.int a2), some (.int a3), some (.int x5), some (.int x6), some (.int x7), none] [] mem := by
  unfold wp_X3_between_31_b at h
  refine q_iload hX rfl dX3_between_31 33 rfl ?_
  refine q_aload_n hX rfl dX3_between_33 34 rfl ?_
  refine gf_X3_74 hX dX3_between_34 37 rfl ?_
  refine q_icmp_ge hX dX3_between_37 40 104 rfl (by decide) (fun c_1 => ?_) (fun c_1 => ?_)
  · replace h := h.1 c_1
    exact q_weak [true, true, true, true, true, true, true, false, false] rfl (sn_X3_between_104 hX  a0 a1 a2 a3  x5 x6 Q  mem h)
  · replace h := h.2 c_1
    refine q_iload hX rfl dX3_between_40 42 rfl ?_
    refine q_if_eq hX dX3_between_42 45 60 rfl (by decide) (fun c_2 => ?_) (fun c_2 => ?_)
    · replace h := h.1 c_2
      refine q_aload_n hX rfl dX3_between_60 61 rfl ?_
      refine gf_X3_16 hX dX3_between_61 64 rfl ?_
      refine q_aload_n hX rfl dX3_between_64 65 rfl ?_
      refine gf_X3_46 hX dX3_between_65 68 rfl ?_
      refine q_iload hX rfl dX3_between_68 70 rfl ?_
      obtain ⟨g_3, h⟩ := h
      refine q_iald hX g_3 dX3_between_70 71 rfl ?_
      obtain ⟨g_4, h⟩ := h
      refine q_iald hX g_4 dX3_between_71 72 rfl ?_
      exact q_weak [true, true, true, true, true, true, true, true, false] rfl (sn_X3_between_72 hX  a0 a1 a2 a3  x5 x6 x7 (mem 75 (mem 85 x7.toNatClampNeg).toNatClampNeg) Q K31 hK31 mem h)
    · replace h := h.2 c_2
      refine q_aload_n hX rfl dX3_between_45 46 rfl ?_
      refine gf_X3_13 hX dX3_between_46 49 rfl ?_
      refine q_aload_n hX rfl dX3_between_49 50 rfl ?_
      refine gf_X3_46 hX dX3_between_50 53 rfl ?_
      refine q_iload hX rfl dX3_between_53 55 rfl ?_
      obtain ⟨g_5, h⟩ := h
      refine q_iald hX g_5 dX3_between_55 56 rfl ?_
      obtain ⟨g_6, h⟩ := h
      refine q_iald hX g_6 dX3_between_56 57 rfl ?_
      refine q_goto hX dX3_between_57 72 (by decide) ?_
      exact q_weak [true, true, true, true, true, true, true, true, false] rfl (sn_X3_between_72 hX  a0 a1 a2 a3  x5 x6 x7 (mem 74 (mem 85 x7.toNatClampNeg).toNatClampNeg) Q K31 hK31 mem h)
set_option maxRecDepth 100000 in
set_option maxHeartbeats 4000000 in
theorem sn_X3_between_31 {X : q_X} {G : q_G} (hX : q_C X cX3_between 9 RX3 (some .int) 1 22) (a0 : Int32) (a1 : Int32) (a2 : Int32) (a3 : Int32)  (x5 : Int32) (x6 : Int32) (x7 : Int32) (Q : Int32 → q_Mem → Prop)  (mem : q_Mem) (h : wp_X3_between_31  a0 a1 a2 a3 x5 x6 x7 mem Q) : q_J X G 9 (q_QI X G Q) 31 [some (.ref (q_ad G 72)), some (.int a0), some (.int a1), some (.int a2), some (.int a3), some (.int x5), some (.int x6), some (.int x7), none] [] mem := by
  obtain ⟨I, ⟨n, h0⟩, hs⟩ := h
  have key : ∀ (n : Nat) (yx5 : Int32) (yx6 : Int32) (yx7 : Int32) (ymem : q_Mem), I n yx5 yx6 yx7 ymem → q_J X G 9 (q_QI X G Q) 31 [some (.ref (q_ad G 72)), some (.int a0), some (.int a1), some (.int a2), some (.int a3), some (.int yx5), some (.int yx6), some (.int yx7), none] [] ymem := by
    intro n
    induction n using Nat.strongRecOn with
    | ind n ih =>
      intro yx5 yx6 yx7 ymem hI
      exact sn_X3_between_31_b hX  a0 a1 a2 a3  yx5 yx6 yx7 Q  (fun (zx5 : Int32) (zx6 : Int32) (zx7 : Int32) (zmem : q_Mem) => ∃ n2, n2 < n ∧ I n2 zx5 zx6 zx7 zmem) (fun zx5 zx6 zx7 zmem hz => by obtain ⟨n2, h1, h2⟩ := hz; exact ih n2 h1 zx5 zx6 zx7 zmem h2) ymem (hs n yx5 yx6 yx7 ymem hI)
  exact key n x5 x6 x7 mem h0
set_option maxRecDepth 100000 in
set_option maxHeartbeats 4000000 in
theorem sn_X3_between_0 {X : q_X} {G : q_G} (hX : q_C X cX3_between 9 RX3 (some .int) 1 22) (a0 : Int32) (a1 : Int32) (a2 : Int32) (a3 : Int32)   (Q : Int32 → q_Mem → Prop)  (mem : q_Mem) (h : wp_X3_between  a0 a1 a2 a3  mem Q) : q_J X G 9 (q_QI X G Q) 0 [some (.ref (q_ad G 72)), some (.int a0), some (.int a1), some (.int a2), some (.int a3), none, none, none, none] [] mem := by
  unfold wp_X3_between at h
  refine q_iload_n hX rfl dX3_between_0 1 rfl ?_
  refine q_if_eq hX dX3_between_1 4 12 rfl (by decide) (fun c_1 => ?_) (fun c_1 => ?_)
  · replace h := h.1 c_1
    exact q_weak [true, true, true, true, true, false, false, false, false] rfl (sn_X3_between_12 hX  a0 a1 a2 a3   Q  mem h)
  · replace h := h.2 c_1
    refine q_iload_n hX rfl dX3_between_4 5 rfl ?_
    refine q_aload_n hX rfl dX3_between_5 6 rfl ?_
    refine gf_X3_74 hX dX3_between_6 9 rfl ?_
    refine q_icmp_ne hX dX3_between_9 12 22 rfl (by decide) (fun c_2 => ?_) (fun c_2 => ?_)
    · replace h := h.1 c_2
      refine q_iconst hX (1 : Int32) q_ki_1 dX3_between_22 23 rfl ?_
      refine q_istore hX dX3_between_23 25 rfl (Nat.le_of_ble_eq_true rfl) rfl (fun y => [some (.ref (q_ad G 72)), some (.int a0), some (.int a1), some (.int a2), some (.int a3), some (.int y), none, none, none]) (fun _ => rfl) (fun x5_3 ex5_3 => ?_)
      replace ex5_3 := ex5_3.symm; subst ex5_3
      refine q_iconst hX (2 : Int32) q_ki_2 dX3_between_25 26 rfl ?_
      refine q_istore hX dX3_between_26 28 rfl (Nat.le_of_ble_eq_true rfl) rfl (fun y => [some (.ref (q_ad G 72)), some (.int a0), some (.int a1), some (.int a2), some (.int a3), some (.int (1 : Int32)), some (.int y), none, none]) (fun _ => rfl) (fun x6_4 ex6_4 => ?_)
      replace ex6_4 := ex6_4.symm; subst ex6_4
      refine q_iconst hX (0 : Int32) q_ki_0 dX3_between_28 29 rfl ?_
      refine q_istore hX dX3_between_29 31 rfl (Nat.le_of_ble_eq_true rfl) rfl (fun y => [some (.ref (q_ad G 72)), some (.int a0), some (.int a1), some (.int a2), some (.int a3), some (.int (1 : Int32)), some (.int (2 : Int32)), some (.int y), none]) (fun _ => rfl) (fun x7_5 ex7_5 => ?_)
      replace ex7_5 := ex7_5.symm; subst ex7_5
      exact q_weak [true, true, true, true, true, true, true, true, false] rfl (sn_X3_between_31 hX  a0 a1 a2 a3  (1 : Int32) (2 : Int32) (0 : Int32) Q  mem h)
    · replace h := h.2 c_2
      exact q_weak [true, true, true, true, true, false, false, false, false] rfl (sn_X3_between_12 hX  a0 a1 a2 a3   Q  mem h)
set_option maxRecDepth 100000 in
set_option maxHeartbeats 4000000 in
theorem sn_X3_between {l : Launch} {G : q_G} (a0 : Int32) (a1 : Int32) (a2 : Int32) (a3 : Int32)  (mem : q_Mem) (Q : Int32 → q_Mem → Prop) (h : wp_X3_between a0 a1 a2 a3 mem Q) : q_MI l G yX3_between cX3_between 9 (some .int) rm_X3_between [.ref (q_ad G 72), .int a0, .int a1, .int a2, .int a3] mem Q := by
  refine q_metI 4 (by decide +kernel) (Nat.le_of_ble_eq_true rfl) rfl (fun X hl hX => ?_)
  subst hl
  exact sn_X3_between_0 hX a0 a1 a2 a3  Q mem h

-- X3_saturation
def wp_X3_saturation_14  (a0 : Int32) (s2 : Int32) (s1 : Int32) (mem : q_Mem) (Q : Int32 → q_Mem → Prop) : Prop := Q (s1 + (s2 * a0)) mem
def wp_X3_saturation  (a0 : Int32)  (mem : q_Mem) (Q : Int32 → q_Mem → Prop) : Prop := ((0 ≤ a0) → wp_X3_saturation_14  a0 (40 : Int32) (600 : Int32) mem Q) ∧ ((¬ 0 ≤ a0) → wp_X3_saturation_14  a0 (20 : Int32) (600 : Int32) mem Q)
set_option maxRecDepth 100000 in
set_option maxHeartbeats 4000000 in
theorem sn_X3_saturation_14 {X : q_X} {G : q_G} (hX : q_C X cX3_saturation 1 RX3 (some .int) 0 0) (a0 : Int32)  (s2 : Int32) (s1 : Int32) (Q : Int32 → q_Mem → Prop)  (mem : q_Mem) (h : wp_X3_saturation_14  a0 s2 s1 mem Q) : q_J X G 1 (q_QI X G Q) 14 [some (.int a0)] [.int s2, .int s1] mem := by
  unfold wp_X3_saturation_14 at h
  refine q_iload_n hX rfl dX3_saturation_14 15 rfl ?_
  refine q_imul hX dX3_saturation_15 16 rfl ?_
  refine q_iadd hX dX3_saturation_16 17 rfl ?_
  exact q_iret hX dX3_saturation_17 h
set_option maxRecDepth 100000 in
set_option maxHeartbeats 4000000 in
theorem sn_X3_saturation_0 {X : q_X} {G : q_G} (hX : q_C X cX3_saturation 1 RX3 (some .int) 0 0) (a0 : Int32)   (Q : Int32 → q_Mem → Prop)  (mem : q_Mem) (h : wp_X3_saturation  a0  mem Q) : q_J X G 1 (q_QI X G Q) 0 [some (.int a0)] [] mem := by
  unfold wp_X3_saturation at h
  refine q_sipush hX (600 : Int32) q_ks_600 dX3_saturation_0 3 rfl ?_
  refine q_iload_n hX rfl dX3_saturation_3 4 rfl ?_
  refine q_if_ge hX dX3_saturation_4 7 12 rfl (by decide) (fun c_1 => ?_) (fun c_1 => ?_)
  · replace h := h.1 c_1
    refine q_bipush hX (40 : Int32) q_kb_40 dX3_saturation_12 14 rfl ?_
    exact q_weak [true] rfl (sn_X3_saturation_14 hX  a0  (40 : Int32) (600 : Int32) Q  mem h)
  · replace h := h.2 c_1
    refine q_bipush hX (20 : Int32) q_kb_20 dX3_saturation_7 9 rfl ?_
    refine q_goto hX dX3_saturation_9 14 (by decide) ?_
    exact q_weak [true] rfl (sn_X3_saturation_14 hX  a0  (20 : Int32) (600 : Int32) Q  mem h)
set_option maxRecDepth 100000 in
set_option maxHeartbeats 4000000 in
theorem sn_X3_saturation {l : Launch} {G : q_G} (a0 : Int32)  (mem : q_Mem) (Q : Int32 → q_Mem → Prop) (h : wp_X3_saturation a0 mem Q) : q_MI l G yX3_saturation cX3_saturation 1 (some .int) rm_X3_saturation [.int a0] mem Q := by
  refine q_metI 0 (by decide +kernel) (Nat.le_of_ble_eq_true rfl) rfl (fun X hl hX => ?_)
  subst hl
  exact sn_X3_saturation_0 hX a0  Q mem h

-- X3_pressureOf
def wp_X3_pressureOf  (a0 : Int32) (a1 : Int32)  (mem : q_Mem) (Q : Int32 → q_Mem → Prop) : Prop := vp_in ((5 : Int32) * a0) (q_al 83) ∧ (vp_in (((5 : Int32) * a0) + (1 : Int32)) (q_al 83) ∧ (wp_X3_saturation (mem 83 (((5 : Int32) * a0) + (1 : Int32)).toNatClampNeg) mem (fun r_3 m_4 => ∀ x3_5 : Int32, x3_5 = (((mem 83 ((5 : Int32) * a0).toNatClampNeg) * r_3) / (1000 : Int32)) → vp_in (((5 : Int32) * a0) + (3 : Int32)) (q_al 83) ∧ (vp_in (((5 : Int32) * a0) + (4 : Int32)) (q_al 83) ∧ (wp_X3_saturation (m_4 83 (((5 : Int32) * a0) + (4 : Int32)).toNatClampNeg) m_4 (fun r_8 m_9 => ∀ x4_10 : Int32, x4_10 = (((m_4 83 (((5 : Int32) * a0) + (3 : Int32)).toNatClampNeg) * r_8) / (1000 : Int32)) → wp_X3_between x3_5 x4_10 a1 (1 : Int32) m_9 (fun r_11 m_12 => Q r_11 m_12)))))))
set_option maxRecDepth 100000 in
set_option maxHeartbeats 4000000 in
theorem sn_X3_pressureOf_0 {X : q_X} {G : q_G} (hX : q_C X cX3_pressureOf 5 RX3 (some .int) 2 50) (a0 : Int32) (a1 : Int32)   (Q : Int32 → q_Mem → Prop)  (mem : q_Mem) (h : wp_X3_pressureOf  a0 a1  mem Q) : q_J X G 5 (q_QI X G Q) 0 [some (.ref (q_ad G 72)), some (.int a0), some (.int a1), none, none] [] mem := by
  unfold wp_X3_pressureOf at h
  refine q_aload_n hX rfl dX3_pressureOf_0 1 rfl ?_
  refine gf_X3_40 hX dX3_pressureOf_1 4 rfl ?_
  refine q_iconst hX (5 : Int32) q_ki_5 dX3_pressureOf_4 5 rfl ?_
  refine q_iload_n hX rfl dX3_pressureOf_5 6 rfl ?_
  refine q_imul hX dX3_pressureOf_6 7 rfl ?_
  obtain ⟨g_1, h⟩ := h
  refine q_iald hX g_1 dX3_pressureOf_7 8 rfl ?_
  refine q_aload_n hX rfl dX3_pressureOf_8 9 rfl ?_
  refine gf_X3_40 hX dX3_pressureOf_9 12 rfl ?_
  refine q_iconst hX (5 : Int32) q_ki_5 dX3_pressureOf_12 13 rfl ?_
  refine q_iload_n hX rfl dX3_pressureOf_13 14 rfl ?_
  refine q_imul hX dX3_pressureOf_14 15 rfl ?_
  refine q_iconst hX (1 : Int32) q_ki_1 dX3_pressureOf_15 16 rfl ?_
  refine q_iadd hX dX3_pressureOf_16 17 rfl ?_
  obtain ⟨g_2, h⟩ := h
  refine q_iald hX g_2 dX3_pressureOf_17 18 rfl ?_
  refine cl_X3_138 hX  ⟨Nat.le_of_ble_eq_true rfl, Nat.le_of_ble_eq_true rfl⟩ (Nat.le_of_ble_eq_true rfl) dX3_pressureOf_18 21 rfl (sn_X3_saturation (mem 83 (((5 : Int32) * a0) + (1 : Int32)).toNatClampNeg)  mem _ h) (fun r_3 m_4 h => ?_)
  refine q_imul hX dX3_pressureOf_21 22 rfl ?_
  refine q_sipush hX (1000 : Int32) q_ks_1000 dX3_pressureOf_22 25 rfl ?_
  refine q_idiv hX (by decide) dX3_pressureOf_25 26 rfl ?_
  refine q_istore_n hX dX3_pressureOf_26 27 rfl (Nat.le_of_ble_eq_true rfl) rfl (fun y => [some (.ref (q_ad G 72)), some (.int a0), some (.int a1), some (.int y), none]) (fun _ => rfl) (fun x3_5 ex3_5 => ?_)
  replace h := h x3_5 ex3_5
  refine q_aload_n hX rfl dX3_pressureOf_27 28 rfl ?_
  refine gf_X3_40 hX dX3_pressureOf_28 31 rfl ?_
  refine q_iconst hX (5 : Int32) q_ki_5 dX3_pressureOf_31 32 rfl ?_
  refine q_iload_n hX rfl dX3_pressureOf_32 33 rfl ?_
  refine q_imul hX dX3_pressureOf_33 34 rfl ?_
  refine q_iconst hX (3 : Int32) q_ki_3 dX3_pressureOf_34 35 rfl ?_
  refine q_iadd hX dX3_pressureOf_35 36 rfl ?_
  obtain ⟨g_6, h⟩ := h
  refine q_iald hX g_6 dX3_pressureOf_36 37 rfl ?_
  refine q_aload_n hX rfl dX3_pressureOf_37 38 rfl ?_
  refine gf_X3_40 hX dX3_pressureOf_38 41 rfl ?_
  refine q_iconst hX (5 : Int32) q_ki_5 dX3_pressureOf_41 42 rfl ?_
  refine q_iload_n hX rfl dX3_pressureOf_42 43 rfl ?_
  refine q_imul hX dX3_pressureOf_43 44 rfl ?_
  refine q_iconst hX (4 : Int32) q_ki_4 dX3_pressureOf_44 45 rfl ?_
  refine q_iadd hX dX3_pressureOf_45 46 rfl ?_
  obtain ⟨g_7, h⟩ := h
  refine q_iald hX g_7 dX3_pressureOf_46 47 rfl ?_
  refine cl_X3_138 hX  ⟨Nat.le_of_ble_eq_true rfl, Nat.le_of_ble_eq_true rfl⟩ (Nat.le_of_ble_eq_true rfl) dX3_pressureOf_47 50 rfl (sn_X3_saturation (m_4 83 (((5 : Int32) * a0) + (4 : Int32)).toNatClampNeg)  m_4 _ h) (fun r_8 m_9 h => ?_)
  refine q_imul hX dX3_pressureOf_50 51 rfl ?_
  refine q_sipush hX (1000 : Int32) q_ks_1000 dX3_pressureOf_51 54 rfl ?_
  refine q_idiv hX (by decide) dX3_pressureOf_54 55 rfl ?_
  refine q_istore hX dX3_pressureOf_55 57 rfl (Nat.le_of_ble_eq_true rfl) rfl (fun y => [some (.ref (q_ad G 72)), some (.int a0), some (.int a1), some (.int x3_5), some (.int y)]) (fun _ => rfl) (fun x4_10 ex4_10 => ?_)
  replace h := h x4_10 ex4_10
  refine q_aload_n hX rfl dX3_pressureOf_57 58 rfl ?_
  refine q_iload_n hX rfl dX3_pressureOf_58 59 rfl ?_
  refine q_iload hX rfl dX3_pressureOf_59 61 rfl ?_
  refine q_iload_n hX rfl dX3_pressureOf_61 62 rfl ?_
  refine q_iconst hX (1 : Int32) q_ki_1 dX3_pressureOf_62 63 rfl ?_
  refine cl_X3_141 hX  ⟨Nat.le_of_ble_eq_true rfl, Nat.le_of_ble_eq_true rfl⟩ (Nat.le_of_ble_eq_true rfl) dX3_pressureOf_63 66 rfl (sn_X3_between x3_5 x4_10 a1 (1 : Int32)  m_9 _ h) (fun r_11 m_12 h => ?_)
  exact q_iret hX dX3_pressureOf_66 h
set_option maxRecDepth 100000 in
set_option maxHeartbeats 4000000 in
theorem sn_X3_pressureOf {l : Launch} {G : q_G} (a0 : Int32) (a1 : Int32)  (mem : q_Mem) (Q : Int32 → q_Mem → Prop) (h : wp_X3_pressureOf a0 a1 mem Q) : q_MI l G yX3_pressureOf cX3_pressureOf 5 (some .int) rm_X3_pressureOf [.ref (q_ad G 72), .int a0, .int a1] mem Q := by
  refine q_metI 2 (by decide +kernel) (Nat.le_of_ble_eq_true rfl) rfl (fun X hl hX => ?_)
  subst hl
  exact sn_X3_pressureOf_0 hX a0 a1  Q mem h

-- X3_warmthOf
def wp_X3_warmthOf  (a0 : Int32) (a1 : Int32)  (mem : q_Mem) (Q : Int32 → q_Mem → Prop) : Prop := vp_in (((5 : Int32) * a0) + (1 : Int32)) (q_al 83) ∧ (vp_in (((5 : Int32) * a0) + (4 : Int32)) (q_al 83) ∧ (wp_X3_between (mem 83 (((5 : Int32) * a0) + (1 : Int32)).toNatClampNeg) (mem 83 (((5 : Int32) * a0) + (4 : Int32)).toNatClampNeg) a1 (0 : Int32) mem (fun r_3 m_4 => Q r_3 m_4)))
set_option maxRecDepth 100000 in
set_option maxHeartbeats 4000000 in
theorem sn_X3_warmthOf_0 {X : q_X} {G : q_G} (hX : q_C X cX3_warmthOf 3 RX3 (some .int) 2 50) (a0 : Int32) (a1 : Int32)   (Q : Int32 → q_Mem → Prop)  (mem : q_Mem) (h : wp_X3_warmthOf  a0 a1  mem Q) : q_J X G 3 (q_QI X G Q) 0 [some (.ref (q_ad G 72)), some (.int a0), some (.int a1)] [] mem := by
  unfold wp_X3_warmthOf at h
  refine q_aload_n hX rfl dX3_warmthOf_0 1 rfl ?_
  refine q_aload_n hX rfl dX3_warmthOf_1 2 rfl ?_
  refine gf_X3_40 hX dX3_warmthOf_2 5 rfl ?_
  refine q_iconst hX (5 : Int32) q_ki_5 dX3_warmthOf_5 6 rfl ?_
  refine q_iload_n hX rfl dX3_warmthOf_6 7 rfl ?_
  refine q_imul hX dX3_warmthOf_7 8 rfl ?_
  refine q_iconst hX (1 : Int32) q_ki_1 dX3_warmthOf_8 9 rfl ?_
  refine q_iadd hX dX3_warmthOf_9 10 rfl ?_
  obtain ⟨g_1, h⟩ := h
  refine q_iald hX g_1 dX3_warmthOf_10 11 rfl ?_
  refine q_aload_n hX rfl dX3_warmthOf_11 12 rfl ?_
  refine gf_X3_40 hX dX3_warmthOf_12 15 rfl ?_
  refine q_iconst hX (5 : Int32) q_ki_5 dX3_warmthOf_15 16 rfl ?_
  refine q_iload_n hX rfl dX3_warmthOf_16 17 rfl ?_
  refine q_imul hX dX3_warmthOf_17 18 rfl ?_
  refine q_iconst hX (4 : Int32) q_ki_4 dX3_warmthOf_18 19 rfl ?_
  refine q_iadd hX dX3_warmthOf_19 20 rfl ?_
  obtain ⟨g_2, h⟩ := h
  refine q_iald hX g_2 dX3_warmthOf_20 21 rfl ?_
  refine q_iload_n hX rfl dX3_warmthOf_21 22 rfl ?_
  refine q_iconst hX (0 : Int32) q_ki_0 dX3_warmthOf_22 23 rfl ?_
  refine cl_X3_141 hX  ⟨Nat.le_of_ble_eq_true rfl, Nat.le_of_ble_eq_true rfl⟩ (Nat.le_of_ble_eq_true rfl) dX3_warmthOf_23 26 rfl (sn_X3_between (mem 83 (((5 : Int32) * a0) + (1 : Int32)).toNatClampNeg) (mem 83 (((5 : Int32) * a0) + (4 : Int32)).toNatClampNeg) a1 (0 : Int32)  mem _ h) (fun r_3 m_4 h => ?_)
  exact q_iret hX dX3_warmthOf_26 h
set_option maxRecDepth 100000 in
set_option maxHeartbeats 4000000 in
theorem sn_X3_warmthOf {l : Launch} {G : q_G} (a0 : Int32) (a1 : Int32)  (mem : q_Mem) (Q : Int32 → q_Mem → Prop) (h : wp_X3_warmthOf a0 a1 mem Q) : q_MI l G yX3_warmthOf cX3_warmthOf 3 (some .int) rm_X3_warmthOf [.ref (q_ad G 72), .int a0, .int a1] mem Q := by
  refine q_metI 0 (by decide +kernel) (Nat.le_of_ble_eq_true rfl) rfl (fun X hl hX => ?_)
  subst hl
  exact sn_X3_warmthOf_0 hX a0 a1  Q mem h

-- X3_excessOf
def wp_X3_excessOf  (a0 : Int32) (a1 : Int32)  (mem : q_Mem) (Q : Int32 → q_Mem → Prop) : Prop := wp_X3_pressureOf a0 a1 mem (fun r_1 m_2 => wp_X3_warmthOf a0 a1 m_2 (fun r_3 m_4 => wp_X3_saturation r_3 m_4 (fun r_5 m_6 => ∀ x3_7 : Int32, x3_7 = (r_1 - r_5) → ((x3_7 ≤ 0) → Q (0 : Int32) m_6) ∧ ((¬ x3_7 ≤ 0) → Q x3_7 m_6))))
set_option maxRecDepth 100000 in
set_option maxHeartbeats 4000000 in
theorem sn_X3_excessOf_0 {X : q_X} {G : q_G} (hX : q_C X cX3_excessOf 4 RX3 (some .int) 3 74) (a0 : Int32) (a1 : Int32)   (Q : Int32 → q_Mem → Prop)  (mem : q_Mem) (h : wp_X3_excessOf  a0 a1  mem Q) : q_J X G 4 (q_QI X G Q) 0 [some (.ref (q_ad G 72)), some (.int a0), some (.int a1), none] [] mem := by
  unfold wp_X3_excessOf at h
  refine q_aload_n hX rfl dX3_excessOf_0 1 rfl ?_
  refine q_iload_n hX rfl dX3_excessOf_1 2 rfl ?_
  refine q_iload_n hX rfl dX3_excessOf_2 3 rfl ?_
  refine cl_X3_145 hX  ⟨Nat.le_of_ble_eq_true rfl, Nat.le_of_ble_eq_true rfl⟩ (Nat.le_of_ble_eq_true rfl) dX3_excessOf_3 6 rfl (sn_X3_pressureOf a0 a1  mem _ h) (fun r_1 m_2 h => ?_)
  refine q_aload_n hX rfl dX3_excessOf_6 7 rfl ?_
  refine q_iload_n hX rfl dX3_excessOf_7 8 rfl ?_
  refine q_iload_n hX rfl dX3_excessOf_8 9 rfl ?_
  refine cl_X3_148 hX  ⟨Nat.le_of_ble_eq_true rfl, Nat.le_of_ble_eq_true rfl⟩ (Nat.le_of_ble_eq_true rfl) dX3_excessOf_9 12 rfl (sn_X3_warmthOf a0 a1  m_2 _ h) (fun r_3 m_4 h => ?_)
  refine cl_X3_138 hX  ⟨Nat.le_of_ble_eq_true rfl, Nat.le_of_ble_eq_true rfl⟩ (Nat.le_of_ble_eq_true rfl) dX3_excessOf_12 15 rfl (sn_X3_saturation r_3  m_4 _ h) (fun r_5 m_6 h => ?_)
  refine q_isub hX dX3_excessOf_15 16 rfl ?_
  refine q_istore_n hX dX3_excessOf_16 17 rfl (Nat.le_of_ble_eq_true rfl) rfl (fun y => [some (.ref (q_ad G 72)), some (.int a0), some (.int a1), some (.int y)]) (fun _ => rfl) (fun x3_7 ex3_7 => ?_)
  replace h := h x3_7 ex3_7
  refine q_iload_n hX rfl dX3_excessOf_17 18 rfl ?_
  refine q_if_le hX dX3_excessOf_18 21 25 rfl (by decide) (fun c_8 => ?_) (fun c_8 => ?_)
  · replace h := h.1 c_8
    refine q_iconst hX (0 : Int32) q_ki_0 dX3_excessOf_25 26 rfl ?_
    exact q_iret hX dX3_excessOf_26 h
  · replace h := h.2 c_8
    refine q_iload_n hX rfl dX3_excessOf_21 22 rfl ?_
    refine q_goto hX dX3_excessOf_22 26 (by decide) ?_
    exact q_iret hX dX3_excessOf_26 h
set_option maxRecDepth 100000 in
set_option maxHeartbeats 4000000 in
theorem sn_X3_excessOf {l : Launch} {G : q_G} (a0 : Int32) (a1 : Int32)  (mem : q_Mem) (Q : Int32 → q_Mem → Prop) (h : wp_X3_excessOf a0 a1 mem Q) : q_MI l G yX3_excessOf cX3_excessOf 4 (some .int) rm_X3_excessOf [.ref (q_ad G 72), .int a0, .int a1] mem Q := by
  refine q_metI 1 (by decide +kernel) (Nat.le_of_ble_eq_true rfl) rfl (fun X hl hX => ?_)
  subst hl
  exact sn_X3_excessOf_0 hX a0 a1  Q mem h

-- X3_swap
def wp_X3_swap  (a0 : Int32) (a1 : Int32)  (mem : q_Mem) (Q : q_Mem → Prop) : Prop := vp_in a0 (q_al 85) ∧ (∀ x3_2 : Int32, x3_2 = (mem 85 a0.toNatClampNeg) → vp_in a1 (q_al 85) ∧ (vp_in a0 (q_al 85) ∧ (∀ m_5 : q_Mem, m_5 = q_set mem 85 (upd (mem 85) a0.toNatClampNeg (mem 85 a1.toNatClampNeg)) → vp_in a1 (q_al 85) ∧ (∀ m_7 : q_Mem, m_7 = q_set m_5 85 (upd (m_5 85) a1.toNatClampNeg x3_2) → Q m_7))))
set_option maxRecDepth 100000 in
set_option maxHeartbeats 4000000 in
theorem sn_X3_swap_0 {X : q_X} {G : q_G} (hX : q_C X cX3_swap 4 RX3 none 0 0) (a0 : Int32) (a1 : Int32)   (Q : q_Mem → Prop)  (mem : q_Mem) (h : wp_X3_swap  a0 a1  mem Q) : q_J X G 4 (q_QV X G Q) 0 [some (.ref (q_ad G 72)), some (.int a0), some (.int a1), none] [] mem := by
  unfold wp_X3_swap at h
  refine q_aload_n hX rfl dX3_swap_0 1 rfl ?_
  refine gf_X3_46 hX dX3_swap_1 4 rfl ?_
  refine q_iload_n hX rfl dX3_swap_4 5 rfl ?_
  obtain ⟨g_1, h⟩ := h
  refine q_iald hX g_1 dX3_swap_5 6 rfl ?_
  refine q_istore_n hX dX3_swap_6 7 rfl (Nat.le_of_ble_eq_true rfl) rfl (fun y => [some (.ref (q_ad G 72)), some (.int a0), some (.int a1), some (.int y)]) (fun _ => rfl) (fun x3_2 ex3_2 => ?_)
  replace h := h x3_2 ex3_2
  refine q_aload_n hX rfl dX3_swap_7 8 rfl ?_
  refine gf_X3_46 hX dX3_swap_8 11 rfl ?_
  refine q_iload_n hX rfl dX3_swap_11 12 rfl ?_
  refine q_aload_n hX rfl dX3_swap_12 13 rfl ?_
  refine gf_X3_46 hX dX3_swap_13 16 rfl ?_
  refine q_iload_n hX rfl dX3_swap_16 17 rfl ?_
  obtain ⟨g_3, h⟩ := h
  refine q_iald hX g_3 dX3_swap_17 18 rfl ?_
  obtain ⟨g_4, h⟩ := h
  refine q_iast hX g_4 dX3_swap_18 19 rfl (fun m_5 em_5 => ?_)
  replace h := h m_5 em_5
  refine q_aload_n hX rfl dX3_swap_19 20 rfl ?_
  refine gf_X3_46 hX dX3_swap_20 23 rfl ?_
  refine q_iload_n hX rfl dX3_swap_23 24 rfl ?_
  refine q_iload_n hX rfl dX3_swap_24 25 rfl ?_
  obtain ⟨g_6, h⟩ := h
  refine q_iast hX g_6 dX3_swap_25 26 rfl (fun m_7 em_7 => ?_)
  replace h := h m_7 em_7
  exact q_vret hX dX3_swap_26 h
set_option maxRecDepth 100000 in
set_option maxHeartbeats 4000000 in
theorem sn_X3_swap {l : Launch} {G : q_G} (a0 : Int32) (a1 : Int32)  (mem : q_Mem) (Q : q_Mem → Prop) (h : wp_X3_swap a0 a1 mem Q) : q_MV l G yX3_swap cX3_swap 4 none rm_X3_swap [.ref (q_ad G 72), .int a0, .int a1] mem Q := by
  refine q_metV 1 (by decide +kernel) (Nat.le_of_ble_eq_true rfl) rfl (fun X hl hX => ?_)
  subst hl
  exact sn_X3_swap_0 hX a0 a1  Q mem h

-- X3_goOnOrder
def wp_X3_goOnOrder_86_b (K86 : Int32 → Int32 → q_Mem → Prop)  (x3 : Int32) (x4 : Int32) (mem : q_Mem) (Q : Int32 → q_Mem → Prop) : Prop := ((x4 ≤ x3) → Q (1 : Int32) mem) ∧ ((¬ x4 ≤ x3) → wp_X3_swap x3 x4 mem (fun m_3 => ∀ x3_4 : Int32, x3_4 = (x3 + (1 : Int32)) → ∀ x4_5 : Int32, x4_5 = (x4 + (-1 : Int32)) → K86 x3_4 x4_5 m_3))
def wp_X3_goOnOrder_86   (x3 : Int32) (x4 : Int32) (mem : q_Mem) (Q : Int32 → q_Mem → Prop) : Prop := ∃ I : Nat → Int32 → Int32 → q_Mem → Prop, (∃ n, I n x3 x4 mem) ∧ ∀ (n : Nat) (yx3 : Int32) (yx4 : Int32) (ymem : q_Mem), I n yx3 yx4 ymem → wp_X3_goOnOrder_86_b  (fun (zx3 : Int32) (zx4 : Int32) (zmem : q_Mem) => ∃ n2, n2 < n ∧ I n2 zx3 zx4 zmem)  yx3 yx4 ymem Q
def wp_X3_goOnOrder_68   (x1 : Int32) (x2 : Int32) (mem : q_Mem) (Q : Int32 → q_Mem → Prop) : Prop := wp_X3_swap x1 x2 mem (fun m_2 => ∀ x3_3 : Int32, x3_3 = (x1 + (1 : Int32)) → ∀ x4_4 : Int32, x4_4 = ((m_2 72 0) - (1 : Int32)) → wp_X3_goOnOrder_86   x3_3 x4_4 m_2 Q)
def wp_X3_goOnOrder_47_b (K47 : Int32 → q_Mem → Prop)  (x1 : Int32) (x2 : Int32) (mem : q_Mem) (Q : Int32 → q_Mem → Prop) : Prop := vp_in x2 (q_al 85) ∧ (vp_in x1 (q_al 85) ∧ ((((mem 85 x1.toNatClampNeg) ≤ (mem 85 x2.toNatClampNeg)) → wp_X3_goOnOrder_68   x1 x2 mem Q) ∧ ((¬ (mem 85 x1.toNatClampNeg) ≤ (mem 85 x2.toNatClampNeg)) → ∀ x2_4 : Int32, x2_4 = (x2 + (-1 : Int32)) → K47 x2_4 mem)))
def wp_X3_goOnOrder_47   (x1 : Int32) (x2 : Int32) (mem : q_Mem) (Q : Int32 → q_Mem → Prop) : Prop := ∃ I : Nat → Int32 → q_Mem → Prop, (∃ n, I n x2 mem) ∧ ∀ (n : Nat) (yx2 : Int32) (ymem : q_Mem), I n yx2 ymem → wp_X3_goOnOrder_47_b  (fun (zx2 : Int32) (zmem : q_Mem) => ∃ n2, n2 < n ∧ I n2 zx2 zmem)  x1 yx2 ymem Q
def wp_X3_goOnOrder_34   (x1 : Int32) (mem : q_Mem) (Q : Int32 → q_Mem → Prop) : Prop := ((0 ≤ x1) → ∀ x2_2 : Int32, x2_2 = ((mem 72 0) - (1 : Int32)) → wp_X3_goOnOrder_47   x1 x2_2 mem Q) ∧ ((¬ 0 ≤ x1) → Q (0 : Int32) mem)
def wp_X3_goOnOrder_7_b (K7 : Int32 → q_Mem → Prop)  (x1 : Int32) (mem : q_Mem) (Q : Int32 → q_Mem → Prop) : Prop := ((x1 < 0) → wp_X3_goOnOrder_34   x1 mem Q) ∧ ((¬ x1 < 0) → vp_in x1 (q_al 85) ∧ (vp_in (x1 + (1 : Int32)) (q_al 85) ∧ ((((mem 85 x1.toNatClampNeg) ≤ (mem 85 (x1 + (1 : Int32)).toNatClampNeg)) → wp_X3_goOnOrder_34   x1 mem Q) ∧ ((¬ (mem 85 x1.toNatClampNeg) ≤ (mem 85 (x1 + (1 : Int32)).toNatClampNeg)) → ∀ x1_5 : Int32, x1_5 = (x1 + (-1 : Int32)) → K7 x1_5 mem))))
def wp_X3_goOnOrder_7   (x1 : Int32) (mem : q_Mem) (Q : Int32 → q_Mem → Prop) : Prop := ∃ I : Nat → Int32 → q_Mem → Prop, (∃ n, I n x1 mem) ∧ ∀ (n : Nat) (yx1 : Int32) (ymem : q_Mem), I n yx1 ymem → wp_X3_goOnOrder_7_b  (fun (zx1 : Int32) (zmem : q_Mem) => ∃ n2, n2 < n ∧ I n2 zx1 zmem)  yx1 ymem Q
def wp_X3_goOnOrder    (mem : q_Mem) (Q : Int32 → q_Mem → Prop) : Prop := ∀ x1_1 : Int32, x1_1 = ((mem 72 0) - (2 : Int32)) → wp_X3_goOnOrder_7   x1_1 mem Q
set_option maxRecDepth 100000 in
set_option maxHeartbeats 4000000 in
theorem sn_X3_goOnOrder_86_b {X : q_X} {G : q_G} (hX : q_C X cX3_goOnOrder 5 RX3 (some .boolean) 1 23)   (x3 : Int32) (x4 : Int32) (Q : Int32 → q_Mem → Prop) (K86 : Int32 → Int32 → q_Mem → Prop) (hK86 : ∀ (yx3 : Int32) (yx4 : Int32) (ymem : q_Mem), K86 yx3 yx4 ymem → q_J X G 5 (q_QI X G Q) 86 [some (.ref (q_ad G 72)), none, none, some (.int yx3), some (.int yx4)] [] ymem) (mem : q_Mem) (h : wp_X3_goOnOrder_86_b K86  x3 x4 mem Q) : q_J X G 5 (q_QI X G Q) 86 [some (.ref (q_ad G 72)), none, none, some (.int x3), some (.int x4)] [] mem := by
  unfold wp_X3_goOnOrder_86_b at h
  refine q_iload_n hX rfl dX3_goOnOrder_86 87 rfl ?_
  refine q_iload hX rfl dX3_goOnOrder_87 89 rfl ?_
  refine q_icmp_ge hX dX3_goOnOrder_89 92 108 rfl (by decide) (fun c_1 => ?_) (fun c_1 => ?_)
  · replace h := h.1 c_1
    refine q_iconst hX (1 : Int32) q_ki_1 dX3_goOnOrder_108 109 rfl ?_
    exact q_zret hX dX3_goOnOrder_109 (by decide) h
  · replace h := h.2 c_1
    refine q_aload_n hX rfl dX3_goOnOrder_92 93 rfl ?_
    refine q_iload_n hX rfl dX3_goOnOrder_93 94 rfl ?_
    refine q_iload hX rfl dX3_goOnOrder_94 96 rfl ?_
    refine cl_X3_163 hX  ⟨Nat.le_of_ble_eq_true rfl, Nat.le_of_ble_eq_true rfl⟩ (Nat.le_of_ble_eq_true rfl) dX3_goOnOrder_96 99 rfl (sn_X3_swap x3 x4  mem _ h) (fun m_3 h => ?_)
    refine q_iinc hX (1 : Int32) q_ki_1 rfl dX3_goOnOrder_99 102 rfl (Nat.le_of_ble_eq_true rfl) rfl (fun y => [some (.ref (q_ad G 72)), none, none, some (.int y), some (.int x4)]) (fun _ => rfl) (fun x3_4 ex3_4 => ?_)
    replace h := h x3_4 ex3_4
    refine q_iinc hX (-1 : Int32) q_ki_m1 rfl dX3_goOnOrder_102 105 rfl (Nat.le_of_ble_eq_true rfl) rfl (fun y => [some (.ref (q_ad G 72)), none, none, some (.int x3_4), some (.int y)]) (fun _ => rfl) (fun x4_5 ex4_5 => ?_)
    replace h := h x4_5 ex4_5
    refine q_goto hX dX3_goOnOrder_105 86 (by decide) ?_
    exact q_weak [true, false, false, true, true] rfl (hK86 x3_4 x4_5 m_3 h)
set_option maxRecDepth 100000 in
set_option maxHeartbeats 4000000 in
theorem sn_X3_goOnOrder_86 {X : q_X} {G : q_G} (hX : q_C X cX3_goOnOrder 5 RX3 (some .boolean) 1 23)   (x3 : Int32) (x4 : Int32) (Q : Int32 → q_Mem → Prop)  (mem : q_Mem) (h : wp_X3_goOnOrder_86   x3 x4 mem Q) : q_J X G 5 (q_QI X G Q) 86 [some (.ref (q_ad G 72)), none, none, some (.int x3), some (.int x4)] [] mem := by
  obtain ⟨I, ⟨n, h0⟩, hs⟩ := h
  have key : ∀ (n : Nat) (yx3 : Int32) (yx4 : Int32) (ymem : q_Mem), I n yx3 yx4 ymem → q_J X G 5 (q_QI X G Q) 86 [some (.ref (q_ad G 72)), none, none, some (.int yx3), some (.int yx4)] [] ymem := by
    intro n
    induction n using Nat.strongRecOn with
    | ind n ih =>
      intro yx3 yx4 ymem hI
      exact sn_X3_goOnOrder_86_b hX    yx3 yx4 Q  (fun (zx3 : Int32) (zx4 : Int32) (zmem : q_Mem) => ∃ n2, n2 < n ∧ I n2 zx3 zx4 zmem) (fun zx3 zx4 zmem hz => by obtain ⟨n2, h1, h2⟩ := hz; exact ih n2 h1 zx3 zx4 zmem h2) ymem (hs n yx3 yx4 ymem hI)
  exact key n x3 x4 mem h0
set_option maxRecDepth 100000 in
set_option maxHeartbeats 4000000 in
theorem sn_X3_goOnOrder_68 {X : q_X} {G : q_G} (hX : q_C X cX3_goOnOrder 5 RX3 (some .boolean) 1 23)   (x1 : Int32) (x2 : Int32) (Q : Int32 → q_Mem → Prop)  (mem : q_Mem) (h : wp_X3_goOnOrder_68   x1 x2 mem Q) : q_J X G 5 (q_QI X G Q) 68 [some (.ref (q_ad G 72)), some (.int x1), some (.int x2), none, none] [] mem := by
  unfold wp_X3_goOnOrder_68 at h
  refine q_aload_n hX rfl dX3_goOnOrder_68 69 rfl ?_
  refine q_iload_n hX rfl dX3_goOnOrder_69 70 rfl ?_
  refine q_iload_n hX rfl dX3_goOnOrder_70 71 rfl ?_
  refine cl_X3_163 hX  ⟨Nat.le_of_ble_eq_true rfl, Nat.le_of_ble_eq_true rfl⟩ (Nat.le_of_ble_eq_true rfl) dX3_goOnOrder_71 74 rfl (sn_X3_swap x1 x2  mem _ h) (fun m_2 h => ?_)
  refine q_iload_n hX rfl dX3_goOnOrder_74 75 rfl ?_
  refine q_iconst hX (1 : Int32) q_ki_1 dX3_goOnOrder_75 76 rfl ?_
  refine q_iadd hX dX3_goOnOrder_76 77 rfl ?_
  refine q_istore_n hX dX3_goOnOrder_77 78 rfl (Nat.le_of_ble_eq_true rfl) rfl (fun y => [some (.ref (q_ad G 72)), some (.int x1), some (.int x2), some (.int y), none]) (fun _ => rfl) (fun x3_3 ex3_3 => ?_)
  replace h := h x3_3 ex3_3
  refine q_aload_n hX rfl dX3_goOnOrder_78 79 rfl ?_
  refine gf_X3_74 hX dX3_goOnOrder_79 82 rfl ?_
  refine q_iconst hX (1 : Int32) q_ki_1 dX3_goOnOrder_82 83 rfl ?_
  refine q_isub hX dX3_goOnOrder_83 84 rfl ?_
  refine q_istore hX dX3_goOnOrder_84 86 rfl (Nat.le_of_ble_eq_true rfl) rfl (fun y => [some (.ref (q_ad G 72)), some (.int x1), some (.int x2), some (.int x3_3), some (.int y)]) (fun _ => rfl) (fun x4_4 ex4_4 => ?_)
  replace h := h x4_4 ex4_4
  exact q_weak [true, false, false, true, true] rfl (sn_X3_goOnOrder_86 hX    x3_3 x4_4 Q  m_2 h)
set_option maxRecDepth 100000 in
set_option maxHeartbeats 4000000 in
theorem sn_X3_goOnOrder_47_b {X : q_X} {G : q_G} (hX : q_C X cX3_goOnOrder 5 RX3 (some .boolean) 1 23)   (x1 : Int32) (x2 : Int32) (Q : Int32 → q_Mem → Prop) (K47 : Int32 → q_Mem → Prop) (hK47 : ∀ (yx2 : Int32) (ymem : q_Mem), K47 yx2 ymem → q_J X G 5 (q_QI X G Q) 47 [some (.ref (q_ad G 72)), some (.int x1), some (.int yx2), none, none] [] ymem) (mem : q_Mem) (h : wp_X3_goOnOrder_47_b K47  x1 x2 mem Q) : q_J X G 5 (q_QI X G Q) 47 [some (.ref (q_ad G 72)), some (.int x1), some (.int x2), none, none] [] mem := by
  unfold wp_X3_goOnOrder_47_b at h
  refine q_aload_n hX rfl dX3_goOnOrder_47 48 rfl ?_
  refine gf_X3_46 hX dX3_goOnOrder_48 51 rfl ?_
  refine q_iload_n hX rfl dX3_goOnOrder_51 52 rfl ?_
  obtain ⟨g_1, h⟩ := h
  refine q_iald hX g_1 dX3_goOnOrder_52 53 rfl ?_
  refine q_aload_n hX rfl dX3_goOnOrder_53 54 rfl ?_
  refine gf_X3_46 hX dX3_goOnOrder_54 57 rfl ?_
  refine q_iload_n hX rfl dX3_goOnOrder_57 58 rfl ?_
  obtain ⟨g_2, h⟩ := h
  refine q_iald hX g_2 dX3_goOnOrder_58 59 rfl ?_
  refine q_icmp_ge hX dX3_goOnOrder_59 62 68 rfl (by decide) (fun c_3 => ?_) (fun c_3 => ?_)
  · replace h := h.1 c_3
    exact q_weak [true, true, true, false, false] rfl (sn_X3_goOnOrder_68 hX    x1 x2 Q  mem h)
  · replace h := h.2 c_3
    refine q_iinc hX (-1 : Int32) q_ki_m1 rfl dX3_goOnOrder_62 65 rfl (Nat.le_of_ble_eq_true rfl) rfl (fun y => [some (.ref (q_ad G 72)), some (.int x1), some (.int y), none, none]) (fun _ => rfl) (fun x2_4 ex2_4 => ?_)
    replace h := h x2_4 ex2_4
    refine q_goto hX dX3_goOnOrder_65 47 (by decide) ?_
    exact q_weak [true, true, true, false, false] rfl (hK47 x2_4 mem h)
set_option maxRecDepth 100000 in
set_option maxHeartbeats 4000000 in
theorem sn_X3_goOnOrder_47 {X : q_X} {G : q_G} (hX : q_C X cX3_goOnOrder 5 RX3 (some .boolean) 1 23)   (x1 : Int32) (x2 : Int32) (Q : Int32 → q_Mem → Prop)  (mem : q_Mem) (h : wp_X3_goOnOrder_47   x1 x2 mem Q) : q_J X G 5 (q_QI X G Q) 47 [some (.ref (q_ad G 72)), some (.int x1), some (.int x2), none, none] [] mem := by
  obtain ⟨I, ⟨n, h0⟩, hs⟩ := h
  have key : ∀ (n : Nat) (yx2 : Int32) (ymem : q_Mem), I n yx2 ymem → q_J X G 5 (q_QI X G Q) 47 [some (.ref (q_ad G 72)), some (.int x1), some (.int yx2), none, none] [] ymem := by
    intro n
    induction n using Nat.strongRecOn with
    | ind n ih =>
      intro yx2 ymem hI
      exact sn_X3_goOnOrder_47_b hX    x1 yx2 Q  (fun (zx2 : Int32) (zmem : q_Mem) => ∃ n2, n2 < n ∧ I n2 zx2 zmem) (fun zx2 zmem hz => by obtain ⟨n2, h1, h2⟩ := hz; exact ih n2 h1 zx2 zmem h2) ymem (hs n yx2 ymem hI)
  exact key n x2 mem h0
set_option maxRecDepth 100000 in
set_option maxHeartbeats 4000000 in
theorem sn_X3_goOnOrder_34 {X : q_X} {G : q_G} (hX : q_C X cX3_goOnOrder 5 RX3 (some .boolean) 1 23)   (x1 : Int32) (Q : Int32 → q_Mem → Prop)  (mem : q_Mem) (h : wp_X3_goOnOrder_34   x1 mem Q) : q_J X G 5 (q_QI X G Q) 34 [some (.ref (q_ad G 72)), some (.int x1), none, none, none] [] mem := by
  unfold wp_X3_goOnOrder_34 at h
  refine q_iload_n hX rfl dX3_goOnOrder_34 35 rfl ?_
  refine q_if_ge hX dX3_goOnOrder_35 38 40 rfl (by decide) (fun c_1 => ?_) (fun c_1 => ?_)
  · replace h := h.1 c_1
    refine q_aload_n hX rfl dX3_goOnOrder_40 41 rfl ?_
    refine gf_X3_74 hX dX3_goOnOrder_41 44 rfl ?_
    refine q_iconst hX (1 : Int32) q_ki_1 dX3_goOnOrder_44 45 rfl ?_
    refine q_isub hX dX3_goOnOrder_45 46 rfl ?_
    refine q_istore_n hX dX3_goOnOrder_46 47 rfl (Nat.le_of_ble_eq_true rfl) rfl (fun y => [some (.ref (q_ad G 72)), some (.int x1), some (.int y), none, none]) (fun _ => rfl) (fun x2_2 ex2_2 => ?_)
    replace h := h x2_2 ex2_2
    exact q_weak [true, true, true, false, false] rfl (sn_X3_goOnOrder_47 hX    x1 x2_2 Q  mem h)
  · replace h := h.2 c_1
    refine q_iconst hX (0 : Int32) q_ki_0 dX3_goOnOrder_38 39 rfl ?_
    exact q_zret hX dX3_goOnOrder_39 (by decide) h
set_option maxRecDepth 100000 in
set_option maxHeartbeats 4000000 in
theorem sn_X3_goOnOrder_7_b {X : q_X} {G : q_G} (hX : q_C X cX3_goOnOrder 5 RX3 (some .boolean) 1 23)   (x1 : Int32) (Q : Int32 → q_Mem → Prop) (K7 : Int32 → q_Mem → Prop) (hK7 : ∀ (yx1 : Int32) (ymem : q_Mem), K7 yx1 ymem → q_J X G 5 (q_QI X G Q) 7 [some (.ref (q_ad G 72)), some (.int yx1), none, none, none] [] ymem) (mem : q_Mem) (h : wp_X3_goOnOrder_7_b K7  x1 mem Q) : q_J X G 5 (q_QI X G Q) 7 [some (.ref (q_ad G 72)), some (.int x1), none, none, none] [] mem := by
  unfold wp_X3_goOnOrder_7_b at h
  refine q_iload_n hX rfl dX3_goOnOrder_7 8 rfl ?_
  refine q_if_lt hX dX3_goOnOrder_8 11 34 rfl (by decide) (fun c_1 => ?_) (fun c_1 => ?_)
  · replace h := h.1 c_1
    exact q_weak [true, true, false, false, false] rfl (sn_X3_goOnOrder_34 hX    x1 Q  mem h)
  · replace h := h.2 c_1
    refine q_aload_n hX rfl dX3_goOnOrder_11 12 rfl ?_
    refine gf_X3_46 hX dX3_goOnOrder_12 15 rfl ?_
    refine q_iload_n hX rfl dX3_goOnOrder_15 16 rfl ?_
    obtain ⟨g_2, h⟩ := h
    refine q_iald hX g_2 dX3_goOnOrder_16 17 rfl ?_
    refine q_aload_n hX rfl dX3_goOnOrder_17 18 rfl ?_
    refine gf_X3_46 hX dX3_goOnOrder_18 21 rfl ?_
    refine q_iload_n hX rfl dX3_goOnOrder_21 22 rfl ?_
    refine q_iconst hX (1 : Int32) q_ki_1 dX3_goOnOrder_22 23 rfl ?_
    refine q_iadd hX dX3_goOnOrder_23 24 rfl ?_
    obtain ⟨g_3, h⟩ := h
    refine q_iald hX g_3 dX3_goOnOrder_24 25 rfl ?_
    refine q_icmp_le hX dX3_goOnOrder_25 28 34 rfl (by decide) (fun c_4 => ?_) (fun c_4 => ?_)
    · replace h := h.1 c_4
      exact q_weak [true, true, false, false, false] rfl (sn_X3_goOnOrder_34 hX    x1 Q  mem h)
    · replace h := h.2 c_4
      refine q_iinc hX (-1 : Int32) q_ki_m1 rfl dX3_goOnOrder_28 31 rfl (Nat.le_of_ble_eq_true rfl) rfl (fun y => [some (.ref (q_ad G 72)), some (.int y), none, none, none]) (fun _ => rfl) (fun x1_5 ex1_5 => ?_)
      replace h := h x1_5 ex1_5
      refine q_goto hX dX3_goOnOrder_31 7 (by decide) ?_
      exact q_weak [true, true, false, false, false] rfl (hK7 x1_5 mem h)
set_option maxRecDepth 100000 in
set_option maxHeartbeats 4000000 in
theorem sn_X3_goOnOrder_7 {X : q_X} {G : q_G} (hX : q_C X cX3_goOnOrder 5 RX3 (some .boolean) 1 23)   (x1 : Int32) (Q : Int32 → q_Mem → Prop)  (mem : q_Mem) (h : wp_X3_goOnOrder_7   x1 mem Q) : q_J X G 5 (q_QI X G Q) 7 [some (.ref (q_ad G 72)), some (.int x1), none, none, none] [] mem := by
  obtain ⟨I, ⟨n, h0⟩, hs⟩ := h
  have key : ∀ (n : Nat) (yx1 : Int32) (ymem : q_Mem), I n yx1 ymem → q_J X G 5 (q_QI X G Q) 7 [some (.ref (q_ad G 72)), some (.int yx1), none, none, none] [] ymem := by
    intro n
    induction n using Nat.strongRecOn with
    | ind n ih =>
      intro yx1 ymem hI
      exact sn_X3_goOnOrder_7_b hX    yx1 Q  (fun (zx1 : Int32) (zmem : q_Mem) => ∃ n2, n2 < n ∧ I n2 zx1 zmem) (fun zx1 zmem hz => by obtain ⟨n2, h1, h2⟩ := hz; exact ih n2 h1 zx1 zmem h2) ymem (hs n yx1 ymem hI)
  exact key n x1 mem h0
set_option maxRecDepth 100000 in
set_option maxHeartbeats 4000000 in
theorem sn_X3_goOnOrder_0 {X : q_X} {G : q_G} (hX : q_C X cX3_goOnOrder 5 RX3 (some .boolean) 1 23)    (Q : Int32 → q_Mem → Prop)  (mem : q_Mem) (h : wp_X3_goOnOrder    mem Q) : q_J X G 5 (q_QI X G Q) 0 [some (.ref (q_ad G 72)), none, none, none, none] [] mem := by
  unfold wp_X3_goOnOrder at h
  refine q_aload_n hX rfl dX3_goOnOrder_0 1 rfl ?_
  refine gf_X3_74 hX dX3_goOnOrder_1 4 rfl ?_
  refine q_iconst hX (2 : Int32) q_ki_2 dX3_goOnOrder_4 5 rfl ?_
  refine q_isub hX dX3_goOnOrder_5 6 rfl ?_
  refine q_istore_n hX dX3_goOnOrder_6 7 rfl (Nat.le_of_ble_eq_true rfl) rfl (fun y => [some (.ref (q_ad G 72)), some (.int y), none, none, none]) (fun _ => rfl) (fun x1_1 ex1_1 => ?_)
  replace h := h x1_1 ex1_1
  exact q_weak [true, true, false, false, false] rfl (sn_X3_goOnOrder_7 hX    x1_1 Q  mem h)
set_option maxRecDepth 100000 in
set_option maxHeartbeats 4000000 in
theorem sn_X3_goOnOrder {l : Launch} {G : q_G}   (mem : q_Mem) (Q : Int32 → q_Mem → Prop) (h : wp_X3_goOnOrder  mem Q) : q_MI l G yX3_goOnOrder cX3_goOnOrder 5 (some .boolean) rm_X3_goOnOrder [.ref (q_ad G 72)] mem Q := by
  refine q_metI 4 (by decide +kernel) (Nat.le_of_ble_eq_true rfl) rfl (fun X hl hX => ?_)
  subst hl
  exact sn_X3_goOnOrder_0 hX   Q mem h

-- X3_plain
def wp_X3_plain_2_b (K2 : Int32 → q_Mem → Prop)  (x1 : Int32) (mem : q_Mem) (Q : q_Mem → Prop) : Prop := (((mem 72 0) ≤ x1) → Q mem) ∧ ((¬ (mem 72 0) ≤ x1) → vp_in x1 (q_al 85) ∧ (∀ m_3 : q_Mem, m_3 = q_set mem 85 (upd (mem 85) x1.toNatClampNeg x1) → ∀ x1_4 : Int32, x1_4 = (x1 + (1 : Int32)) → K2 x1_4 m_3))
def wp_X3_plain_2   (x1 : Int32) (mem : q_Mem) (Q : q_Mem → Prop) : Prop := ∃ I : Nat → Int32 → q_Mem → Prop, (∃ n, I n x1 mem) ∧ ∀ (n : Nat) (yx1 : Int32) (ymem : q_Mem), I n yx1 ymem → wp_X3_plain_2_b  (fun (zx1 : Int32) (zmem : q_Mem) => ∃ n2, n2 < n ∧ I n2 zx1 zmem)  yx1 ymem Q
def wp_X3_plain    (mem : q_Mem) (Q : q_Mem → Prop) : Prop := wp_X3_plain_2   (0 : Int32) mem Q
set_option maxRecDepth 100000 in
set_option maxHeartbeats 4000000 in
theorem sn_X3_plain_2_b {X : q_X} {G : q_G} (hX : q_C X cX3_plain 2 RX3 none 0 0)   (x1 : Int32) (Q : q_Mem → Prop) (K2 : Int32 → q_Mem → Prop) (hK2 : ∀ (yx1 : Int32) (ymem : q_Mem), K2 yx1 ymem → q_J X G 2 (q_QV X G Q) 2 [some (.ref (q_ad G 72)), some (.int yx1)] [] ymem) (mem : q_Mem) (h : wp_X3_plain_2_b K2  x1 mem Q) : q_J X G 2 (q_QV X G Q) 2 [some (.ref (q_ad G 72)), some (.int x1)] [] mem := by
  unfold wp_X3_plain_2_b at h
  refine q_iload_n hX rfl dX3_plain_2 3 rfl ?_
  refine q_aload_n hX rfl dX3_plain_3 4 rfl ?_
  refine gf_X3_74 hX dX3_plain_4 7 rfl ?_
  refine q_icmp_ge hX dX3_plain_7 10 23 rfl (by decide) (fun c_1 => ?_) (fun c_1 => ?_)
  · replace h := h.1 c_1
    exact q_vret hX dX3_plain_23 h
  · replace h := h.2 c_1
    refine q_aload_n hX rfl dX3_plain_10 11 rfl ?_
    refine gf_X3_46 hX dX3_plain_11 14 rfl ?_
    refine q_iload_n hX rfl dX3_plain_14 15 rfl ?_
    refine q_iload_n hX rfl dX3_plain_15 16 rfl ?_
    obtain ⟨g_2, h⟩ := h
    refine q_iast hX g_2 dX3_plain_16 17 rfl (fun m_3 em_3 => ?_)
    replace h := h m_3 em_3
    refine q_iinc hX (1 : Int32) q_ki_1 rfl dX3_plain_17 20 rfl (Nat.le_of_ble_eq_true rfl) rfl (fun y => [some (.ref (q_ad G 72)), some (.int y)]) (fun _ => rfl) (fun x1_4 ex1_4 => ?_)
    replace h := h x1_4 ex1_4
    refine q_goto hX dX3_plain_20 2 (by decide) ?_
    exact q_weak [true, true] rfl (hK2 x1_4 m_3 h)
set_option maxRecDepth 100000 in
set_option maxHeartbeats 4000000 in
theorem sn_X3_plain_2 {X : q_X} {G : q_G} (hX : q_C X cX3_plain 2 RX3 none 0 0)   (x1 : Int32) (Q : q_Mem → Prop)  (mem : q_Mem) (h : wp_X3_plain_2   x1 mem Q) : q_J X G 2 (q_QV X G Q) 2 [some (.ref (q_ad G 72)), some (.int x1)] [] mem := by
  obtain ⟨I, ⟨n, h0⟩, hs⟩ := h
  have key : ∀ (n : Nat) (yx1 : Int32) (ymem : q_Mem), I n yx1 ymem → q_J X G 2 (q_QV X G Q) 2 [some (.ref (q_ad G 72)), some (.int yx1)] [] ymem := by
    intro n
    induction n using Nat.strongRecOn with
    | ind n ih =>
      intro yx1 ymem hI
      exact sn_X3_plain_2_b hX    yx1 Q  (fun (zx1 : Int32) (zmem : q_Mem) => ∃ n2, n2 < n ∧ I n2 zx1 zmem) (fun zx1 zmem hz => by obtain ⟨n2, h1, h2⟩ := hz; exact ih n2 h1 zx1 zmem h2) ymem (hs n yx1 ymem hI)
  exact key n x1 mem h0
set_option maxRecDepth 100000 in
set_option maxHeartbeats 4000000 in
theorem sn_X3_plain_0 {X : q_X} {G : q_G} (hX : q_C X cX3_plain 2 RX3 none 0 0)    (Q : q_Mem → Prop)  (mem : q_Mem) (h : wp_X3_plain    mem Q) : q_J X G 2 (q_QV X G Q) 0 [some (.ref (q_ad G 72)), none] [] mem := by
  unfold wp_X3_plain at h
  refine q_iconst hX (0 : Int32) q_ki_0 dX3_plain_0 1 rfl ?_
  refine q_istore_n hX dX3_plain_1 2 rfl (Nat.le_of_ble_eq_true rfl) rfl (fun y => [some (.ref (q_ad G 72)), some (.int y)]) (fun _ => rfl) (fun x1_1 ex1_1 => ?_)
  replace ex1_1 := ex1_1.symm; subst ex1_1
  exact q_weak [true, true] rfl (sn_X3_plain_2 hX    (0 : Int32) Q  mem h)
set_option maxRecDepth 100000 in
set_option maxHeartbeats 4000000 in
theorem sn_X3_plain {l : Launch} {G : q_G}   (mem : q_Mem) (Q : q_Mem → Prop) (h : wp_X3_plain  mem Q) : q_MV l G yX3_plain cX3_plain 2 none rm_X3_plain [.ref (q_ad G 72)] mem Q := by
  refine q_metV 1 (by decide +kernel) (Nat.le_of_ble_eq_true rfl) rfl (fun X hl hX => ?_)
  subst hl
  exact sn_X3_plain_0 hX   Q mem h

-- X3_findBest
def wp_X3_findBest_99  (a0 : Int32) (x2 : Int32) (mem : q_Mem) (Q : Int32 → q_Mem → Prop) : Prop := Q x2 mem
def wp_X3_findBest_91 (K8 : Int32 → Int32 → q_Mem → Prop) (a0 : Int32) (x2 : Int32) (mem : q_Mem) (Q : Int32 → q_Mem → Prop) : Prop := wp_X3_goOnOrder  mem (fun r_1 m_2 => K8 x2 r_1 m_2)
def wp_X3_findBest_62_b (K8 : Int32 → Int32 → q_Mem → Prop) (K62 : Int32 → q_Mem → Prop) (a0 : Int32) (x2 : Int32) (x5 : Int32) (mem : q_Mem) (Q : Int32 → q_Mem → Prop) : Prop := (((mem 72 0) ≤ x5) → wp_X3_findBest_91 K8 a0 x2 mem Q) ∧ ((¬ (mem 72 0) ≤ x5) → vp_in x5 (q_al 85) ∧ (vp_in x5 (q_al 86) ∧ (∀ m_4 : q_Mem, m_4 = q_set mem 86 (upd (mem 86) x5.toNatClampNeg (mem 85 x5.toNatClampNeg)) → ∀ x5_5 : Int32, x5_5 = (x5 + (1 : Int32)) → K62 x5_5 m_4)))
def wp_X3_findBest_62 (K8 : Int32 → Int32 → q_Mem → Prop) (a0 : Int32) (x2 : Int32) (x5 : Int32) (mem : q_Mem) (Q : Int32 → q_Mem → Prop) : Prop := ∃ I : Nat → Int32 → q_Mem → Prop, (∃ n, I n x5 mem) ∧ ∀ (n : Nat) (yx5 : Int32) (ymem : q_Mem), I n yx5 ymem → wp_X3_findBest_62_b K8 (fun (zx5 : Int32) (zmem : q_Mem) => ∃ n2, n2 < n ∧ I n2 zx5 zmem) a0 x2 yx5 ymem Q
def wp_X3_findBest_56 (K8 : Int32 → Int32 → q_Mem → Prop) (a0 : Int32) (x4 : Int32) (mem : q_Mem) (Q : Int32 → q_Mem → Prop) : Prop := wp_X3_findBest_62 K8 a0 x4 (0 : Int32) mem Q
def wp_X3_findBest_45 (K8 : Int32 → Int32 → q_Mem → Prop) (a0 : Int32) (x2 : Int32) (x4 : Int32) (mem : q_Mem) (Q : Int32 → q_Mem → Prop) : Prop := ((x2 = (-1 : Int32)) → wp_X3_findBest_56 K8 a0 x4 mem Q) ∧ ((¬ x2 = (-1 : Int32)) → ((x2 ≤ x4) → wp_X3_findBest_91 K8 a0 x2 mem Q) ∧ ((¬ x2 ≤ x4) → wp_X3_findBest_56 K8 a0 x4 mem Q))
def wp_X3_findBest_18_b (K8 : Int32 → Int32 → q_Mem → Prop) (K18 : Int32 → Int32 → q_Mem → Prop) (a0 : Int32) (x2 : Int32) (x4 : Int32) (x5 : Int32) (mem : q_Mem) (Q : Int32 → q_Mem → Prop) : Prop := (((mem 72 0) ≤ x5) → wp_X3_findBest_45 K8 a0 x2 x4 mem Q) ∧ ((¬ (mem 72 0) ≤ x5) → wp_X3_excessOf a0 x5 mem (fun r_2 m_3 => ∀ x4_4 : Int32, x4_4 = (x4 + r_2) → ∀ x5_5 : Int32, x5_5 = (x5 + (1 : Int32)) → K18 x4_4 x5_5 m_3))
def wp_X3_findBest_18 (K8 : Int32 → Int32 → q_Mem → Prop) (a0 : Int32) (x2 : Int32) (x4 : Int32) (x5 : Int32) (mem : q_Mem) (Q : Int32 → q_Mem → Prop) : Prop := ∃ I : Nat → Int32 → Int32 → q_Mem → Prop, (∃ n, I n x4 x5 mem) ∧ ∀ (n : Nat) (yx4 : Int32) (yx5 : Int32) (ymem : q_Mem), I n yx4 yx5 ymem → wp_X3_findBest_18_b K8 (fun (zx4 : Int32) (zx5 : Int32) (zmem : q_Mem) => ∃ n2, n2 < n ∧ I n2 zx4 zx5 zmem) a0 x2 yx4 yx5 ymem Q
def wp_X3_findBest_8_b (K8 : Int32 → Int32 → q_Mem → Prop) (a0 : Int32) (x2 : Int32) (x3 : Int32) (mem : q_Mem) (Q : Int32 → q_Mem → Prop) : Prop := ((x3 = 0) → wp_X3_findBest_99  a0 x2 mem Q) ∧ ((¬ x3 = 0) → wp_X3_findBest_18 K8 a0 x2 (0 : Int32) (1 : Int32) mem Q)
def wp_X3_findBest_8  (a0 : Int32) (x2 : Int32) (x3 : Int32) (mem : q_Mem) (Q : Int32 → q_Mem → Prop) : Prop := ∃ I : Nat → Int32 → Int32 → q_Mem → Prop, (∃ n, I n x2 x3 mem) ∧ ∀ (n : Nat) (yx2 : Int32) (yx3 : Int32) (ymem : q_Mem), I n yx2 yx3 ymem → wp_X3_findBest_8_b  (fun (zx2 : Int32) (zx3 : Int32) (zmem : q_Mem) => ∃ n2, n2 < n ∧ I n2 zx2 zx3 zmem) a0 yx2 yx3 ymem Q
def wp_X3_findBest  (a0 : Int32)  (mem : q_Mem) (Q : Int32 → q_Mem → Prop) : Prop := wp_X3_plain  mem (fun m_2 => wp_X3_findBest_8  a0 (-1 : Int32) (1 : Int32) m_2 Q)
set_option maxRecDepth 100000 in
set_option maxHeartbeats 4000000 in
theorem sn_X3_findBest_99 {X : q_X} {G : q_G} (hX : q_C X cX3_findBest 6 RX3 (some .int) 4 97) (a0 : Int32)  (x2 : Int32) (Q : Int32 → q_Mem → Prop)  (mem : q_Mem) (h : wp_X3_findBest_99  a0 x2 mem Q) : q_J X G 6 (q_QI X G Q) 99 [some (.ref (q_ad G 72)), some (.int a0), some (.int x2), none, none, none] [] mem := by
  unfold wp_X3_findBest_99 at h
  refine q_iload_n hX rfl dX3_findBest_99 100 rfl ?_
  exact q_iret hX dX3_findBest_100 h
set_option maxRecDepth 100000 in
set_option maxHeartbeats 4000000 in
theorem sn_X3_findBest_91 {X : q_X} {G : q_G} (hX : q_C X cX3_findBest 6 RX3 (some .int) 4 97) (a0 : Int32)  (x2 : Int32) (Q : Int32 → q_Mem → Prop) (K8 : Int32 → Int32 → q_Mem → Prop) (hK8 : ∀ (yx2 : Int32) (yx3 : Int32) (ymem : q_Mem), K8 yx2 yx3 ymem → q_J X G 6 (q_QI X G Q) 8 [some (.ref (q_ad G 72)), some (.int a0), some (.int yx2), some (.int yx3), none, none] [] ymem) (mem : q_Mem) (h : wp_X3_findBest_91 K8 a0 x2 mem Q) : q_J X G 6 (q_QI X G Q) 91 [some (.ref (q_ad G 72)), some (.int a0), some (.int x2), none, none, none] [] mem := by
  unfold wp_X3_findBest_91 at h
  refine q_aload_n hX rfl dX3_findBest_91 92 rfl ?_
  refine cl_X3_166 hX  ⟨Nat.le_of_ble_eq_true rfl, Nat.le_of_ble_eq_true rfl⟩ (Nat.le_of_ble_eq_true rfl) dX3_findBest_92 95 rfl (sn_X3_goOnOrder   mem _ h) (fun r_1 m_2 h => ?_)
  refine q_istore_n hX dX3_findBest_95 96 rfl (Nat.le_of_ble_eq_true rfl) rfl (fun y => [some (.ref (q_ad G 72)), some (.int a0), some (.int x2), some (.int y), none, none]) (fun _ => rfl) (fun x3_3 ex3_3 => ?_)
  replace ex3_3 := ex3_3.symm; subst ex3_3
  refine q_goto hX dX3_findBest_96 8 (by decide) ?_
  exact q_weak [true, true, true, true, false, false] rfl (hK8 x2 r_1 m_2 h)
set_option maxRecDepth 100000 in
set_option maxHeartbeats 4000000 in
theorem sn_X3_findBest_62_b {X : q_X} {G : q_G} (hX : q_C X cX3_findBest 6 RX3 (some .int) 4 97) (a0 : Int32)  (x2 : Int32) (x5 : Int32) (Q : Int32 → q_Mem → Prop) (K8 : Int32 → Int32 → q_Mem → Prop) (hK8 : ∀ (yx2 : Int32) (yx3 : Int32) (ymem : q_Mem), K8 yx2 yx3 ymem → q_J X G 6 (q_QI X G Q) 8 [some (.ref (q_ad G 72)), some (.int a0), some (.int yx2), some (.int yx3), none, none] [] ymem) (K62 : Int32 → q_Mem → Prop) (hK62 : ∀ (yx5 : Int32) (ymem : q_Mem), K62 yx5 ymem → q_J X G 6 (q_QI X G Q) 62 [some (.ref (q_ad G 72)), some (.int a0), some (.int x2), none, none, some (.int yx5)] [] ymem) (mem : q_Mem) (h : wp_X3_findBest_62_b K8 K62 a0 x2 x5 mem Q) : q_J X G 6 (q_QI X G Q) 62 [some (.ref (q_ad G 72)), some (.int a0), some (.int x2), none, none, some (.int x5)] [] mem := by
  unfold wp_X3_findBest_62_b at h
  refine q_iload hX rfl dX3_findBest_62 64 rfl ?_
  refine q_aload_n hX rfl dX3_findBest_64 65 rfl ?_
  refine gf_X3_74 hX dX3_findBest_65 68 rfl ?_
  refine q_icmp_ge hX dX3_findBest_68 71 91 rfl (by decide) (fun c_1 => ?_) (fun c_1 => ?_)
  · replace h := h.1 c_1
    exact q_weak [true, true, true, false, false, false] rfl (sn_X3_findBest_91 hX  a0  x2 Q K8 hK8 mem h)
  · replace h := h.2 c_1
    refine q_aload_n hX rfl dX3_findBest_71 72 rfl ?_
    refine gf_X3_49 hX dX3_findBest_72 75 rfl ?_
    refine q_iload hX rfl dX3_findBest_75 77 rfl ?_
    refine q_aload_n hX rfl dX3_findBest_77 78 rfl ?_
    refine gf_X3_46 hX dX3_findBest_78 81 rfl ?_
    refine q_iload hX rfl dX3_findBest_81 83 rfl ?_
    obtain ⟨g_2, h⟩ := h
    refine q_iald hX g_2 dX3_findBest_83 84 rfl ?_
    obtain ⟨g_3, h⟩ := h
    refine q_iast hX g_3 dX3_findBest_84 85 rfl (fun m_4 em_4 => ?_)
    replace h := h m_4 em_4
    refine q_iinc hX (1 : Int32) q_ki_1 rfl dX3_findBest_85 88 rfl (Nat.le_of_ble_eq_true rfl) rfl (fun y => [some (.ref (q_ad G 72)), some (.int a0), some (.int x2), none, none, some (.int y)]) (fun _ => rfl) (fun x5_5 ex5_5 => ?_)
    replace h := h x5_5 ex5_5
    refine q_goto hX dX3_findBest_88 62 (by decide) ?_
    exact q_weak [true, true, true, false, false, true] rfl (hK62 x5_5 m_4 h)
set_option maxRecDepth 100000 in
set_option maxHeartbeats 4000000 in
theorem sn_X3_findBest_62 {X : q_X} {G : q_G} (hX : q_C X cX3_findBest 6 RX3 (some .int) 4 97) (a0 : Int32)  (x2 : Int32) (x5 : Int32) (Q : Int32 → q_Mem → Prop) (K8 : Int32 → Int32 → q_Mem → Prop) (hK8 : ∀ (yx2 : Int32) (yx3 : Int32) (ymem : q_Mem), K8 yx2 yx3 ymem → q_J X G 6 (q_QI X G Q) 8 [some (.ref (q_ad G 72)), some (.int a0), some (.int yx2), some (.int yx3), none, none] [] ymem) (mem : q_Mem) (h : wp_X3_findBest_62 K8 a0 x2 x5 mem Q) : q_J X G 6 (q_QI X G Q) 62 [some (.ref (q_ad G 72)), some (.int a0), some (.int x2), none, none, some (.int x5)] [] mem := by
  obtain ⟨I, ⟨n, h0⟩, hs⟩ := h
  have key : ∀ (n : Nat) (yx5 : Int32) (ymem : q_Mem), I n yx5 ymem → q_J X G 6 (q_QI X G Q) 62 [some (.ref (q_ad G 72)), some (.int a0), some (.int x2), none, none, some (.int yx5)] [] ymem := by
    intro n
    induction n using Nat.strongRecOn with
    | ind n ih =>
      intro yx5 ymem hI
      exact sn_X3_findBest_62_b hX  a0  x2 yx5 Q K8 hK8 (fun (zx5 : Int32) (zmem : q_Mem) => ∃ n2, n2 < n ∧ I n2 zx5 zmem) (fun zx5 zmem hz => by obtain ⟨n2, h1, h2⟩ := hz; exact ih n2 h1 zx5 zmem h2) ymem (hs n yx5 ymem hI)
  exact key n x5 mem h0
set_option maxRecDepth 100000 in
set_option maxHeartbeats 4000000 in
theorem sn_X3_findBest_56 {X : q_X} {G : q_G} (hX : q_C X cX3_findBest 6 RX3 (some .int) 4 97) (a0 : Int32)  (x4 : Int32) (Q : Int32 → q_Mem → Prop) (K8 : Int32 → Int32 → q_Mem → Prop) (hK8 : ∀ (yx2 : Int32) (yx3 : Int32) (ymem : q_Mem), K8 yx2 yx3 ymem → q_J X G 6 (q_QI X G Q) 8 [some (.ref (q_ad G 72)), some (.int a0), some (.int yx2), some (.int yx3), none, none] [] ymem) (mem : q_Mem) (h : wp_X3_findBest_56 K8 a0 x4 mem Q) : q_J X G 6 (q_QI X G Q) 56 [some (.ref (q_ad G 72)), some (.int a0), none, none, some (.int x4), none] [] mem := by
  unfold wp_X3_findBest_56 at h
  refine q_iload hX rfl dX3_findBest_56 58 rfl ?_
  refine q_istore_n hX dX3_findBest_58 59 rfl (Nat.le_of_ble_eq_true rfl) rfl (fun y => [some (.ref (q_ad G 72)), some (.int a0), some (.int y), none, some (.int x4), none]) (fun _ => rfl) (fun x2_1 ex2_1 => ?_)
  replace ex2_1 := ex2_1.symm; subst ex2_1
  refine q_iconst hX (0 : Int32) q_ki_0 dX3_findBest_59 60 rfl ?_
  refine q_istore hX dX3_findBest_60 62 rfl (Nat.le_of_ble_eq_true rfl) rfl (fun y => [some (.ref (q_ad G 72)), some (.int a0), some (.int x4), none, some (.int x4), some (.int y)]) (fun _ => rfl) (fun x5_2 ex5_2 => ?_)
  replace ex5_2 := ex5_2.symm; subst ex5_2
  exact q_weak [true, true, true, false, false, true] rfl (sn_X3_findBest_62 hX  a0  x4 (0 : Int32) Q K8 hK8 mem h)
set_option maxRecDepth 100000 in
set_option maxHeartbeats 4000000 in
theorem sn_X3_findBest_45 {X : q_X} {G : q_G} (hX : q_C X cX3_findBest 6 RX3 (some .int) 4 97) (a0 : Int32)  (x2 : Int32) (x4 : Int32) (Q : Int32 → q_Mem → Prop) (K8 : Int32 → Int32 → q_Mem → Prop) (hK8 : ∀ (yx2 : Int32) (yx3 : Int32) (ymem : q_Mem), K8 yx2 yx3 ymem → q_J X G 6 (q_QI X G Q) 8 [some (.ref (q_ad G 72)), some (.int a0), some (.int yx2), some (.int yx3), none, none] [] ymem) (mem : q_Mem) (h : wp_X3_findBest_45 K8 a0 x2 x4 mem Q) : q_J X G 6 (q_QI X G Q) 45 [some (.ref (q_ad G 72)), some (.int a0), some (.int x2), none, some (.int x4), none] [] mem := by
  unfold wp_X3_findBest_45 at h
  refine q_iload_n hX rfl dX3_findBest_45 46 rfl ?_
  refine q_iconst hX (-1 : Int32) q_ki_m1 dX3_findBest_46 47 rfl ?_
  refine q_icmp_eq hX dX3_findBest_47 50 56 rfl (by decide) (fun c_1 => ?_) (fun c_1 => ?_)
  · replace h := h.1 c_1
    exact q_weak [true, true, false, false, true, false] rfl (sn_X3_findBest_56 hX  a0  x4 Q K8 hK8 mem h)
  · replace h := h.2 c_1
    refine q_iload hX rfl dX3_findBest_50 52 rfl ?_
    refine q_iload_n hX rfl dX3_findBest_52 53 rfl ?_
    refine q_icmp_ge hX dX3_findBest_53 56 91 rfl (by decide) (fun c_2 => ?_) (fun c_2 => ?_)
    · replace h := h.1 c_2
      exact q_weak [true, true, true, false, false, false] rfl (sn_X3_findBest_91 hX  a0  x2 Q K8 hK8 mem h)
    · replace h := h.2 c_2
      exact q_weak [true, true, false, false, true, false] rfl (sn_X3_findBest_56 hX  a0  x4 Q K8 hK8 mem h)
set_option maxRecDepth 100000 in
set_option maxHeartbeats 4000000 in
theorem sn_X3_findBest_18_b {X : q_X} {G : q_G} (hX : q_C X cX3_findBest 6 RX3 (some .int) 4 97) (a0 : Int32)  (x2 : Int32) (x4 : Int32) (x5 : Int32) (Q : Int32 → q_Mem → Prop) (K8 : Int32 → Int32 → q_Mem → Prop) (hK8 : ∀ (yx2 : Int32) (yx3 : Int32) (ymem : q_Mem), K8 yx2 yx3 ymem → q_J X G 6 (q_QI X G Q) 8 [some (.ref (q_ad G 72)), some (.int a0), some (.int yx2), some (.int yx3), none, none] [] ymem) (K18 : Int32 → Int32 → q_Mem → Prop) (hK18 : ∀ (yx4 : Int32) (yx5 : Int32) (ymem : q_Mem), K18 yx4 yx5 ymem → q_J X G 6 (q_QI X G Q) 18 [some (.ref (q_ad G 72)), some (.int a0), some (.int x2), none, some (.int yx4), some (.int yx5)] [] ymem) (mem : q_Mem) (h : wp_X3_findBest_18_b K8 K18 a0 x2 x4 x5 mem Q) : q_J X G 6 (q_QI X G Q) 18 [some (.ref (q_ad G 72)), some (.int a0), some (.int x2), none, some (.int x4), some (.int x5)] [] mem := by
  unfold wp_X3_findBest_18_b at h
  refine q_iload hX rfl dX3_findBest_18 20 rfl ?_
  refine q_aload_n hX rfl dX3_findBest_20 21 rfl ?_
  refine gf_X3_74 hX dX3_findBest_21 24 rfl ?_
  refine q_icmp_ge hX dX3_findBest_24 27 45 rfl (by decide) (fun c_1 => ?_) (fun c_1 => ?_)
  · replace h := h.1 c_1
    exact q_weak [true, true, true, false, true, false] rfl (sn_X3_findBest_45 hX  a0  x2 x4 Q K8 hK8 mem h)
  · replace h := h.2 c_1
    refine q_iload hX rfl dX3_findBest_27 29 rfl ?_
    refine q_aload_n hX rfl dX3_findBest_29 30 rfl ?_
    refine q_iload_n hX rfl dX3_findBest_30 31 rfl ?_
    refine q_iload hX rfl dX3_findBest_31 33 rfl ?_
    refine cl_X3_160 hX  ⟨Nat.le_of_ble_eq_true rfl, Nat.le_of_ble_eq_true rfl⟩ (Nat.le_of_ble_eq_true rfl) dX3_findBest_33 36 rfl (sn_X3_excessOf a0 x5  mem _ h) (fun r_2 m_3 h => ?_)
    refine q_iadd hX dX3_findBest_36 37 rfl ?_
    refine q_istore hX dX3_findBest_37 39 rfl (Nat.le_of_ble_eq_true rfl) rfl (fun y => [some (.ref (q_ad G 72)), some (.int a0), some (.int x2), none, some (.int y), some (.int x5)]) (fun _ => rfl) (fun x4_4 ex4_4 => ?_)
    replace h := h x4_4 ex4_4
    refine q_iinc hX (1 : Int32) q_ki_1 rfl dX3_findBest_39 42 rfl (Nat.le_of_ble_eq_true rfl) rfl (fun y => [some (.ref (q_ad G 72)), some (.int a0), some (.int x2), none, some (.int x4_4), some (.int y)]) (fun _ => rfl) (fun x5_5 ex5_5 => ?_)
    replace h := h x5_5 ex5_5
    refine q_goto hX dX3_findBest_42 18 (by decide) ?_
    exact q_weak [true, true, true, false, true, true] rfl (hK18 x4_4 x5_5 m_3 h)
set_option maxRecDepth 100000 in
set_option maxHeartbeats 4000000 in
theorem sn_X3_findBest_18 {X : q_X} {G : q_G} (hX : q_C X cX3_findBest 6 RX3 (some .int) 4 97) (a0 : Int32)  (x2 : Int32) (x4 : Int32) (x5 : Int32) (Q : Int32 → q_Mem → Prop) (K8 : Int32 → Int32 → q_Mem → Prop) (hK8 : ∀ (yx2 : Int32) (yx3 : Int32) (ymem : q_Mem), K8 yx2 yx3 ymem → q_J X G 6 (q_QI X G Q) 8 [some (.ref (q_ad G 72)), some (.int a0), some (.int yx2), some (.int yx3), none, none] [] ymem) (mem : q_Mem) (h : wp_X3_findBest_18 K8 a0 x2 x4 x5 mem Q) : q_J X G 6 (q_QI X G Q) 18 [some (.ref (q_ad G 72)), some (.int a0), some (.int x2), none, some (.int x4), some (.int x5)] [] mem := by
  obtain ⟨I, ⟨n, h0⟩, hs⟩ := h
  have key : ∀ (n : Nat) (yx4 : Int32) (yx5 : Int32) (ymem : q_Mem), I n yx4 yx5 ymem → q_J X G 6 (q_QI X G Q) 18 [some (.ref (q_ad G 72)), some (.int a0), some (.int x2), none, some (.int yx4), some (.int yx5)] [] ymem := by
    intro n
    induction n using Nat.strongRecOn with
    | ind n ih =>
      intro yx4 yx5 ymem hI
      exact sn_X3_findBest_18_b hX  a0  x2 yx4 yx5 Q K8 hK8 (fun (zx4 : Int32) (zx5 : Int32) (zmem : q_Mem) => ∃ n2, n2 < n ∧ I n2 zx4 zx5 zmem) (fun zx4 zx5 zmem hz => by obtain ⟨n2, h1, h2⟩ := hz; exact ih n2 h1 zx4 zx5 zmem h2) ymem (hs n yx4 yx5 ymem hI)
  exact key n x4 x5 mem h0
set_option maxRecDepth 100000 in
set_option maxHeartbeats 4000000 in
theorem sn_X3_findBest_8_b {X : q_X} {G : q_G} (hX : q_C X cX3_findBest 6 RX3 (some .int) 4 97) (a0 : Int32)  (x2 : Int32) (x3 : Int32) (Q : Int32 → q_Mem → Prop) (K8 : Int32 → Int32 → q_Mem → Prop) (hK8 : ∀ (yx2 : Int32) (yx3 : Int32) (ymem : q_Mem), K8 yx2 yx3 ymem → q_J X G 6 (q_QI X G Q) 8 [some (.ref (q_ad G 72)), some (.int a0), some (.int yx2), some (.int yx3), none, none] [] ymem) (mem : q_Mem) (h : wp_X3_findBest_8_b K8 a0 x2 x3 mem Q) : q_J X G 6 (q_QI X G Q) 8 [some (.ref (q_ad G 72)), some (.int a0), some (.int x2), some (.int x3), none, none] [] mem := by
  unfold wp_X3_findBest_8_b at h
  refine q_iload_n hX rfl dX3_findBest_8 9 rfl ?_
  refine q_if_eq hX dX3_findBest_9 12 99 rfl (by decide) (fun c_1 => ?_) (fun c_1 => ?_)
  · replace h := h.1 c_1
    exact q_weak [true, true, true, false, false, false] rfl (sn_X3_findBest_99 hX  a0  x2 Q  mem h)
  · replace h := h.2 c_1
    refine q_iconst hX (0 : Int32) q_ki_0 dX3_findBest_12 13 rfl ?_
    refine q_istore hX dX3_findBest_13 15 rfl (Nat.le_of_ble_eq_true rfl) rfl (fun y => [some (.ref (q_ad G 72)), some (.int a0), some (.int x2), some (.int x3), some (.int y), none]) (fun _ => rfl) (fun x4_2 ex4_2 => ?_)
    replace ex4_2 := ex4_2.symm; subst ex4_2
    refine q_iconst hX (1 : Int32) q_ki_1 dX3_findBest_15 16 rfl ?_
    refine q_istore hX dX3_findBest_16 18 rfl (Nat.le_of_ble_eq_true rfl) rfl (fun y => [some (.ref (q_ad G 72)), some (.int a0), some (.int x2), some (.int x3), some (.int (0 : Int32)), some (.int y)]) (fun _ => rfl) (fun x5_3 ex5_3 => ?_)
    replace ex5_3 := ex5_3.symm; subst ex5_3
    exact q_weak [true, true, true, false, true, true] rfl (sn_X3_findBest_18 hX  a0  x2 (0 : Int32) (1 : Int32) Q K8 hK8 mem h)
set_option maxRecDepth 100000 in
set_option maxHeartbeats 4000000 in
theorem sn_X3_findBest_8 {X : q_X} {G : q_G} (hX : q_C X cX3_findBest 6 RX3 (some .int) 4 97) (a0 : Int32)  (x2 : Int32) (x3 : Int32) (Q : Int32 → q_Mem → Prop)  (mem : q_Mem) (h : wp_X3_findBest_8  a0 x2 x3 mem Q) : q_J X G 6 (q_QI X G Q) 8 [some (.ref (q_ad G 72)), some (.int a0), some (.int x2), some (.int x3), none, none] [] mem := by
  obtain ⟨I, ⟨n, h0⟩, hs⟩ := h
  have key : ∀ (n : Nat) (yx2 : Int32) (yx3 : Int32) (ymem : q_Mem), I n yx2 yx3 ymem → q_J X G 6 (q_QI X G Q) 8 [some (.ref (q_ad G 72)), some (.int a0), some (.int yx2), some (.int yx3), none, none] [] ymem := by
    intro n
    induction n using Nat.strongRecOn with
    | ind n ih =>
      intro yx2 yx3 ymem hI
      exact sn_X3_findBest_8_b hX  a0  yx2 yx3 Q  (fun (zx2 : Int32) (zx3 : Int32) (zmem : q_Mem) => ∃ n2, n2 < n ∧ I n2 zx2 zx3 zmem) (fun zx2 zx3 zmem hz => by obtain ⟨n2, h1, h2⟩ := hz; exact ih n2 h1 zx2 zx3 zmem h2) ymem (hs n yx2 yx3 ymem hI)
  exact key n x2 x3 mem h0
set_option maxRecDepth 100000 in
set_option maxHeartbeats 4000000 in
theorem sn_X3_findBest_0 {X : q_X} {G : q_G} (hX : q_C X cX3_findBest 6 RX3 (some .int) 4 97) (a0 : Int32)   (Q : Int32 → q_Mem → Prop)  (mem : q_Mem) (h : wp_X3_findBest  a0  mem Q) : q_J X G 6 (q_QI X G Q) 0 [some (.ref (q_ad G 72)), some (.int a0), none, none, none, none] [] mem := by
  unfold wp_X3_findBest at h
  refine q_aload_n hX rfl dX3_findBest_0 1 rfl ?_
  refine cl_X3_157 hX  ⟨Nat.le_of_ble_eq_true rfl, Nat.le_of_ble_eq_true rfl⟩ (Nat.le_of_ble_eq_true rfl) dX3_findBest_1 4 rfl (sn_X3_plain   mem _ h) (fun m_2 h => ?_)
  refine q_iconst hX (-1 : Int32) q_ki_m1 dX3_findBest_4 5 rfl ?_
  refine q_istore_n hX dX3_findBest_5 6 rfl (Nat.le_of_ble_eq_true rfl) rfl (fun y => [some (.ref (q_ad G 72)), some (.int a0), some (.int y), none, none, none]) (fun _ => rfl) (fun x2_3 ex2_3 => ?_)
  replace ex2_3 := ex2_3.symm; subst ex2_3
  refine q_iconst hX (1 : Int32) q_ki_1 dX3_findBest_6 7 rfl ?_
  refine q_istore_n hX dX3_findBest_7 8 rfl (Nat.le_of_ble_eq_true rfl) rfl (fun y => [some (.ref (q_ad G 72)), some (.int a0), some (.int (-1 : Int32)), some (.int y), none, none]) (fun _ => rfl) (fun x3_4 ex3_4 => ?_)
  replace ex3_4 := ex3_4.symm; subst ex3_4
  exact q_weak [true, true, true, true, false, false] rfl (sn_X3_findBest_8 hX  a0  (-1 : Int32) (1 : Int32) Q  m_2 h)
set_option maxRecDepth 100000 in
set_option maxHeartbeats 4000000 in
theorem sn_X3_findBest {l : Launch} {G : q_G} (a0 : Int32)  (mem : q_Mem) (Q : Int32 → q_Mem → Prop) (h : wp_X3_findBest a0 mem Q) : q_MI l G yX3_findBest cX3_findBest 6 (some .int) rm_X3_findBest [.ref (q_ad G 72), .int a0] mem Q := by
  refine q_metI 4 (by decide +kernel) (Nat.le_of_ble_eq_true rfl) rfl (fun X hl hX => ?_)
  subst hl
  exact sn_X3_findBest_0 hX a0  Q mem h

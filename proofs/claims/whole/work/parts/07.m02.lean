-- X1_tellOf
def wp_X1_tellOf  (b : Nat) (a0 : Int32) (a1 : Int32)  (mem : q_Mem) (Q : Int32 → q_Mem → Prop) : Prop := (a1 = (0 : Int32) → vp_in a0 (q_al (b + 5)) ∧ (Q (mem (b + 5) a0.toNatClampNeg) mem)) ∧ (¬ a1 = (0 : Int32) → (a1 = (1 : Int32) → vp_in a0 (q_al (b + 6)) ∧ (Q (mem (b + 6) a0.toNatClampNeg) mem)) ∧ (¬ a1 = (1 : Int32) → (a1 = (2 : Int32) → vp_in a0 (q_al (b + 7)) ∧ (Q (mem (b + 7) a0.toNatClampNeg) mem)) ∧ (¬ a1 = (2 : Int32) → (a1 = (3 : Int32) → vp_in a0 (q_al (b + 8)) ∧ (Q (mem (b + 8) a0.toNatClampNeg) mem)) ∧ (¬ a1 = (3 : Int32) → (a1 = (4 : Int32) → vp_in a0 (q_al (b + 9)) ∧ (Q (mem (b + 9) a0.toNatClampNeg) mem)) ∧ (¬ a1 = (4 : Int32) → (a1 = (5 : Int32) → wp_X1_dampOf b a0 mem (fun r_12 m_13 => Q r_12 m_13)) ∧ (¬ a1 = (5 : Int32) → (a1 = (6 : Int32) → vp_in a0 (q_al (b + 10)) ∧ (Q (mem (b + 10) a0.toNatClampNeg) mem)) ∧ (¬ a1 = (6 : Int32) → (a1 = (7 : Int32) → vp_in a0 (q_al (b + 11)) ∧ (Q (mem (b + 11) a0.toNatClampNeg) mem)) ∧ (¬ a1 = (7 : Int32) → vp_in a0 (q_al (b + 12)) ∧ (Q (mem (b + 12) a0.toNatClampNeg) mem)))))))))
set_option maxRecDepth 100000 in
set_option maxHeartbeats 4000000 in
theorem sn_X1_tellOf_0 {X : q_X} {G : q_G} (hX : q_C X cX1_tellOf 3 RX1 (some .int) 2 45) (b : Nat) (a0 : Int32) (a1 : Int32) (hb : q_WB b)  (Q : Int32 → q_Mem → Prop)  (mem : q_Mem) (h : wp_X1_tellOf  b a0 a1  mem Q) : q_J X G 3 (q_QI X G Q) 0 [some (.ref (q_ad G b)), some (.int a0), some (.int a1)] [] mem := by
  unfold wp_X1_tellOf at h
  refine q_iload_n hX rfl dX1_tellOf_0 1 rfl ?_
  by_cases c_1 : a1 = (0 : Int32)
  · replace h := h.1 c_1
    refine q_tin hX dX1_tellOf_1 48 (by rw [c_1]; decide) (by rw [c_1]; decide) (by rw [c_1]; rfl) (by decide) ?_
    refine q_aload_n hX rfl dX1_tellOf_48 49 rfl ?_
    refine gf_X1_16 hX hb dX1_tellOf_49 52 rfl ?_
    refine q_iload_n hX rfl dX1_tellOf_52 53 rfl ?_
    obtain ⟨g_2, h⟩ := h
    refine q_iald hX g_2 dX1_tellOf_53 54 rfl ?_
    exact q_iret hX dX1_tellOf_54 h
  replace h := h.2 c_1
  by_cases c_3 : a1 = (1 : Int32)
  · replace h := h.1 c_3
    refine q_tin hX dX1_tellOf_1 55 (by rw [c_3]; decide) (by rw [c_3]; decide) (by rw [c_3]; rfl) (by decide) ?_
    refine q_aload_n hX rfl dX1_tellOf_55 56 rfl ?_
    refine gf_X1_20 hX hb dX1_tellOf_56 59 rfl ?_
    refine q_iload_n hX rfl dX1_tellOf_59 60 rfl ?_
    obtain ⟨g_4, h⟩ := h
    refine q_iald hX g_4 dX1_tellOf_60 61 rfl ?_
    exact q_iret hX dX1_tellOf_61 h
  replace h := h.2 c_3
  by_cases c_5 : a1 = (2 : Int32)
  · replace h := h.1 c_5
    refine q_tin hX dX1_tellOf_1 62 (by rw [c_5]; decide) (by rw [c_5]; decide) (by rw [c_5]; rfl) (by decide) ?_
    refine q_aload_n hX rfl dX1_tellOf_62 63 rfl ?_
    refine gf_X1_23 hX hb dX1_tellOf_63 66 rfl ?_
    refine q_iload_n hX rfl dX1_tellOf_66 67 rfl ?_
    obtain ⟨g_6, h⟩ := h
    refine q_iald hX g_6 dX1_tellOf_67 68 rfl ?_
    exact q_iret hX dX1_tellOf_68 h
  replace h := h.2 c_5
  by_cases c_7 : a1 = (3 : Int32)
  · replace h := h.1 c_7
    refine q_tin hX dX1_tellOf_1 69 (by rw [c_7]; decide) (by rw [c_7]; decide) (by rw [c_7]; rfl) (by decide) ?_
    refine q_aload_n hX rfl dX1_tellOf_69 70 rfl ?_
    refine gf_X1_26 hX hb dX1_tellOf_70 73 rfl ?_
    refine q_iload_n hX rfl dX1_tellOf_73 74 rfl ?_
    obtain ⟨g_8, h⟩ := h
    refine q_iald hX g_8 dX1_tellOf_74 75 rfl ?_
    exact q_iret hX dX1_tellOf_75 h
  replace h := h.2 c_7
  by_cases c_9 : a1 = (4 : Int32)
  · replace h := h.1 c_9
    refine q_tin hX dX1_tellOf_1 76 (by rw [c_9]; decide) (by rw [c_9]; decide) (by rw [c_9]; rfl) (by decide) ?_
    refine q_aload_n hX rfl dX1_tellOf_76 77 rfl ?_
    refine gf_X1_29 hX hb dX1_tellOf_77 80 rfl ?_
    refine q_iload_n hX rfl dX1_tellOf_80 81 rfl ?_
    obtain ⟨g_10, h⟩ := h
    refine q_iald hX g_10 dX1_tellOf_81 82 rfl ?_
    exact q_iret hX dX1_tellOf_82 h
  replace h := h.2 c_9
  by_cases c_11 : a1 = (5 : Int32)
  · replace h := h.1 c_11
    refine q_tin hX dX1_tellOf_1 83 (by rw [c_11]; decide) (by rw [c_11]; decide) (by rw [c_11]; rfl) (by decide) ?_
    refine q_aload_n hX rfl dX1_tellOf_83 84 rfl ?_
    refine q_iload_n hX rfl dX1_tellOf_84 85 rfl ?_
    refine cl_X1_71 hX hb ⟨Nat.le_of_ble_eq_true rfl, Nat.le_of_ble_eq_true rfl⟩ (Nat.le_of_ble_eq_true rfl) dX1_tellOf_85 88 rfl (sn_X1_dampOf b a0 hb mem _ h) (fun r_12 m_13 h => ?_)
    exact q_iret hX dX1_tellOf_88 h
  replace h := h.2 c_11
  by_cases c_14 : a1 = (6 : Int32)
  · replace h := h.1 c_14
    refine q_tin hX dX1_tellOf_1 89 (by rw [c_14]; decide) (by rw [c_14]; decide) (by rw [c_14]; rfl) (by decide) ?_
    refine q_aload_n hX rfl dX1_tellOf_89 90 rfl ?_
    refine gf_X1_32 hX hb dX1_tellOf_90 93 rfl ?_
    refine q_iload_n hX rfl dX1_tellOf_93 94 rfl ?_
    obtain ⟨g_15, h⟩ := h
    refine q_iald hX g_15 dX1_tellOf_94 95 rfl ?_
    exact q_iret hX dX1_tellOf_95 h
  replace h := h.2 c_14
  by_cases c_16 : a1 = (7 : Int32)
  · replace h := h.1 c_16
    refine q_tin hX dX1_tellOf_1 96 (by rw [c_16]; decide) (by rw [c_16]; decide) (by rw [c_16]; rfl) (by decide) ?_
    refine q_aload_n hX rfl dX1_tellOf_96 97 rfl ?_
    refine gf_X1_35 hX hb dX1_tellOf_97 100 rfl ?_
    refine q_iload_n hX rfl dX1_tellOf_100 101 rfl ?_
    obtain ⟨g_17, h⟩ := h
    refine q_iald hX g_17 dX1_tellOf_101 102 rfl ?_
    exact q_iret hX dX1_tellOf_102 h
  replace h := h.2 c_16
  refine q_tout hX dX1_tellOf_1 103 (by decide) (by have a0 := lv_neT c_1 (a := 0) (by decide); have a1 := lv_neT c_3 (a := 1) (by decide); have a2 := lv_neT c_5 (a := 2) (by decide); have a3 := lv_neT c_7 (a := 3) (by decide); have a4 := lv_neT c_9 (a := 4) (by decide); have a5 := lv_neT c_11 (a := 5) (by decide); have a6 := lv_neT c_14 (a := 6) (by decide); have a7 := lv_neT c_16 (a := 7) (by decide); omega) ?_
  refine q_aload_n hX rfl dX1_tellOf_103 104 rfl ?_
  refine gf_X1_38 hX hb dX1_tellOf_104 107 rfl ?_
  refine q_iload_n hX rfl dX1_tellOf_107 108 rfl ?_
  obtain ⟨g_18, h⟩ := h
  refine q_iald hX g_18 dX1_tellOf_108 109 rfl ?_
  exact q_iret hX dX1_tellOf_109 h
set_option maxRecDepth 100000 in
set_option maxHeartbeats 4000000 in
theorem sn_X1_tellOf {l : Launch} {G : q_G} (b : Nat) (a0 : Int32) (a1 : Int32) (hb : q_WB b) (mem : q_Mem) (Q : Int32 → q_Mem → Prop) (h : wp_X1_tellOf b a0 a1 mem Q) : q_MI l G yX1_tellOf cX1_tellOf 3 (some .int) rm_X1_tellOf [.ref (q_ad G b), .int a0, .int a1] mem Q := by
  refine q_metI 0 (by decide +kernel) (Nat.le_of_ble_eq_true rfl) rfl (fun X hl hX => ?_)
  subst hl
  exact sn_X1_tellOf_0 hX b a0 a1 hb Q mem h

-- X2_within
def wp_X2_within  (a0 : Int32) (a1 : Int32) (a2 : Int32)  (mem : q_Mem) (Q : Int32 → q_Mem → Prop) : Prop := ((a0 < a1) → Q (0 : Int32) mem) ∧ ((¬ a0 < a1) → ((a2 < a0) → Q (0 : Int32) mem) ∧ ((¬ a2 < a0) → Q (1 : Int32) mem))
set_option maxRecDepth 100000 in
set_option maxHeartbeats 4000000 in
theorem sn_X2_within_0 {X : q_X} {G : q_G} (hX : q_C X cX2_within 3 RX2 (some .boolean) 0 0) (a0 : Int32) (a1 : Int32) (a2 : Int32)   (Q : Int32 → q_Mem → Prop)  (mem : q_Mem) (h : wp_X2_within  a0 a1 a2  mem Q) : q_J X G 3 (q_QI X G Q) 0 [some (.int a0), some (.int a1), some (.int a2)] [] mem := by
  unfold wp_X2_within at h
  refine q_iload_n hX rfl dX2_within_0 1 rfl ?_
  refine q_iload_n hX rfl dX2_within_1 2 rfl ?_
  refine q_icmp_lt hX dX2_within_2 5 14 rfl (by decide) (fun c_1 => ?_) (fun c_1 => ?_)
  · replace h := h.1 c_1
    refine q_iconst hX (0 : Int32) q_ki_0 dX2_within_14 15 rfl ?_
    exact q_zret hX dX2_within_15 (by decide) h
  · replace h := h.2 c_1
    refine q_iload_n hX rfl dX2_within_5 6 rfl ?_
    refine q_iload_n hX rfl dX2_within_6 7 rfl ?_
    refine q_icmp_gt hX dX2_within_7 10 14 rfl (by decide) (fun c_2 => ?_) (fun c_2 => ?_)
    · replace h := h.1 c_2
      refine q_iconst hX (0 : Int32) q_ki_0 dX2_within_14 15 rfl ?_
      exact q_zret hX dX2_within_15 (by decide) h
    · replace h := h.2 c_2
      refine q_iconst hX (1 : Int32) q_ki_1 dX2_within_10 11 rfl ?_
      refine q_goto hX dX2_within_11 15 (by decide) ?_
      exact q_zret hX dX2_within_15 (by decide) h
set_option maxRecDepth 100000 in
set_option maxHeartbeats 4000000 in
theorem sn_X2_within {l : Launch} {G : q_G} (a0 : Int32) (a1 : Int32) (a2 : Int32)  (mem : q_Mem) (Q : Int32 → q_Mem → Prop) (h : wp_X2_within a0 a1 a2 mem Q) : q_MI l G yX2_within cX2_within 3 (some .boolean) rm_X2_within [.int a0, .int a1, .int a2] mem Q := by
  refine q_metI 0 (by decide +kernel) (Nat.le_of_ble_eq_true rfl) rfl (fun X hl hX => ?_)
  subst hl
  exact sn_X2_within_0 hX a0 a1 a2  Q mem h

-- X2_about
def wp_X2_about  (a0 : Int32) (a1 : Int32)  (mem : q_Mem) (Q : Int32 → q_Mem → Prop) : Prop := wp_X1_has 1 a0 mem (fun r_1 m_2 => ((¬ r_1 = 0) → wp_X2_within a1 (0 : Int32) (8 : Int32) m_2 (fun r_4 m_5 => ((¬ r_4 = 0) → wp_X1_tellOf 1 a0 a1 m_5 (fun r_7 m_8 => Q r_7 m_8)) ∧ ((r_4 = 0) → Q (-102 : Int32) m_5))) ∧ ((r_1 = 0) → Q (-101 : Int32) m_2))
set_option maxRecDepth 100000 in
set_option maxHeartbeats 4000000 in
theorem sn_X2_about_0 {X : q_X} {G : q_G} (hX : q_C X cX2_about 3 RX2 (some .int) 3 67) (a0 : Int32) (a1 : Int32)   (Q : Int32 → q_Mem → Prop)  (mem : q_Mem) (h : wp_X2_about  a0 a1  mem Q) : q_J X G 3 (q_QI X G Q) 0 [some (.ref (q_ad G 0)), some (.int a0), some (.int a1)] [] mem := by
  unfold wp_X2_about at h
  refine q_aload_n hX rfl dX2_about_0 1 rfl ?_
  refine gf_X2_10 hX dX2_about_1 4 rfl ?_
  refine q_iload_n hX rfl dX2_about_4 5 rfl ?_
  refine cl_X2_67 hX (Or.inl rfl) ⟨Nat.le_of_ble_eq_true rfl, Nat.le_of_ble_eq_true rfl⟩ (Nat.le_of_ble_eq_true rfl) dX2_about_5 8 rfl (sn_X1_has 1 a0 (Or.inl rfl) mem _ h) (fun r_1 m_2 h => ?_)
  refine q_if_ne hX dX2_about_8 11 14 rfl (by decide) (fun c_3 => ?_) (fun c_3 => ?_)
  · replace h := h.1 c_3
    refine q_iload_n hX rfl dX2_about_14 15 rfl ?_
    refine q_iconst hX (0 : Int32) q_ki_0 dX2_about_15 16 rfl ?_
    refine q_bipush hX (8 : Int32) q_kb_8 dX2_about_16 18 rfl ?_
    refine cl_X2_50 hX  ⟨Nat.le_of_ble_eq_true rfl, Nat.le_of_ble_eq_true rfl⟩ (Nat.le_of_ble_eq_true rfl) dX2_about_18 21 rfl (sn_X2_within a1 (0 : Int32) (8 : Int32)  m_2 _ h) (fun r_4 m_5 h => ?_)
    refine q_if_ne hX dX2_about_21 24 27 rfl (by decide) (fun c_6 => ?_) (fun c_6 => ?_)
    · replace h := h.1 c_6
      refine q_aload_n hX rfl dX2_about_27 28 rfl ?_
      refine gf_X2_10 hX dX2_about_28 31 rfl ?_
      refine q_iload_n hX rfl dX2_about_31 32 rfl ?_
      refine q_iload_n hX rfl dX2_about_32 33 rfl ?_
      refine cl_X2_81 hX (Or.inl rfl) ⟨Nat.le_of_ble_eq_true rfl, Nat.le_of_ble_eq_true rfl⟩ (Nat.le_of_ble_eq_true rfl) dX2_about_33 36 rfl (sn_X1_tellOf 1 a0 a1 (Or.inl rfl) m_5 _ h) (fun r_7 m_8 h => ?_)
      exact q_iret hX dX2_about_36 h
    · replace h := h.2 c_6
      refine q_bipush hX (-102 : Int32) q_kb_m102 dX2_about_24 26 rfl ?_
      exact q_iret hX dX2_about_26 h
  · replace h := h.2 c_3
    refine q_bipush hX (-101 : Int32) q_kb_m101 dX2_about_11 13 rfl ?_
    exact q_iret hX dX2_about_13 h
set_option maxRecDepth 100000 in
set_option maxHeartbeats 4000000 in
theorem sn_X2_about {l : Launch} {G : q_G} (a0 : Int32) (a1 : Int32)  (mem : q_Mem) (Q : Int32 → q_Mem → Prop) (h : wp_X2_about a0 a1 mem Q) : q_MI l G yX2_about cX2_about 3 (some .int) rm_X2_about [.ref (q_ad G 0), .int a0, .int a1] mem Q := by
  refine q_metI 0 (by decide +kernel) (Nat.le_of_ble_eq_true rfl) rfl (fun X hl hX => ?_)
  subst hl
  exact sn_X2_about_0 hX a0 a1  Q mem h

-- X2_hourRefusal
def wp_X2_hourRefusal  (a0 : Int32)  (mem : q_Mem) (Q : Int32 → q_Mem → Prop) : Prop := wp_X2_within a0 (0 : Int32) ((mem 0 4) - (1 : Int32)) mem (fun r_1 m_2 => ((¬ r_1 = 0) → ((¬ (m_2 1 11) = 0) → Q (0 : Int32) m_2) ∧ (((m_2 1 11) = 0) → Q (-103 : Int32) m_2)) ∧ ((r_1 = 0) → Q (-101 : Int32) m_2))
set_option maxRecDepth 100000 in
set_option maxHeartbeats 4000000 in
theorem sn_X2_hourRefusal_0 {X : q_X} {G : q_G} (hX : q_C X cX2_hourRefusal 2 RX2 (some .int) 1 22) (a0 : Int32)   (Q : Int32 → q_Mem → Prop)  (mem : q_Mem) (h : wp_X2_hourRefusal  a0  mem Q) : q_J X G 2 (q_QI X G Q) 0 [some (.ref (q_ad G 0)), some (.int a0)] [] mem := by
  unfold wp_X2_hourRefusal at h
  refine q_iload_n hX rfl dX2_hourRefusal_0 1 rfl ?_
  refine q_iconst hX (0 : Int32) q_ki_0 dX2_hourRefusal_1 2 rfl ?_
  refine q_aload_n hX rfl dX2_hourRefusal_2 3 rfl ?_
  refine gf_X2_31 hX dX2_hourRefusal_3 6 rfl ?_
  refine q_iconst hX (1 : Int32) q_ki_1 dX2_hourRefusal_6 7 rfl ?_
  refine q_isub hX dX2_hourRefusal_7 8 rfl ?_
  refine cl_X2_50 hX  ⟨Nat.le_of_ble_eq_true rfl, Nat.le_of_ble_eq_true rfl⟩ (Nat.le_of_ble_eq_true rfl) dX2_hourRefusal_8 11 rfl (sn_X2_within a0 (0 : Int32) ((mem 0 4) - (1 : Int32))  mem _ h) (fun r_1 m_2 h => ?_)
  refine q_if_ne hX dX2_hourRefusal_11 14 17 rfl (by decide) (fun c_3 => ?_) (fun c_3 => ?_)
  · replace h := h.1 c_3
    refine q_aload_n hX rfl dX2_hourRefusal_17 18 rfl ?_
    refine gf_X2_10 hX dX2_hourRefusal_18 21 rfl ?_
    refine gf_X2_54 hX (Or.inl rfl) dX2_hourRefusal_21 24 rfl ?_
    refine q_if_ne hX dX2_hourRefusal_24 27 32 rfl (by decide) (fun c_4 => ?_) (fun c_4 => ?_)
    · replace h := h.1 c_4
      refine q_iconst hX (0 : Int32) q_ki_0 dX2_hourRefusal_32 33 rfl ?_
      exact q_iret hX dX2_hourRefusal_33 h
    · replace h := h.2 c_4
      refine q_bipush hX (-103 : Int32) q_kb_m103 dX2_hourRefusal_27 29 rfl ?_
      refine q_goto hX dX2_hourRefusal_29 33 (by decide) ?_
      exact q_iret hX dX2_hourRefusal_33 h
  · replace h := h.2 c_3
    refine q_bipush hX (-101 : Int32) q_kb_m101 dX2_hourRefusal_14 16 rfl ?_
    exact q_iret hX dX2_hourRefusal_16 h
set_option maxRecDepth 100000 in
set_option maxHeartbeats 4000000 in
theorem sn_X2_hourRefusal {l : Launch} {G : q_G} (a0 : Int32)  (mem : q_Mem) (Q : Int32 → q_Mem → Prop) (h : wp_X2_hourRefusal a0 mem Q) : q_MI l G yX2_hourRefusal cX2_hourRefusal 2 (some .int) rm_X2_hourRefusal [.ref (q_ad G 0), .int a0] mem Q := by
  refine q_metI 0 (by decide +kernel) (Nat.le_of_ble_eq_true rfl) rfl (fun X hl hX => ?_)
  subst hl
  exact sn_X2_hourRefusal_0 hX a0  Q mem h

-- X2_arrange
def wp_X2_arrange_85  (a0 : Int32) (x3 : Int32) (mem : q_Mem) (Q : Int32 → q_Mem → Prop) : Prop := Q x3 mem
def wp_X2_arrange_79 (K49 : Int32 → Int32 → q_Mem → Prop) (a0 : Int32) (x3 : Int32) (x4 : Int32) (mem : q_Mem) (Q : Int32 → q_Mem → Prop) : Prop := ∀ x4_1 : Int32, x4_1 = (x4 + (1 : Int32)) → K49 x3 x4_1 mem
def wp_X2_arrange_49_b (K49 : Int32 → Int32 → q_Mem → Prop) (a0 : Int32) (x3 : Int32) (x4 : Int32) (mem : q_Mem) (Q : Int32 → q_Mem → Prop) : Prop := (((mem 1 11) ≤ x4) → wp_X2_arrange_85  a0 x3 mem Q) ∧ ((¬ (mem 1 11) ≤ x4) → vp_in x4 (q_al 33) ∧ ((((mem 33 x4.toNatClampNeg) = x4) → wp_X2_arrange_79 K49 a0 x3 x4 mem Q) ∧ ((¬ (mem 33 x4.toNatClampNeg) = x4) → ∀ x3_4 : Int32, x3_4 = (x3 + (1 : Int32)) → wp_X2_arrange_79 K49 a0 x3_4 x4 mem Q)))
def wp_X2_arrange_49  (a0 : Int32) (x3 : Int32) (x4 : Int32) (mem : q_Mem) (Q : Int32 → q_Mem → Prop) : Prop := ∃ I : Nat → Int32 → Int32 → q_Mem → Prop, (∃ n, I n x3 x4 mem) ∧ ∀ (n : Nat) (yx3 : Int32) (yx4 : Int32) (ymem : q_Mem), I n yx3 yx4 ymem → wp_X2_arrange_49_b  (fun (zx3 : Int32) (zx4 : Int32) (zmem : q_Mem) => ∃ n2, n2 < n ∧ I n2 zx3 zx4 zmem) a0 yx3 yx4 ymem Q
def wp_X2_arrange  (a0 : Int32)  (mem : q_Mem) (Q : Int32 → q_Mem → Prop) : Prop := wp_X2_hourRefusal a0 mem (fun r_1 m_2 => ((r_1 = 0) → vp_in a0 24 ∧ (wp_X0_findBestOrder 1 (35 + a0.toNatClampNeg) m_2 (fun r_6 m_7 => wp_X1_standInOrder 1 33 m_7 (fun m_9 => wp_X2_arrange_49  a0 (0 : Int32) (0 : Int32) m_9 Q)))) ∧ ((¬ r_1 = 0) → Q r_1 m_2))
set_option maxRecDepth 100000 in
set_option maxHeartbeats 4000000 in
theorem sn_X2_arrange_85 {X : q_X} {G : q_G} (hX : q_C X cX2_arrange 5 RX2 (some .int) 6 145) (a0 : Int32)  (x3 : Int32) (Q : Int32 → q_Mem → Prop)  (mem : q_Mem) (h : wp_X2_arrange_85  a0 x3 mem Q) : q_J X G 5 (q_QI X G Q) 85 [some (.ref (q_ad G 0)), some (.int a0), none, some (.int x3), none] [] mem := by
  unfold wp_X2_arrange_85 at h
  refine q_iload_n hX rfl dX2_arrange_85 86 rfl ?_
  exact q_iret hX dX2_arrange_86 h
set_option maxRecDepth 100000 in
set_option maxHeartbeats 4000000 in
theorem sn_X2_arrange_79 {X : q_X} {G : q_G} (hX : q_C X cX2_arrange 5 RX2 (some .int) 6 145) (a0 : Int32)  (x3 : Int32) (x4 : Int32) (Q : Int32 → q_Mem → Prop) (K49 : Int32 → Int32 → q_Mem → Prop) (hK49 : ∀ (yx3 : Int32) (yx4 : Int32) (ymem : q_Mem), K49 yx3 yx4 ymem → q_J X G 5 (q_QI X G Q) 49 [some (.ref (q_ad G 0)), some (.int a0), none, some (.int yx3), some (.int yx4)] [] ymem) (mem : q_Mem) (h : wp_X2_arrange_79 K49 a0 x3 x4 mem Q) : q_J X G 5 (q_QI X G Q) 79 [some (.ref (q_ad G 0)), some (.int a0), none, some (.int x3), some (.int x4)] [] mem := by
  unfold wp_X2_arrange_79 at h
  refine q_iinc hX (1 : Int32) q_ki_1 rfl dX2_arrange_79 82 rfl (Nat.le_of_ble_eq_true rfl) rfl (fun y => [some (.ref (q_ad G 0)), some (.int a0), none, some (.int x3), some (.int y)]) (fun _ => rfl) (fun x4_1 ex4_1 => ?_)
  replace h := h x4_1 ex4_1
  refine q_goto hX dX2_arrange_82 49 (by decide) ?_
  exact q_weak [true, true, false, true, true] rfl (hK49 x3 x4_1 mem h)
set_option maxRecDepth 100000 in
set_option maxHeartbeats 4000000 in
theorem sn_X2_arrange_49_b {X : q_X} {G : q_G} (hX : q_C X cX2_arrange 5 RX2 (some .int) 6 145) (a0 : Int32)  (x3 : Int32) (x4 : Int32) (Q : Int32 → q_Mem → Prop) (K49 : Int32 → Int32 → q_Mem → Prop) (hK49 : ∀ (yx3 : Int32) (yx4 : Int32) (ymem : q_Mem), K49 yx3 yx4 ymem → q_J X G 5 (q_QI X G Q) 49 [some (.ref (q_ad G 0)), some (.int a0), none, some (.int yx3), some (.int yx4)] [] ymem) (mem : q_Mem) (h : wp_X2_arrange_49_b K49 a0 x3 x4 mem Q) : q_J X G 5 (q_QI X G Q) 49 [some (.ref (q_ad G 0)), some (.int a0), none, some (.int x3), some (.int x4)] [] mem := by
  unfold wp_X2_arrange_49_b at h
  refine q_iload hX rfl dX2_arrange_49 51 rfl ?_
  refine q_aload_n hX rfl dX2_arrange_51 52 rfl ?_
  refine gf_X2_10 hX dX2_arrange_52 55 rfl ?_
  refine gf_X2_54 hX (Or.inl rfl) dX2_arrange_55 58 rfl ?_
  refine q_icmp_ge hX dX2_arrange_58 61 85 rfl (by decide) (fun c_1 => ?_) (fun c_1 => ?_)
  · replace h := h.1 c_1
    exact q_weak [true, true, false, true, false] rfl (sn_X2_arrange_85 hX  a0  x3 Q  mem h)
  · replace h := h.2 c_1
    refine q_aload_n hX rfl dX2_arrange_61 62 rfl ?_
    refine gf_X2_22 hX dX2_arrange_62 65 rfl ?_
    refine gf_X2_130 hX dX2_arrange_65 68 rfl ?_
    refine q_iload hX rfl dX2_arrange_68 70 rfl ?_
    obtain ⟨g_2, h⟩ := h
    refine q_iald hX g_2 dX2_arrange_70 71 rfl ?_
    refine q_iload hX rfl dX2_arrange_71 73 rfl ?_
    refine q_icmp_eq hX dX2_arrange_73 76 79 rfl (by decide) (fun c_3 => ?_) (fun c_3 => ?_)
    · replace h := h.1 c_3
      exact q_weak [true, true, false, true, true] rfl (sn_X2_arrange_79 hX  a0  x3 x4 Q K49 hK49 mem h)
    · replace h := h.2 c_3
      refine q_iinc hX (1 : Int32) q_ki_1 rfl dX2_arrange_76 79 rfl (Nat.le_of_ble_eq_true rfl) rfl (fun y => [some (.ref (q_ad G 0)), some (.int a0), none, some (.int y), some (.int x4)]) (fun _ => rfl) (fun x3_4 ex3_4 => ?_)
      replace h := h x3_4 ex3_4
      exact q_weak [true, true, false, true, true] rfl (sn_X2_arrange_79 hX  a0  x3_4 x4 Q K49 hK49 mem h)
set_option maxRecDepth 100000 in
set_option maxHeartbeats 4000000 in
theorem sn_X2_arrange_49 {X : q_X} {G : q_G} (hX : q_C X cX2_arrange 5 RX2 (some .int) 6 145) (a0 : Int32)  (x3 : Int32) (x4 : Int32) (Q : Int32 → q_Mem → Prop)  (mem : q_Mem) (h : wp_X2_arrange_49  a0 x3 x4 mem Q) : q_J X G 5 (q_QI X G Q) 49 [some (.ref (q_ad G 0)), some (.int a0), none, some (.int x3), some (.int x4)] [] mem := by
  obtain ⟨I, ⟨n, h0⟩, hs⟩ := h
  have key : ∀ (n : Nat) (yx3 : Int32) (yx4 : Int32) (ymem : q_Mem), I n yx3 yx4 ymem → q_J X G 5 (q_QI X G Q) 49 [some (.ref (q_ad G 0)), some (.int a0), none, some (.int yx3), some (.int yx4)] [] ymem := by
    intro n
    induction n using Nat.strongRecOn with
    | ind n ih =>
      intro yx3 yx4 ymem hI
      exact sn_X2_arrange_49_b hX  a0  yx3 yx4 Q  (fun (zx3 : Int32) (zx4 : Int32) (zmem : q_Mem) => ∃ n2, n2 < n ∧ I n2 zx3 zx4 zmem) (fun zx3 zx4 zmem hz => by obtain ⟨n2, h1, h2⟩ := hz; exact ih n2 h1 zx3 zx4 zmem h2) ymem (hs n yx3 yx4 ymem hI)
  exact key n x3 x4 mem h0
set_option maxRecDepth 100000 in
set_option maxHeartbeats 4000000 in
theorem sn_X2_arrange_0 {X : q_X} {G : q_G} (hX : q_C X cX2_arrange 5 RX2 (some .int) 6 145) (a0 : Int32)   (Q : Int32 → q_Mem → Prop)  (mem : q_Mem) (h : wp_X2_arrange  a0  mem Q) : q_J X G 5 (q_QI X G Q) 0 [some (.ref (q_ad G 0)), some (.int a0), none, none, none] [] mem := by
  unfold wp_X2_arrange at h
  refine q_aload_n hX rfl dX2_arrange_0 1 rfl ?_
  refine q_iload_n hX rfl dX2_arrange_1 2 rfl ?_
  refine cl_X2_117 hX  ⟨Nat.le_of_ble_eq_true rfl, Nat.le_of_ble_eq_true rfl⟩ (Nat.le_of_ble_eq_true rfl) dX2_arrange_2 5 rfl (sn_X2_hourRefusal a0  mem _ h) (fun r_1 m_2 h => ?_)
  refine q_istore_n hX dX2_arrange_5 6 rfl (Nat.le_of_ble_eq_true rfl) rfl (fun y => [some (.ref (q_ad G 0)), some (.int a0), some (.int y), none, none]) (fun _ => rfl) (fun x2_3 ex2_3 => ?_)
  replace ex2_3 := ex2_3.symm; subst ex2_3
  refine q_iload_n hX rfl dX2_arrange_6 7 rfl ?_
  refine q_if_eq hX dX2_arrange_7 10 12 rfl (by decide) (fun c_4 => ?_) (fun c_4 => ?_)
  · replace h := h.1 c_4
    refine q_aload_n hX rfl dX2_arrange_12 13 rfl ?_
    refine gf_X2_22 hX dX2_arrange_13 16 rfl ?_
    refine q_aload_n hX rfl dX2_arrange_16 17 rfl ?_
    refine gf_X2_10 hX dX2_arrange_17 20 rfl ?_
    refine q_aload_n hX rfl dX2_arrange_20 21 rfl ?_
    refine gf_X2_28 hX dX2_arrange_21 24 rfl ?_
    refine q_iload_n hX rfl dX2_arrange_24 25 rfl ?_
    obtain ⟨g_5, h⟩ := h
    refine q_aald hX rfl g_5 dX2_arrange_25 26 rfl ?_
    refine cl_X2_126 hX  ⟨Nat.le_of_ble_eq_true rfl, Nat.le_of_ble_eq_true rfl⟩ (Nat.le_of_ble_eq_true rfl) dX2_arrange_26 29 rfl (sn_X0_findBestOrder 1 (35 + a0.toNatClampNeg) (Or.inl rfl) m_2 _ h) (fun r_6 m_7 h => ?_)
    refine q_pop hX rfl dX2_arrange_29 30 rfl ?_
    refine q_aload_n hX rfl dX2_arrange_30 31 rfl ?_
    refine gf_X2_10 hX dX2_arrange_31 34 rfl ?_
    refine q_aload_n hX rfl dX2_arrange_34 35 rfl ?_
    refine gf_X2_22 hX dX2_arrange_35 38 rfl ?_
    refine gf_X2_130 hX dX2_arrange_38 41 rfl ?_
    refine cl_X2_133 hX (Or.inl rfl) ⟨Nat.le_of_ble_eq_true rfl, Nat.le_of_ble_eq_true rfl⟩ (Nat.le_of_ble_eq_true rfl) dX2_arrange_41 44 rfl (sn_X1_standInOrder 1 33 (Or.inl rfl) m_7 _ h) (fun m_9 h => ?_)
    refine q_iconst hX (0 : Int32) q_ki_0 dX2_arrange_44 45 rfl ?_
    refine q_istore_n hX dX2_arrange_45 46 rfl (Nat.le_of_ble_eq_true rfl) rfl (fun y => [some (.ref (q_ad G 0)), some (.int a0), some (.int r_1), some (.int y), none]) (fun _ => rfl) (fun x3_10 ex3_10 => ?_)
    replace ex3_10 := ex3_10.symm; subst ex3_10
    refine q_iconst hX (0 : Int32) q_ki_0 dX2_arrange_46 47 rfl ?_
    refine q_istore hX dX2_arrange_47 49 rfl (Nat.le_of_ble_eq_true rfl) rfl (fun y => [some (.ref (q_ad G 0)), some (.int a0), some (.int r_1), some (.int (0 : Int32)), some (.int y)]) (fun _ => rfl) (fun x4_11 ex4_11 => ?_)
    replace ex4_11 := ex4_11.symm; subst ex4_11
    exact q_weak [true, true, false, true, true] rfl (sn_X2_arrange_49 hX  a0  (0 : Int32) (0 : Int32) Q  m_9 h)
  · replace h := h.2 c_4
    refine q_iload_n hX rfl dX2_arrange_10 11 rfl ?_
    exact q_iret hX dX2_arrange_11 h
set_option maxRecDepth 100000 in
set_option maxHeartbeats 4000000 in
theorem sn_X2_arrange {l : Launch} {G : q_G} (a0 : Int32)  (mem : q_Mem) (Q : Int32 → q_Mem → Prop) (h : wp_X2_arrange a0 mem Q) : q_MI l G yX2_arrange cX2_arrange 5 (some .int) rm_X2_arrange [.ref (q_ad G 0), .int a0] mem Q := by
  refine q_metI 3 (by decide +kernel) (Nat.le_of_ble_eq_true rfl) rfl (fun X hl hX => ?_)
  subst hl
  exact sn_X2_arrange_0 hX a0  Q mem h

-- X2_best
def wp_X2_best  (a0 : Int32)  (mem : q_Mem) (Q : Int32 → q_Mem → Prop) : Prop := wp_X2_hourRefusal a0 mem (fun r_1 m_2 => ((r_1 = 0) → vp_in a0 24 ∧ (wp_X0_findBestOrder 1 (35 + a0.toNatClampNeg) m_2 (fun r_6 m_7 => Q r_6 m_7))) ∧ ((¬ r_1 = 0) → Q r_1 m_2))
set_option maxRecDepth 100000 in
set_option maxHeartbeats 4000000 in
theorem sn_X2_best_0 {X : q_X} {G : q_G} (hX : q_C X cX2_best 3 RX2 (some .int) 6 145) (a0 : Int32)   (Q : Int32 → q_Mem → Prop)  (mem : q_Mem) (h : wp_X2_best  a0  mem Q) : q_J X G 3 (q_QI X G Q) 0 [some (.ref (q_ad G 0)), some (.int a0), none] [] mem := by
  unfold wp_X2_best at h
  refine q_aload_n hX rfl dX2_best_0 1 rfl ?_
  refine q_iload_n hX rfl dX2_best_1 2 rfl ?_
  refine cl_X2_117 hX  ⟨Nat.le_of_ble_eq_true rfl, Nat.le_of_ble_eq_true rfl⟩ (Nat.le_of_ble_eq_true rfl) dX2_best_2 5 rfl (sn_X2_hourRefusal a0  mem _ h) (fun r_1 m_2 h => ?_)
  refine q_istore_n hX dX2_best_5 6 rfl (Nat.le_of_ble_eq_true rfl) rfl (fun y => [some (.ref (q_ad G 0)), some (.int a0), some (.int y)]) (fun _ => rfl) (fun x2_3 ex2_3 => ?_)
  replace ex2_3 := ex2_3.symm; subst ex2_3
  refine q_iload_n hX rfl dX2_best_6 7 rfl ?_
  refine q_if_eq hX dX2_best_7 10 12 rfl (by decide) (fun c_4 => ?_) (fun c_4 => ?_)
  · replace h := h.1 c_4
    refine q_aload_n hX rfl dX2_best_12 13 rfl ?_
    refine gf_X2_22 hX dX2_best_13 16 rfl ?_
    refine q_aload_n hX rfl dX2_best_16 17 rfl ?_
    refine gf_X2_10 hX dX2_best_17 20 rfl ?_
    refine q_aload_n hX rfl dX2_best_20 21 rfl ?_
    refine gf_X2_28 hX dX2_best_21 24 rfl ?_
    refine q_iload_n hX rfl dX2_best_24 25 rfl ?_
    obtain ⟨g_5, h⟩ := h
    refine q_aald hX rfl g_5 dX2_best_25 26 rfl ?_
    refine cl_X2_126 hX  ⟨Nat.le_of_ble_eq_true rfl, Nat.le_of_ble_eq_true rfl⟩ (Nat.le_of_ble_eq_true rfl) dX2_best_26 29 rfl (sn_X0_findBestOrder 1 (35 + a0.toNatClampNeg) (Or.inl rfl) m_2 _ h) (fun r_6 m_7 h => ?_)
    exact q_iret hX dX2_best_29 h
  · replace h := h.2 c_4
    refine q_iload_n hX rfl dX2_best_10 11 rfl ?_
    exact q_iret hX dX2_best_11 h
set_option maxRecDepth 100000 in
set_option maxHeartbeats 4000000 in
theorem sn_X2_best {l : Launch} {G : q_G} (a0 : Int32)  (mem : q_Mem) (Q : Int32 → q_Mem → Prop) (h : wp_X2_best a0 mem Q) : q_MI l G yX2_best cX2_best 3 (some .int) rm_X2_best [.ref (q_ad G 0), .int a0] mem Q := by
  refine q_metI 1 (by decide +kernel) (Nat.le_of_ble_eq_true rfl) rfl (fun X hl hX => ?_)
  subst hl
  exact sn_X2_best_0 hX a0  Q mem h

-- X2_clear
def wp_X2_clear    (mem : q_Mem) (Q : Int32 → q_Mem → Prop) : Prop := ∀ x1_1 : Int32, x1_1 = (mem 1 11) → wp_X1_empty 1 mem (fun m_3 => ∀ m_4 : q_Mem, m_4 = q_set m_3 0 (upd (m_3 0) 8 (0 : Int32)) → Q x1_1 m_4)
set_option maxRecDepth 100000 in
set_option maxHeartbeats 4000000 in
theorem sn_X2_clear_0 {X : q_X} {G : q_G} (hX : q_C X cX2_clear 2 RX2 (some .int) 1 21)    (Q : Int32 → q_Mem → Prop)  (mem : q_Mem) (h : wp_X2_clear    mem Q) : q_J X G 2 (q_QI X G Q) 0 [some (.ref (q_ad G 0)), none] [] mem := by
  unfold wp_X2_clear at h
  refine q_aload_n hX rfl dX2_clear_0 1 rfl ?_
  refine gf_X2_10 hX dX2_clear_1 4 rfl ?_
  refine gf_X2_54 hX (Or.inl rfl) dX2_clear_4 7 rfl ?_
  refine q_istore_n hX dX2_clear_7 8 rfl (Nat.le_of_ble_eq_true rfl) rfl (fun y => [some (.ref (q_ad G 0)), some (.int y)]) (fun _ => rfl) (fun x1_1 ex1_1 => ?_)
  replace h := h x1_1 ex1_1
  refine q_aload_n hX rfl dX2_clear_8 9 rfl ?_
  refine gf_X2_10 hX dX2_clear_9 12 rfl ?_
  refine cl_X2_61 hX (Or.inl rfl) ⟨Nat.le_of_ble_eq_true rfl, Nat.le_of_ble_eq_true rfl⟩ (Nat.le_of_ble_eq_true rfl) dX2_clear_12 15 rfl (sn_X1_empty 1 (Or.inl rfl) mem _ h) (fun m_3 h => ?_)
  refine q_aload_n hX rfl dX2_clear_15 16 rfl ?_
  refine q_iconst hX (0 : Int32) q_ki_0 dX2_clear_16 17 rfl ?_
  refine pf_X2_44 hX dX2_clear_17 20 rfl (fun m_4 em_4 => ?_)
  replace h := h m_4 em_4
  refine q_iload_n hX rfl dX2_clear_20 21 rfl ?_
  exact q_iret hX dX2_clear_21 h
set_option maxRecDepth 100000 in
set_option maxHeartbeats 4000000 in
theorem sn_X2_clear {l : Launch} {G : q_G}   (mem : q_Mem) (Q : Int32 → q_Mem → Prop) (h : wp_X2_clear  mem Q) : q_MI l G yX2_clear cX2_clear 2 (some .int) rm_X2_clear [.ref (q_ad G 0)] mem Q := by
  refine q_metI 1 (by decide +kernel) (Nat.le_of_ble_eq_true rfl) rfl (fun X hl hX => ?_)
  subst hl
  exact sn_X2_clear_0 hX   Q mem h

-- X2_corner
def wp_X2_corner_65  (a0 : Int32) (a1 : Int32) (a2 : Int32) (r4 : Nat) (x5 : Int32) (s1 : Int32) (mem : q_Mem) (Q : Int32 → q_Mem → Prop) : Prop := wp_X2_within a2 x5 s1 mem (fun r_2 m_3 => ((¬ r_2 = 0) → vp_in a1 (q_al r4) ∧ (∀ x7_6 : Int32, x7_6 = (m_3 r4 a1.toNatClampNeg) → vp_in a1 (q_al r4) ∧ (∀ m_8 : q_Mem, m_8 = q_set m_3 r4 (upd (m_3 r4) a1.toNatClampNeg a2) → Q x7_6 m_8))) ∧ ((r_2 = 0) → Q (-102 : Int32) m_3))
def wp_X2_corner_46  (a0 : Int32) (a1 : Int32) (a2 : Int32) (r4 : Nat) (s1 : Int32) (mem : q_Mem) (Q : Int32 → q_Mem → Prop) : Prop := ((¬ a1 = (4 : Int32)) → vp_in (a1 + (1 : Int32)) (q_al r4) ∧ (wp_X2_corner_65  a0 a1 a2 r4 s1 (mem r4 (a1 + (1 : Int32)).toNatClampNeg) mem Q)) ∧ ((a1 = (4 : Int32)) → wp_X2_corner_65  a0 a1 a2 r4 s1 (1000 : Int32) mem Q)
def wp_X2_corner  (a0 : Int32) (a1 : Int32) (a2 : Int32)  (mem : q_Mem) (Q : Int32 → q_Mem → Prop) : Prop := wp_X2_within a0 (0 : Int32) (2 : Int32) mem (fun r_1 m_2 => ((r_1 = 0) → Q (-101 : Int32) m_2) ∧ ((¬ r_1 = 0) → wp_X2_within a1 (0 : Int32) (4 : Int32) m_2 (fun r_4 m_5 => ((¬ r_4 = 0) → vp_in a0 3 ∧ (((¬ a1 = 0) → vp_in (a1 - (1 : Int32)) (q_al (3 + a0.toNatClampNeg)) ∧ (wp_X2_corner_46  a0 a1 a2 (3 + a0.toNatClampNeg) (m_5 (3 + a0.toNatClampNeg) (a1 - (1 : Int32)).toNatClampNeg) m_5 Q)) ∧ ((a1 = 0) → wp_X2_corner_46  a0 a1 a2 (3 + a0.toNatClampNeg) (0 : Int32) m_5 Q))) ∧ ((r_4 = 0) → Q (-101 : Int32) m_5))))
set_option maxRecDepth 100000 in
set_option maxHeartbeats 4000000 in
theorem sn_X2_corner_65 {X : q_X} {G : q_G} (hX : q_C X cX2_corner 8 RX2 (some .int) 1 22) (a0 : Int32) (a1 : Int32) (a2 : Int32)  (r4 : Nat) (x5 : Int32) (s1 : Int32) (Q : Int32 → q_Mem → Prop)  (mem : q_Mem) (h : wp_X2_corner_65  a0 a1 a2 r4 x5 s1 mem Q) : q_J X G 8 (q_QI X G Q) 65 [some (.ref (q_ad G 0)), some (.int a0), some (.int a1), some (.int a2), some (.ref (q_ad G r4)), some (.int x5), none, none] [.int s1] mem := by
  unfold wp_X2_corner_65 at h
  refine q_istore hX dX2_corner_65 67 rfl (Nat.le_of_ble_eq_true rfl) rfl (fun y => [some (.ref (q_ad G 0)), some (.int a0), some (.int a1), some (.int a2), some (.ref (q_ad G r4)), some (.int x5), some (.int y), none]) (fun _ => rfl) (fun x6_1 ex6_1 => ?_)
  replace ex6_1 := ex6_1.symm; subst ex6_1
  refine q_iload_n hX rfl dX2_corner_67 68 rfl ?_
  refine q_iload hX rfl dX2_corner_68 70 rfl ?_
  refine q_iload hX rfl dX2_corner_70 72 rfl ?_
  refine cl_X2_50 hX  ⟨Nat.le_of_ble_eq_true rfl, Nat.le_of_ble_eq_true rfl⟩ (Nat.le_of_ble_eq_true rfl) dX2_corner_72 75 rfl (sn_X2_within a2 x5 s1  mem _ h) (fun r_2 m_3 h => ?_)
  refine q_if_ne hX dX2_corner_75 78 81 rfl (by decide) (fun c_4 => ?_) (fun c_4 => ?_)
  · replace h := h.1 c_4
    refine q_aload hX rfl dX2_corner_81 83 rfl ?_
    refine q_iload_n hX rfl dX2_corner_83 84 rfl ?_
    obtain ⟨g_5, h⟩ := h
    refine q_iald hX g_5 dX2_corner_84 85 rfl ?_
    refine q_istore hX dX2_corner_85 87 rfl (Nat.le_of_ble_eq_true rfl) rfl (fun y => [some (.ref (q_ad G 0)), some (.int a0), some (.int a1), some (.int a2), some (.ref (q_ad G r4)), some (.int x5), some (.int s1), some (.int y)]) (fun _ => rfl) (fun x7_6 ex7_6 => ?_)
    replace h := h x7_6 ex7_6
    refine q_aload hX rfl dX2_corner_87 89 rfl ?_
    refine q_iload_n hX rfl dX2_corner_89 90 rfl ?_
    refine q_iload_n hX rfl dX2_corner_90 91 rfl ?_
    obtain ⟨g_7, h⟩ := h
    refine q_iast hX g_7 dX2_corner_91 92 rfl (fun m_8 em_8 => ?_)
    replace h := h m_8 em_8
    refine q_iload hX rfl dX2_corner_92 94 rfl ?_
    exact q_iret hX dX2_corner_94 h
  · replace h := h.2 c_4
    refine q_bipush hX (-102 : Int32) q_kb_m102 dX2_corner_78 80 rfl ?_
    exact q_iret hX dX2_corner_80 h
set_option maxRecDepth 100000 in
set_option maxHeartbeats 4000000 in
theorem sn_X2_corner_46 {X : q_X} {G : q_G} (hX : q_C X cX2_corner 8 RX2 (some .int) 1 22) (a0 : Int32) (a1 : Int32) (a2 : Int32)  (r4 : Nat) (s1 : Int32) (Q : Int32 → q_Mem → Prop)  (mem : q_Mem) (h : wp_X2_corner_46  a0 a1 a2 r4 s1 mem Q) : q_J X G 8 (q_QI X G Q) 46 [some (.ref (q_ad G 0)), some (.int a0), some (.int a1), some (.int a2), some (.ref (q_ad G r4)), none, none, none] [.int s1] mem := by
  unfold wp_X2_corner_46 at h
  refine q_istore hX dX2_corner_46 48 rfl (Nat.le_of_ble_eq_true rfl) rfl (fun y => [some (.ref (q_ad G 0)), some (.int a0), some (.int a1), some (.int a2), some (.ref (q_ad G r4)), some (.int y), none, none]) (fun _ => rfl) (fun x5_1 ex5_1 => ?_)
  replace ex5_1 := ex5_1.symm; subst ex5_1
  refine q_iload_n hX rfl dX2_corner_48 49 rfl ?_
  refine q_iconst hX (4 : Int32) q_ki_4 dX2_corner_49 50 rfl ?_
  refine q_icmp_ne hX dX2_corner_50 53 59 rfl (by decide) (fun c_2 => ?_) (fun c_2 => ?_)
  · replace h := h.1 c_2
    refine q_aload hX rfl dX2_corner_59 61 rfl ?_
    refine q_iload_n hX rfl dX2_corner_61 62 rfl ?_
    refine q_iconst hX (1 : Int32) q_ki_1 dX2_corner_62 63 rfl ?_
    refine q_iadd hX dX2_corner_63 64 rfl ?_
    obtain ⟨g_3, h⟩ := h
    refine q_iald hX g_3 dX2_corner_64 65 rfl ?_
    exact q_weak [true, true, true, true, true, true, false, false] rfl (sn_X2_corner_65 hX  a0 a1 a2  r4 s1 (mem r4 (a1 + (1 : Int32)).toNatClampNeg) Q  mem h)
  · replace h := h.2 c_2
    refine q_sipush hX (1000 : Int32) q_ks_1000 dX2_corner_53 56 rfl ?_
    refine q_goto hX dX2_corner_56 65 (by decide) ?_
    exact q_weak [true, true, true, true, true, true, false, false] rfl (sn_X2_corner_65 hX  a0 a1 a2  r4 s1 (1000 : Int32) Q  mem h)
set_option maxRecDepth 100000 in
set_option maxHeartbeats 4000000 in
theorem sn_X2_corner_0 {X : q_X} {G : q_G} (hX : q_C X cX2_corner 8 RX2 (some .int) 1 22) (a0 : Int32) (a1 : Int32) (a2 : Int32)   (Q : Int32 → q_Mem → Prop)  (mem : q_Mem) (h : wp_X2_corner  a0 a1 a2  mem Q) : q_J X G 8 (q_QI X G Q) 0 [some (.ref (q_ad G 0)), some (.int a0), some (.int a1), some (.int a2), none, none, none, none] [] mem := by
  unfold wp_X2_corner at h
  refine q_iload_n hX rfl dX2_corner_0 1 rfl ?_
  refine q_iconst hX (0 : Int32) q_ki_0 dX2_corner_1 2 rfl ?_
  refine q_iconst hX (2 : Int32) q_ki_2 dX2_corner_2 3 rfl ?_
  refine cl_X2_50 hX  ⟨Nat.le_of_ble_eq_true rfl, Nat.le_of_ble_eq_true rfl⟩ (Nat.le_of_ble_eq_true rfl) dX2_corner_3 6 rfl (sn_X2_within a0 (0 : Int32) (2 : Int32)  mem _ h) (fun r_1 m_2 h => ?_)
  refine q_if_eq hX dX2_corner_6 9 18 rfl (by decide) (fun c_3 => ?_) (fun c_3 => ?_)
  · replace h := h.1 c_3
    refine q_bipush hX (-101 : Int32) q_kb_m101 dX2_corner_18 20 rfl ?_
    exact q_iret hX dX2_corner_20 h
  · replace h := h.2 c_3
    refine q_iload_n hX rfl dX2_corner_9 10 rfl ?_
    refine q_iconst hX (0 : Int32) q_ki_0 dX2_corner_10 11 rfl ?_
    refine q_iconst hX (4 : Int32) q_ki_4 dX2_corner_11 12 rfl ?_
    refine cl_X2_50 hX  ⟨Nat.le_of_ble_eq_true rfl, Nat.le_of_ble_eq_true rfl⟩ (Nat.le_of_ble_eq_true rfl) dX2_corner_12 15 rfl (sn_X2_within a1 (0 : Int32) (4 : Int32)  m_2 _ h) (fun r_4 m_5 h => ?_)
    refine q_if_ne hX dX2_corner_15 18 21 rfl (by decide) (fun c_6 => ?_) (fun c_6 => ?_)
    · replace h := h.1 c_6
      refine q_aload_n hX rfl dX2_corner_21 22 rfl ?_
      refine gf_X2_10 hX dX2_corner_22 25 rfl ?_
      refine gf_X2_64 hX (Or.inl rfl) dX2_corner_25 28 rfl ?_
      refine q_iload_n hX rfl dX2_corner_28 29 rfl ?_
      obtain ⟨g_7, h⟩ := h
      refine q_aald hX (q_sh_w1 (Or.inl rfl)) g_7 dX2_corner_29 30 rfl ?_
      refine q_astore hX dX2_corner_30 32 rfl (Nat.le_of_ble_eq_true rfl) rfl (fun y => [some (.ref (q_ad G 0)), some (.int a0), some (.int a1), some (.int a2), some (.ref y), none, none, none]) (fun _ => rfl) (fun r4_8 er4_8 => ?_)
      replace er4_8 := er4_8.symm; subst er4_8
      refine q_iload_n hX rfl dX2_corner_32 33 rfl ?_
      refine q_if_ne hX dX2_corner_33 36 40 rfl (by decide) (fun c_9 => ?_) (fun c_9 => ?_)
      · replace h := h.1 c_9
        refine q_aload hX rfl dX2_corner_40 42 rfl ?_
        refine q_iload_n hX rfl dX2_corner_42 43 rfl ?_
        refine q_iconst hX (1 : Int32) q_ki_1 dX2_corner_43 44 rfl ?_
        refine q_isub hX dX2_corner_44 45 rfl ?_
        obtain ⟨g_10, h⟩ := h
        refine q_iald hX g_10 dX2_corner_45 46 rfl ?_
        exact q_weak [true, true, true, true, true, false, false, false] rfl (sn_X2_corner_46 hX  a0 a1 a2  (3 + a0.toNatClampNeg) (m_5 (3 + a0.toNatClampNeg) (a1 - (1 : Int32)).toNatClampNeg) Q  m_5 h)
      · replace h := h.2 c_9
        refine q_iconst hX (0 : Int32) q_ki_0 dX2_corner_36 37 rfl ?_
        refine q_goto hX dX2_corner_37 46 (by decide) ?_
        exact q_weak [true, true, true, true, true, false, false, false] rfl (sn_X2_corner_46 hX  a0 a1 a2  (3 + a0.toNatClampNeg) (0 : Int32) Q  m_5 h)
    · replace h := h.2 c_6
      refine q_bipush hX (-101 : Int32) q_kb_m101 dX2_corner_18 20 rfl ?_
      exact q_iret hX dX2_corner_20 h
set_option maxRecDepth 100000 in
set_option maxHeartbeats 4000000 in
theorem sn_X2_corner {l : Launch} {G : q_G} (a0 : Int32) (a1 : Int32) (a2 : Int32)  (mem : q_Mem) (Q : Int32 → q_Mem → Prop) (h : wp_X2_corner a0 a1 a2 mem Q) : q_MI l G yX2_corner cX2_corner 8 (some .int) rm_X2_corner [.ref (q_ad G 0), .int a0, .int a1, .int a2] mem Q := by
  refine q_metI 4 (by decide +kernel) (Nat.le_of_ble_eq_true rfl) rfl (fun X hl hX => ?_)
  subst hl
  exact sn_X2_corner_0 hX a0 a1 a2  Q mem h

-- X2_tellCount
def wp_X2_tellCount  (a0 : Int32)  (mem : q_Mem) (Q : Int32 → q_Mem → Prop) : Prop := (a0 = (0 : Int32) → Q (mem 1 11) mem) ∧ (¬ a0 = (0 : Int32) → (a0 = (1 : Int32) → Q (mem 0 4) mem) ∧ (¬ a0 = (1 : Int32) → (a0 = (2 : Int32) → Q (mem 0 5) mem) ∧ (¬ a0 = (2 : Int32) → (a0 = (3 : Int32) → Q (mem 0 6) mem) ∧ (¬ a0 = (3 : Int32) → (a0 = (4 : Int32) → Q (mem 0 8) mem) ∧ (¬ a0 = (4 : Int32) → (a0 = (5 : Int32) → wp_X1_allWater 1 mem (fun r_7 m_8 => Q r_7 m_8)) ∧ (¬ a0 = (5 : Int32) → Q (mem 0 9) mem))))))
set_option maxRecDepth 100000 in
set_option maxHeartbeats 4000000 in
theorem sn_X2_tellCount_0 {X : q_X} {G : q_G} (hX : q_C X cX2_tellCount 2 RX2 (some .int) 1 22) (a0 : Int32)   (Q : Int32 → q_Mem → Prop)  (mem : q_Mem) (h : wp_X2_tellCount  a0  mem Q) : q_J X G 2 (q_QI X G Q) 0 [some (.ref (q_ad G 0)), some (.int a0)] [] mem := by
  unfold wp_X2_tellCount at h
  refine q_iload_n hX rfl dX2_tellCount_0 1 rfl ?_
  by_cases c_1 : a0 = (0 : Int32)
  · replace h := h.1 c_1
    refine q_tin hX dX2_tellCount_1 40 (by rw [c_1]; decide) (by rw [c_1]; decide) (by rw [c_1]; rfl) (by decide) ?_
    refine q_aload_n hX rfl dX2_tellCount_40 41 rfl ?_
    refine gf_X2_10 hX dX2_tellCount_41 44 rfl ?_
    refine gf_X2_54 hX (Or.inl rfl) dX2_tellCount_44 47 rfl ?_
    exact q_iret hX dX2_tellCount_47 h
  replace h := h.2 c_1
  by_cases c_2 : a0 = (1 : Int32)
  · replace h := h.1 c_2
    refine q_tin hX dX2_tellCount_1 48 (by rw [c_2]; decide) (by rw [c_2]; decide) (by rw [c_2]; rfl) (by decide) ?_
    refine q_aload_n hX rfl dX2_tellCount_48 49 rfl ?_
    refine gf_X2_31 hX dX2_tellCount_49 52 rfl ?_
    exact q_iret hX dX2_tellCount_52 h
  replace h := h.2 c_2
  by_cases c_3 : a0 = (2 : Int32)
  · replace h := h.1 c_3
    refine q_tin hX dX2_tellCount_1 53 (by rw [c_3]; decide) (by rw [c_3]; decide) (by rw [c_3]; rfl) (by decide) ?_
    refine q_aload_n hX rfl dX2_tellCount_53 54 rfl ?_
    refine gf_X2_35 hX dX2_tellCount_54 57 rfl ?_
    exact q_iret hX dX2_tellCount_57 h
  replace h := h.2 c_3
  by_cases c_4 : a0 = (3 : Int32)
  · replace h := h.1 c_4
    refine q_tin hX dX2_tellCount_1 58 (by rw [c_4]; decide) (by rw [c_4]; decide) (by rw [c_4]; rfl) (by decide) ?_
    refine q_aload_n hX rfl dX2_tellCount_58 59 rfl ?_
    refine gf_X2_38 hX dX2_tellCount_59 62 rfl ?_
    exact q_iret hX dX2_tellCount_62 h
  replace h := h.2 c_4
  by_cases c_5 : a0 = (4 : Int32)
  · replace h := h.1 c_5
    refine q_tin hX dX2_tellCount_1 63 (by rw [c_5]; decide) (by rw [c_5]; decide) (by rw [c_5]; rfl) (by decide) ?_
    refine q_aload_n hX rfl dX2_tellCount_63 64 rfl ?_
    refine gf_X2_44 hX dX2_tellCount_64 67 rfl ?_
    exact q_iret hX dX2_tellCount_67 h
  replace h := h.2 c_5
  by_cases c_6 : a0 = (5 : Int32)
  · replace h := h.1 c_6
    refine q_tin hX dX2_tellCount_1 68 (by rw [c_6]; decide) (by rw [c_6]; decide) (by rw [c_6]; rfl) (by decide) ?_
    refine q_aload_n hX rfl dX2_tellCount_68 69 rfl ?_
    refine gf_X2_10 hX dX2_tellCount_69 72 rfl ?_
    refine cl_X2_182 hX (Or.inl rfl) ⟨Nat.le_of_ble_eq_true rfl, Nat.le_of_ble_eq_true rfl⟩ (Nat.le_of_ble_eq_true rfl) dX2_tellCount_72 75 rfl (sn_X1_allWater 1 (Or.inl rfl) mem _ h) (fun r_7 m_8 h => ?_)
    exact q_iret hX dX2_tellCount_75 h
  replace h := h.2 c_6
  refine q_tout hX dX2_tellCount_1 76 (by decide) (by have a0 := lv_neT c_1 (a := 0) (by decide); have a1 := lv_neT c_2 (a := 1) (by decide); have a2 := lv_neT c_3 (a := 2) (by decide); have a3 := lv_neT c_4 (a := 3) (by decide); have a4 := lv_neT c_5 (a := 4) (by decide); have a5 := lv_neT c_6 (a := 5) (by decide); omega) ?_
  refine q_aload_n hX rfl dX2_tellCount_76 77 rfl ?_
  refine gf_X2_47 hX dX2_tellCount_77 80 rfl ?_
  exact q_iret hX dX2_tellCount_80 h
set_option maxRecDepth 100000 in
set_option maxHeartbeats 4000000 in
theorem sn_X2_tellCount {l : Launch} {G : q_G} (a0 : Int32)  (mem : q_Mem) (Q : Int32 → q_Mem → Prop) (h : wp_X2_tellCount a0 mem Q) : q_MI l G yX2_tellCount cX2_tellCount 2 (some .int) rm_X2_tellCount [.ref (q_ad G 0), .int a0] mem Q := by
  refine q_metI 0 (by decide +kernel) (Nat.le_of_ble_eq_true rfl) rfl (fun X hl hX => ?_)
  subst hl
  exact sn_X2_tellCount_0 hX a0  Q mem h

-- X2_count
def wp_X2_count  (a0 : Int32)  (mem : q_Mem) (Q : Int32 → q_Mem → Prop) : Prop := wp_X2_within a0 (0 : Int32) (6 : Int32) mem (fun r_1 m_2 => ((r_1 = 0) → Q (-102 : Int32) m_2) ∧ ((¬ r_1 = 0) → wp_X2_tellCount a0 m_2 (fun r_4 m_5 => Q r_4 m_5)))
set_option maxRecDepth 100000 in
set_option maxHeartbeats 4000000 in
theorem sn_X2_count_0 {X : q_X} {G : q_G} (hX : q_C X cX2_count 2 RX2 (some .int) 2 43) (a0 : Int32)   (Q : Int32 → q_Mem → Prop)  (mem : q_Mem) (h : wp_X2_count  a0  mem Q) : q_J X G 2 (q_QI X G Q) 0 [some (.ref (q_ad G 0)), some (.int a0)] [] mem := by
  unfold wp_X2_count at h
  refine q_iload_n hX rfl dX2_count_0 1 rfl ?_
  refine q_iconst hX (0 : Int32) q_ki_0 dX2_count_1 2 rfl ?_
  refine q_bipush hX (6 : Int32) q_kb_6 dX2_count_2 4 rfl ?_
  refine cl_X2_50 hX  ⟨Nat.le_of_ble_eq_true rfl, Nat.le_of_ble_eq_true rfl⟩ (Nat.le_of_ble_eq_true rfl) dX2_count_4 7 rfl (sn_X2_within a0 (0 : Int32) (6 : Int32)  mem _ h) (fun r_1 m_2 h => ?_)
  refine q_if_eq hX dX2_count_7 10 18 rfl (by decide) (fun c_3 => ?_) (fun c_3 => ?_)
  · replace h := h.1 c_3
    refine q_bipush hX (-102 : Int32) q_kb_m102 dX2_count_18 20 rfl ?_
    exact q_iret hX dX2_count_20 h
  · replace h := h.2 c_3
    refine q_aload_n hX rfl dX2_count_10 11 rfl ?_
    refine q_iload_n hX rfl dX2_count_11 12 rfl ?_
    refine cl_X2_145 hX  ⟨Nat.le_of_ble_eq_true rfl, Nat.le_of_ble_eq_true rfl⟩ (Nat.le_of_ble_eq_true rfl) dX2_count_12 15 rfl (sn_X2_tellCount a0  m_2 _ h) (fun r_4 m_5 h => ?_)
    refine q_goto hX dX2_count_15 20 (by decide) ?_
    exact q_iret hX dX2_count_20 h
set_option maxRecDepth 100000 in
set_option maxHeartbeats 4000000 in
theorem sn_X2_count {l : Launch} {G : q_G} (a0 : Int32)  (mem : q_Mem) (Q : Int32 → q_Mem → Prop) (h : wp_X2_count a0 mem Q) : q_MI l G yX2_count cX2_count 2 (some .int) rm_X2_count [.ref (q_ad G 0), .int a0] mem Q := by
  refine q_metI 0 (by decide +kernel) (Nat.le_of_ble_eq_true rfl) rfl (fun X hl hX => ?_)
  subst hl
  exact sn_X2_count_0 hX a0  Q mem h

-- X2_mix
def wp_X2_mix  (a0 : Int64) (a1 : Int64)  (mem : q_Mem) (Q : Int64 → q_Mem → Prop) : Prop := Q (((31 : Int64) * a0) + a1) mem
set_option maxRecDepth 100000 in
set_option maxHeartbeats 4000000 in
theorem sn_X2_mix_0 {X : q_X} {G : q_G} (hX : q_C X cX2_mix 4 RX2 (some .long) 0 0) (a0 : Int64) (a1 : Int64)   (Q : Int64 → q_Mem → Prop)  (mem : q_Mem) (h : wp_X2_mix  a0 a1  mem Q) : q_J X G 4 (q_QL X G Q) 0 [some (.long a0), none, some (.long a1), none] [] mem := by
  unfold wp_X2_mix at h
  refine q_ldc2 hX tw_477 dX2_mix_0 3 rfl ?_
  refine q_lload_n hX rfl dX2_mix_3 4 rfl ?_
  refine q_lmul hX dX2_mix_4 5 rfl ?_
  refine q_lload_n hX rfl dX2_mix_5 6 rfl ?_
  refine q_ladd hX dX2_mix_6 7 rfl ?_
  exact q_lret hX dX2_mix_7 h
set_option maxRecDepth 100000 in
set_option maxHeartbeats 4000000 in
theorem sn_X2_mix {l : Launch} {G : q_G} (a0 : Int64) (a1 : Int64)  (mem : q_Mem) (Q : Int64 → q_Mem → Prop) (h : wp_X2_mix a0 a1 mem Q) : q_ML l G yX2_mix cX2_mix 4 (some .long) rm_X2_mix [.long a0, .long a1] mem Q := by
  refine q_metL 0 (by decide +kernel) (Nat.le_of_ble_eq_true rfl) rfl (fun X hl hX => ?_)
  subst hl
  exact sn_X2_mix_0 hX a0 a1  Q mem h

-- X2_mixRow
def wp_X2_mixRow_32  (a0 : Int64) (a1 : Nat) (a2 : Int32) (l0 : Int64) (mem : q_Mem) (Q : Int64 → q_Mem → Prop) : Prop := Q l0 mem
def wp_X2_mixRow_3_b (K3 : Int64 → Int32 → q_Mem → Prop) (a0 : Int64) (a1 : Nat) (a2 : Int32) (l0 : Int64) (x4 : Int32) (mem : q_Mem) (Q : Int64 → q_Mem → Prop) : Prop := ((a2 ≤ x4) → wp_X2_mixRow_32  a0 a1 a2 l0 mem Q) ∧ ((¬ a2 ≤ x4) → 0 < q_al a1 ∧ ((((Int32.ofNat (q_al a1)) ≤ x4) → wp_X2_mixRow_32  a0 a1 a2 l0 mem Q) ∧ ((¬ (Int32.ofNat (q_al a1)) ≤ x4) → vp_in x4 (q_al a1) ∧ (wp_X2_mix l0 ((mem a1 x4.toNatClampNeg).toInt64) mem (fun r_5 m_6 => ∀ x4_8 : Int32, x4_8 = (x4 + (1 : Int32)) → K3 r_5 x4_8 m_6)))))
def wp_X2_mixRow_3  (a0 : Int64) (a1 : Nat) (a2 : Int32) (l0 : Int64) (x4 : Int32) (mem : q_Mem) (Q : Int64 → q_Mem → Prop) : Prop := ∃ I : Nat → Int64 → Int32 → q_Mem → Prop, (∃ n, I n l0 x4 mem) ∧ ∀ (n : Nat) (yl0 : Int64) (yx4 : Int32) (ymem : q_Mem), I n yl0 yx4 ymem → wp_X2_mixRow_3_b  (fun (zl0 : Int64) (zx4 : Int32) (zmem : q_Mem) => ∃ n2, n2 < n ∧ I n2 zl0 zx4 zmem) a0 a1 a2 yl0 yx4 ymem Q
def wp_X2_mixRow  (a0 : Int64) (a1 : Nat) (a2 : Int32)  (mem : q_Mem) (Q : Int64 → q_Mem → Prop) : Prop := wp_X2_mixRow_3  a0 a1 a2 a0 (0 : Int32) mem Q
set_option maxRecDepth 100000 in
set_option maxHeartbeats 4000000 in
theorem sn_X2_mixRow_32 {X : q_X} {G : q_G} (hX : q_C X cX2_mixRow 5 RX2 (some .long) 1 23) (a0 : Int64) (a1 : Nat) (a2 : Int32)  (l0 : Int64) (Q : Int64 → q_Mem → Prop)  (mem : q_Mem) (h : wp_X2_mixRow_32  a0 a1 a2 l0 mem Q) : q_J X G 5 (q_QL X G Q) 32 [some (.long l0), none, some (.ref (q_ad G a1)), some (.int a2), none] [] mem := by
  unfold wp_X2_mixRow_32 at h
  refine q_lload_n hX rfl dX2_mixRow_32 33 rfl ?_
  exact q_lret hX dX2_mixRow_33 h
set_option maxRecDepth 100000 in
set_option maxHeartbeats 4000000 in
theorem sn_X2_mixRow_3_b {X : q_X} {G : q_G} (hX : q_C X cX2_mixRow 5 RX2 (some .long) 1 23) (a0 : Int64) (a1 : Nat) (a2 : Int32)  (l0 : Int64) (x4 : Int32) (Q : Int64 → q_Mem → Prop) (K3 : Int64 → Int32 → q_Mem → Prop) (hK3 : ∀ (yl0 : Int64) (yx4 : Int32) (ymem : q_Mem), K3 yl0 yx4 ymem → q_J X G 5 (q_QL X G Q) 3 [some (.long yl0), none, some (.ref (q_ad G a1)), some (.int a2), some (.int yx4)] [] ymem) (mem : q_Mem) (h : wp_X2_mixRow_3_b K3 a0 a1 a2 l0 x4 mem Q) : q_J X G 5 (q_QL X G Q) 3 [some (.long l0), none, some (.ref (q_ad G a1)), some (.int a2), some (.int x4)] [] mem := by
  unfold wp_X2_mixRow_3_b at h
  refine q_iload hX rfl dX2_mixRow_3 5 rfl ?_
  refine q_iload_n hX rfl dX2_mixRow_5 6 rfl ?_
  refine q_icmp_ge hX dX2_mixRow_6 9 32 rfl (by decide) (fun c_1 => ?_) (fun c_1 => ?_)
  · replace h := h.1 c_1
    exact q_weak [true, false, true, true, false] rfl (sn_X2_mixRow_32 hX  a0 a1 a2  l0 Q  mem h)
  · replace h := h.2 c_1
    refine q_iload hX rfl dX2_mixRow_9 11 rfl ?_
    refine q_aload_n hX rfl dX2_mixRow_11 12 rfl ?_
    obtain ⟨g_2, h⟩ := h
    refine q_alen hX g_2 dX2_mixRow_12 13 rfl ?_
    refine q_icmp_ge hX dX2_mixRow_13 16 32 rfl (by decide) (fun c_3 => ?_) (fun c_3 => ?_)
    · replace h := h.1 c_3
      exact q_weak [true, false, true, true, false] rfl (sn_X2_mixRow_32 hX  a0 a1 a2  l0 Q  mem h)
    · replace h := h.2 c_3
      refine q_lload_n hX rfl dX2_mixRow_16 17 rfl ?_
      refine q_aload_n hX rfl dX2_mixRow_17 18 rfl ?_
      refine q_iload hX rfl dX2_mixRow_18 20 rfl ?_
      obtain ⟨g_4, h⟩ := h
      refine q_iald hX g_4 dX2_mixRow_20 21 rfl ?_
      refine q_i2l hX dX2_mixRow_21 22 rfl ?_
      refine cl_X2_154 hX  ⟨Nat.le_of_ble_eq_true rfl, Nat.le_of_ble_eq_true rfl⟩ (Nat.le_of_ble_eq_true rfl) dX2_mixRow_22 25 rfl (sn_X2_mix l0 ((mem a1 x4.toNatClampNeg).toInt64)  mem _ h) (fun r_5 m_6 h => ?_)
      refine q_lstore_n hX dX2_mixRow_25 26 rfl (Nat.le_of_ble_eq_true rfl) rfl (fun y => [some (.long y), none, some (.ref (q_ad G a1)), some (.int a2), some (.int x4)]) (fun _ => rfl) (fun l0_7 el0_7 => ?_)
      replace el0_7 := el0_7.symm; subst el0_7
      refine q_iinc hX (1 : Int32) q_ki_1 rfl dX2_mixRow_26 29 rfl (Nat.le_of_ble_eq_true rfl) rfl (fun y => [some (.long r_5), none, some (.ref (q_ad G a1)), some (.int a2), some (.int y)]) (fun _ => rfl) (fun x4_8 ex4_8 => ?_)
      replace h := h x4_8 ex4_8
      refine q_goto hX dX2_mixRow_29 3 (by decide) ?_
      exact q_weak [true, false, true, true, true] rfl (hK3 r_5 x4_8 m_6 h)
set_option maxRecDepth 100000 in
set_option maxHeartbeats 4000000 in
theorem sn_X2_mixRow_3 {X : q_X} {G : q_G} (hX : q_C X cX2_mixRow 5 RX2 (some .long) 1 23) (a0 : Int64) (a1 : Nat) (a2 : Int32)  (l0 : Int64) (x4 : Int32) (Q : Int64 → q_Mem → Prop)  (mem : q_Mem) (h : wp_X2_mixRow_3  a0 a1 a2 l0 x4 mem Q) : q_J X G 5 (q_QL X G Q) 3 [some (.long l0), none, some (.ref (q_ad G a1)), some (.int a2), some (.int x4)] [] mem := by
  obtain ⟨I, ⟨n, h0⟩, hs⟩ := h
  have key : ∀ (n : Nat) (yl0 : Int64) (yx4 : Int32) (ymem : q_Mem), I n yl0 yx4 ymem → q_J X G 5 (q_QL X G Q) 3 [some (.long yl0), none, some (.ref (q_ad G a1)), some (.int a2), some (.int yx4)] [] ymem := by
    intro n
    induction n using Nat.strongRecOn with
    | ind n ih =>
      intro yl0 yx4 ymem hI
      exact sn_X2_mixRow_3_b hX  a0 a1 a2  yl0 yx4 Q  (fun (zl0 : Int64) (zx4 : Int32) (zmem : q_Mem) => ∃ n2, n2 < n ∧ I n2 zl0 zx4 zmem) (fun zl0 zx4 zmem hz => by obtain ⟨n2, h1, h2⟩ := hz; exact ih n2 h1 zl0 zx4 zmem h2) ymem (hs n yl0 yx4 ymem hI)
  exact key n l0 x4 mem h0
set_option maxRecDepth 100000 in
set_option maxHeartbeats 4000000 in
theorem sn_X2_mixRow_0 {X : q_X} {G : q_G} (hX : q_C X cX2_mixRow 5 RX2 (some .long) 1 23) (a0 : Int64) (a1 : Nat) (a2 : Int32)   (Q : Int64 → q_Mem → Prop)  (mem : q_Mem) (h : wp_X2_mixRow  a0 a1 a2  mem Q) : q_J X G 5 (q_QL X G Q) 0 [some (.long a0), none, some (.ref (q_ad G a1)), some (.int a2), none] [] mem := by
  unfold wp_X2_mixRow at h
  refine q_iconst hX (0 : Int32) q_ki_0 dX2_mixRow_0 1 rfl ?_
  refine q_istore hX dX2_mixRow_1 3 rfl (Nat.le_of_ble_eq_true rfl) rfl (fun y => [some (.long a0), none, some (.ref (q_ad G a1)), some (.int a2), some (.int y)]) (fun _ => rfl) (fun x4_1 ex4_1 => ?_)
  replace ex4_1 := ex4_1.symm; subst ex4_1
  exact q_weak [true, false, true, true, true] rfl (sn_X2_mixRow_3 hX  a0 a1 a2  a0 (0 : Int32) Q  mem h)
set_option maxRecDepth 100000 in
set_option maxHeartbeats 4000000 in
theorem sn_X2_mixRow {l : Launch} {G : q_G} (a0 : Int64) (a1 : Nat) (a2 : Int32)  (mem : q_Mem) (Q : Int64 → q_Mem → Prop) (h : wp_X2_mixRow a0 a1 a2 mem Q) : q_ML l G yX2_mixRow cX2_mixRow 5 (some .long) rm_X2_mixRow [.long a0, .ref (q_ad G a1), .int a2] mem Q := by
  refine q_metL 1 (by decide +kernel) (Nat.le_of_ble_eq_true rfl) rfl (fun X hl hX => ?_)
  subst hl
  exact sn_X2_mixRow_0 hX a0 a1 a2  Q mem h

-- X2_digest
def wp_X2_digest_152   (l1 : Int64) (mem : q_Mem) (Q : Int64 → q_Mem → Prop) : Prop := wp_X2_mix l1 ((mem 0 5).toInt64) mem (fun r_1 m_2 => wp_X2_mix r_1 ((m_2 0 6).toInt64) m_2 (fun r_4 m_5 => wp_X2_mix r_4 ((m_5 0 9).toInt64) m_5 (fun r_7 m_8 => Q r_7 m_8)))
def wp_X2_digest_126_b (K126 : Int64 → Int32 → q_Mem → Prop)  (l1 : Int64) (x3 : Int32) (mem : q_Mem) (Q : Int64 → q_Mem → Prop) : Prop := (((mem 0 8) ≤ x3) → wp_X2_digest_152   l1 mem Q) ∧ ((¬ (mem 0 8) ≤ x3) → vp_in x3 12 ∧ (wp_X2_mixRow l1 (60 + x3.toNatClampNeg) (4 : Int32) mem (fun r_3 m_4 => ∀ x3_6 : Int32, x3_6 = (x3 + (1 : Int32)) → K126 r_3 x3_6 m_4)))
def wp_X2_digest_126   (l1 : Int64) (x3 : Int32) (mem : q_Mem) (Q : Int64 → q_Mem → Prop) : Prop := ∃ I : Nat → Int64 → Int32 → q_Mem → Prop, (∃ n, I n l1 x3 mem) ∧ ∀ (n : Nat) (yl1 : Int64) (yx3 : Int32) (ymem : q_Mem), I n yl1 yx3 ymem → wp_X2_digest_126_b  (fun (zl1 : Int64) (zx3 : Int32) (zmem : q_Mem) => ∃ n2, n2 < n ∧ I n2 zl1 zx3 zmem)  yl1 yx3 ymem Q
def wp_X2_digest_111   (l1 : Int64) (mem : q_Mem) (Q : Int64 → q_Mem → Prop) : Prop := wp_X2_mixRow l1 14 (5 : Int32) mem (fun r_1 m_2 => wp_X2_digest_126   r_1 (0 : Int32) m_2 Q)
def wp_X2_digest_85_b (K85 : Int64 → Int32 → q_Mem → Prop)  (l1 : Int64) (x3 : Int32) (mem : q_Mem) (Q : Int64 → q_Mem → Prop) : Prop := (((mem 0 4) ≤ x3) → wp_X2_digest_111   l1 mem Q) ∧ ((¬ (mem 0 4) ≤ x3) → vp_in x3 24 ∧ (wp_X2_mixRow l1 (35 + x3.toNatClampNeg) (5 : Int32) mem (fun r_3 m_4 => ∀ x3_6 : Int32, x3_6 = (x3 + (1 : Int32)) → K85 r_3 x3_6 m_4)))
def wp_X2_digest_85   (l1 : Int64) (x3 : Int32) (mem : q_Mem) (Q : Int64 → q_Mem → Prop) : Prop := ∃ I : Nat → Int64 → Int32 → q_Mem → Prop, (∃ n, I n l1 x3 mem) ∧ ∀ (n : Nat) (yl1 : Int64) (yx3 : Int32) (ymem : q_Mem), I n yl1 yx3 ymem → wp_X2_digest_85_b  (fun (zl1 : Int64) (zx3 : Int32) (zmem : q_Mem) => ∃ n2, n2 < n ∧ I n2 zl1 zx3 zmem)  yl1 yx3 ymem Q
def wp_X2_digest_83   (l1 : Int64) (mem : q_Mem) (Q : Int64 → q_Mem → Prop) : Prop := wp_X2_digest_85   l1 (0 : Int32) mem Q
def wp_X2_digest_77 (K34 : Int64 → Int32 → q_Mem → Prop)  (l1 : Int64) (x3 : Int32) (mem : q_Mem) (Q : Int64 → q_Mem → Prop) : Prop := ∀ x3_1 : Int32, x3_1 = (x3 + (1 : Int32)) → K34 l1 x3_1 mem
def wp_X2_digest_48_b (K34 : Int64 → Int32 → q_Mem → Prop) (K48 : Int64 → Int32 → q_Mem → Prop)  (l1 : Int64) (x3 : Int32) (x4 : Int32) (mem : q_Mem) (Q : Int64 → q_Mem → Prop) : Prop := (((9 : Int32) ≤ x4) → wp_X2_digest_77 K34  l1 x3 mem Q) ∧ ((¬ (9 : Int32) ≤ x4) → wp_X1_tellOf 1 x3 x4 mem (fun r_2 m_3 => wp_X2_mix l1 (r_2.toInt64) m_3 (fun r_4 m_5 => ∀ x4_7 : Int32, x4_7 = (x4 + (1 : Int32)) → K48 r_4 x4_7 m_5)))
def wp_X2_digest_48 (K34 : Int64 → Int32 → q_Mem → Prop)  (l1 : Int64) (x3 : Int32) (x4 : Int32) (mem : q_Mem) (Q : Int64 → q_Mem → Prop) : Prop := ∃ I : Nat → Int64 → Int32 → q_Mem → Prop, (∃ n, I n l1 x4 mem) ∧ ∀ (n : Nat) (yl1 : Int64) (yx4 : Int32) (ymem : q_Mem), I n yl1 yx4 ymem → wp_X2_digest_48_b K34 (fun (zl1 : Int64) (zx4 : Int32) (zmem : q_Mem) => ∃ n2, n2 < n ∧ I n2 zl1 zx4 zmem)  yl1 x3 yx4 ymem Q
def wp_X2_digest_34_b (K34 : Int64 → Int32 → q_Mem → Prop)  (l1 : Int64) (x3 : Int32) (mem : q_Mem) (Q : Int64 → q_Mem → Prop) : Prop := (((mem 1 11) ≤ x3) → wp_X2_digest_83   l1 mem Q) ∧ ((¬ (mem 1 11) ≤ x3) → wp_X2_digest_48 K34  l1 x3 (0 : Int32) mem Q)
def wp_X2_digest_34   (l1 : Int64) (x3 : Int32) (mem : q_Mem) (Q : Int64 → q_Mem → Prop) : Prop := ∃ I : Nat → Int64 → Int32 → q_Mem → Prop, (∃ n, I n l1 x3 mem) ∧ ∀ (n : Nat) (yl1 : Int64) (yx3 : Int32) (ymem : q_Mem), I n yl1 yx3 ymem → wp_X2_digest_34_b  (fun (zl1 : Int64) (zx3 : Int32) (zmem : q_Mem) => ∃ n2, n2 < n ∧ I n2 zl1 zx3 zmem)  yl1 yx3 ymem Q
def wp_X2_digest_32   (l1 : Int64) (mem : q_Mem) (Q : Int64 → q_Mem → Prop) : Prop := wp_X2_digest_34   l1 (0 : Int32) mem Q
def wp_X2_digest_6_b (K6 : Int64 → Int32 → q_Mem → Prop)  (l1 : Int64) (x3 : Int32) (mem : q_Mem) (Q : Int64 → q_Mem → Prop) : Prop := (((3 : Int32) ≤ x3) → wp_X2_digest_32   l1 mem Q) ∧ ((¬ (3 : Int32) ≤ x3) → vp_in x3 3 ∧ (wp_X2_mixRow l1 (3 + x3.toNatClampNeg) (5 : Int32) mem (fun r_3 m_4 => ∀ x3_6 : Int32, x3_6 = (x3 + (1 : Int32)) → K6 r_3 x3_6 m_4)))
def wp_X2_digest_6   (l1 : Int64) (x3 : Int32) (mem : q_Mem) (Q : Int64 → q_Mem → Prop) : Prop := ∃ I : Nat → Int64 → Int32 → q_Mem → Prop, (∃ n, I n l1 x3 mem) ∧ ∀ (n : Nat) (yl1 : Int64) (yx3 : Int32) (ymem : q_Mem), I n yl1 yx3 ymem → wp_X2_digest_6_b  (fun (zl1 : Int64) (zx3 : Int32) (zmem : q_Mem) => ∃ n2, n2 < n ∧ I n2 zl1 zx3 zmem)  yl1 yx3 ymem Q
def wp_X2_digest    (mem : q_Mem) (Q : Int64 → q_Mem → Prop) : Prop := wp_X2_digest_6   (181 : Int64) (0 : Int32) mem Q
set_option maxRecDepth 100000 in
set_option maxHeartbeats 4000000 in
theorem sn_X2_digest_152 {X : q_X} {G : q_G} (hX : q_C X cX2_digest 5 RX2 (some .long) 3 67)   (l1 : Int64) (Q : Int64 → q_Mem → Prop)  (mem : q_Mem) (h : wp_X2_digest_152   l1 mem Q) : q_J X G 5 (q_QL X G Q) 152 [some (.ref (q_ad G 0)), some (.long l1), none, none, none] [] mem := by
  unfold wp_X2_digest_152 at h
  refine q_lload_n hX rfl dX2_digest_152 153 rfl ?_
  refine q_aload_n hX rfl dX2_digest_153 154 rfl ?_
  refine gf_X2_35 hX dX2_digest_154 157 rfl ?_
  refine q_i2l hX dX2_digest_157 158 rfl ?_
  refine cl_X2_154 hX  ⟨Nat.le_of_ble_eq_true rfl, Nat.le_of_ble_eq_true rfl⟩ (Nat.le_of_ble_eq_true rfl) dX2_digest_158 161 rfl (sn_X2_mix l1 ((mem 0 5).toInt64)  mem _ h) (fun r_1 m_2 h => ?_)
  refine q_lstore_n hX dX2_digest_161 162 rfl (Nat.le_of_ble_eq_true rfl) rfl (fun y => [some (.ref (q_ad G 0)), some (.long y), none, none, none]) (fun _ => rfl) (fun l1_3 el1_3 => ?_)
  replace el1_3 := el1_3.symm; subst el1_3
  refine q_lload_n hX rfl dX2_digest_162 163 rfl ?_
  refine q_aload_n hX rfl dX2_digest_163 164 rfl ?_
  refine gf_X2_38 hX dX2_digest_164 167 rfl ?_
  refine q_i2l hX dX2_digest_167 168 rfl ?_
  refine cl_X2_154 hX  ⟨Nat.le_of_ble_eq_true rfl, Nat.le_of_ble_eq_true rfl⟩ (Nat.le_of_ble_eq_true rfl) dX2_digest_168 171 rfl (sn_X2_mix r_1 ((m_2 0 6).toInt64)  m_2 _ h) (fun r_4 m_5 h => ?_)
  refine q_lstore_n hX dX2_digest_171 172 rfl (Nat.le_of_ble_eq_true rfl) rfl (fun y => [some (.ref (q_ad G 0)), some (.long y), none, none, none]) (fun _ => rfl) (fun l1_6 el1_6 => ?_)
  replace el1_6 := el1_6.symm; subst el1_6
  refine q_lload_n hX rfl dX2_digest_172 173 rfl ?_
  refine q_aload_n hX rfl dX2_digest_173 174 rfl ?_
  refine gf_X2_47 hX dX2_digest_174 177 rfl ?_
  refine q_i2l hX dX2_digest_177 178 rfl ?_
  refine cl_X2_154 hX  ⟨Nat.le_of_ble_eq_true rfl, Nat.le_of_ble_eq_true rfl⟩ (Nat.le_of_ble_eq_true rfl) dX2_digest_178 181 rfl (sn_X2_mix r_4 ((m_5 0 9).toInt64)  m_5 _ h) (fun r_7 m_8 h => ?_)
  exact q_lret hX dX2_digest_181 h
set_option maxRecDepth 100000 in
set_option maxHeartbeats 4000000 in
theorem sn_X2_digest_126_b {X : q_X} {G : q_G} (hX : q_C X cX2_digest 5 RX2 (some .long) 3 67)   (l1 : Int64) (x3 : Int32) (Q : Int64 → q_Mem → Prop) (K126 : Int64 → Int32 → q_Mem → Prop) (hK126 : ∀ (yl1 : Int64) (yx3 : Int32) (ymem : q_Mem), K126 yl1 yx3 ymem → q_J X G 5 (q_QL X G Q) 126 [some (.ref (q_ad G 0)), some (.long yl1), none, some (.int yx3), none] [] ymem) (mem : q_Mem) (h : wp_X2_digest_126_b K126  l1 x3 mem Q) : q_J X G 5 (q_QL X G Q) 126 [some (.ref (q_ad G 0)), some (.long l1), none, some (.int x3), none] [] mem := by
  unfold wp_X2_digest_126_b at h
  refine q_iload_n hX rfl dX2_digest_126 127 rfl ?_
  refine q_aload_n hX rfl dX2_digest_127 128 rfl ?_
  refine gf_X2_44 hX dX2_digest_128 131 rfl ?_
  refine q_icmp_ge hX dX2_digest_131 134 152 rfl (by decide) (fun c_1 => ?_) (fun c_1 => ?_)
  · replace h := h.1 c_1
    exact q_weak [true, true, false, false, false] rfl (sn_X2_digest_152 hX    l1 Q  mem h)
  · replace h := h.2 c_1
    refine q_lload_n hX rfl dX2_digest_134 135 rfl ?_
    refine q_aload_n hX rfl dX2_digest_135 136 rfl ?_
    refine gf_X2_41 hX dX2_digest_136 139 rfl ?_
    refine q_iload_n hX rfl dX2_digest_139 140 rfl ?_
    obtain ⟨g_2, h⟩ := h
    refine q_aald hX rfl g_2 dX2_digest_140 141 rfl ?_
    refine q_iconst hX (4 : Int32) q_ki_4 dX2_digest_141 142 rfl ?_
    refine cl_X2_150 hX  ⟨Nat.le_of_ble_eq_true rfl, Nat.le_of_ble_eq_true rfl⟩ (Nat.le_of_ble_eq_true rfl) dX2_digest_142 145 rfl (sn_X2_mixRow l1 (60 + x3.toNatClampNeg) (4 : Int32)  mem _ h) (fun r_3 m_4 h => ?_)
    refine q_lstore_n hX dX2_digest_145 146 rfl (Nat.le_of_ble_eq_true rfl) rfl (fun y => [some (.ref (q_ad G 0)), some (.long y), none, some (.int x3), none]) (fun _ => rfl) (fun l1_5 el1_5 => ?_)
    replace el1_5 := el1_5.symm; subst el1_5
    refine q_iinc hX (1 : Int32) q_ki_1 rfl dX2_digest_146 149 rfl (Nat.le_of_ble_eq_true rfl) rfl (fun y => [some (.ref (q_ad G 0)), some (.long r_3), none, some (.int y), none]) (fun _ => rfl) (fun x3_6 ex3_6 => ?_)
    replace h := h x3_6 ex3_6
    refine q_goto hX dX2_digest_149 126 (by decide) ?_
    exact q_weak [true, true, false, true, false] rfl (hK126 r_3 x3_6 m_4 h)
set_option maxRecDepth 100000 in
set_option maxHeartbeats 4000000 in
theorem sn_X2_digest_126 {X : q_X} {G : q_G} (hX : q_C X cX2_digest 5 RX2 (some .long) 3 67)   (l1 : Int64) (x3 : Int32) (Q : Int64 → q_Mem → Prop)  (mem : q_Mem) (h : wp_X2_digest_126   l1 x3 mem Q) : q_J X G 5 (q_QL X G Q) 126 [some (.ref (q_ad G 0)), some (.long l1), none, some (.int x3), none] [] mem := by
  obtain ⟨I, ⟨n, h0⟩, hs⟩ := h
  have key : ∀ (n : Nat) (yl1 : Int64) (yx3 : Int32) (ymem : q_Mem), I n yl1 yx3 ymem → q_J X G 5 (q_QL X G Q) 126 [some (.ref (q_ad G 0)), some (.long yl1), none, some (.int yx3), none] [] ymem := by
    intro n
    induction n using Nat.strongRecOn with
    | ind n ih =>
      intro yl1 yx3 ymem hI
      exact sn_X2_digest_126_b hX    yl1 yx3 Q  (fun (zl1 : Int64) (zx3 : Int32) (zmem : q_Mem) => ∃ n2, n2 < n ∧ I n2 zl1 zx3 zmem) (fun zl1 zx3 zmem hz => by obtain ⟨n2, h1, h2⟩ := hz; exact ih n2 h1 zl1 zx3 zmem h2) ymem (hs n yl1 yx3 ymem hI)
  exact key n l1 x3 mem h0
set_option maxRecDepth 100000 in
set_option maxHeartbeats 4000000 in
theorem sn_X2_digest_111 {X : q_X} {G : q_G} (hX : q_C X cX2_digest 5 RX2 (some .long) 3 67)   (l1 : Int64) (Q : Int64 → q_Mem → Prop)  (mem : q_Mem) (h : wp_X2_digest_111   l1 mem Q) : q_J X G 5 (q_QL X G Q) 111 [some (.ref (q_ad G 0)), some (.long l1), none, none, none] [] mem := by
  unfold wp_X2_digest_111 at h
  refine q_lload_n hX rfl dX2_digest_111 112 rfl ?_
  refine q_aload_n hX rfl dX2_digest_112 113 rfl ?_
  refine gf_X2_10 hX dX2_digest_113 116 rfl ?_
  refine gf_X2_78 hX (Or.inl rfl) dX2_digest_116 119 rfl ?_
  refine q_iconst hX (5 : Int32) q_ki_5 dX2_digest_119 120 rfl ?_
  refine cl_X2_150 hX  ⟨Nat.le_of_ble_eq_true rfl, Nat.le_of_ble_eq_true rfl⟩ (Nat.le_of_ble_eq_true rfl) dX2_digest_120 123 rfl (sn_X2_mixRow l1 14 (5 : Int32)  mem _ h) (fun r_1 m_2 h => ?_)
  refine q_lstore_n hX dX2_digest_123 124 rfl (Nat.le_of_ble_eq_true rfl) rfl (fun y => [some (.ref (q_ad G 0)), some (.long y), none, none, none]) (fun _ => rfl) (fun l1_3 el1_3 => ?_)
  replace el1_3 := el1_3.symm; subst el1_3
  refine q_iconst hX (0 : Int32) q_ki_0 dX2_digest_124 125 rfl ?_
  refine q_istore_n hX dX2_digest_125 126 rfl (Nat.le_of_ble_eq_true rfl) rfl (fun y => [some (.ref (q_ad G 0)), some (.long r_1), none, some (.int y), none]) (fun _ => rfl) (fun x3_4 ex3_4 => ?_)
  replace ex3_4 := ex3_4.symm; subst ex3_4
  exact q_weak [true, true, false, true, false] rfl (sn_X2_digest_126 hX    r_1 (0 : Int32) Q  m_2 h)
set_option maxRecDepth 100000 in
set_option maxHeartbeats 4000000 in
theorem sn_X2_digest_85_b {X : q_X} {G : q_G} (hX : q_C X cX2_digest 5 RX2 (some .long) 3 67)   (l1 : Int64) (x3 : Int32) (Q : Int64 → q_Mem → Prop) (K85 : Int64 → Int32 → q_Mem → Prop) (hK85 : ∀ (yl1 : Int64) (yx3 : Int32) (ymem : q_Mem), K85 yl1 yx3 ymem → q_J X G 5 (q_QL X G Q) 85 [some (.ref (q_ad G 0)), some (.long yl1), none, some (.int yx3), none] [] ymem) (mem : q_Mem) (h : wp_X2_digest_85_b K85  l1 x3 mem Q) : q_J X G 5 (q_QL X G Q) 85 [some (.ref (q_ad G 0)), some (.long l1), none, some (.int x3), none] [] mem := by
  unfold wp_X2_digest_85_b at h
  refine q_iload_n hX rfl dX2_digest_85 86 rfl ?_
  refine q_aload_n hX rfl dX2_digest_86 87 rfl ?_
  refine gf_X2_31 hX dX2_digest_87 90 rfl ?_
  refine q_icmp_ge hX dX2_digest_90 93 111 rfl (by decide) (fun c_1 => ?_) (fun c_1 => ?_)
  · replace h := h.1 c_1
    exact q_weak [true, true, false, false, false] rfl (sn_X2_digest_111 hX    l1 Q  mem h)
  · replace h := h.2 c_1
    refine q_lload_n hX rfl dX2_digest_93 94 rfl ?_
    refine q_aload_n hX rfl dX2_digest_94 95 rfl ?_
    refine gf_X2_28 hX dX2_digest_95 98 rfl ?_
    refine q_iload_n hX rfl dX2_digest_98 99 rfl ?_
    obtain ⟨g_2, h⟩ := h
    refine q_aald hX rfl g_2 dX2_digest_99 100 rfl ?_
    refine q_iconst hX (5 : Int32) q_ki_5 dX2_digest_100 101 rfl ?_
    refine cl_X2_150 hX  ⟨Nat.le_of_ble_eq_true rfl, Nat.le_of_ble_eq_true rfl⟩ (Nat.le_of_ble_eq_true rfl) dX2_digest_101 104 rfl (sn_X2_mixRow l1 (35 + x3.toNatClampNeg) (5 : Int32)  mem _ h) (fun r_3 m_4 h => ?_)
    refine q_lstore_n hX dX2_digest_104 105 rfl (Nat.le_of_ble_eq_true rfl) rfl (fun y => [some (.ref (q_ad G 0)), some (.long y), none, some (.int x3), none]) (fun _ => rfl) (fun l1_5 el1_5 => ?_)
    replace el1_5 := el1_5.symm; subst el1_5
    refine q_iinc hX (1 : Int32) q_ki_1 rfl dX2_digest_105 108 rfl (Nat.le_of_ble_eq_true rfl) rfl (fun y => [some (.ref (q_ad G 0)), some (.long r_3), none, some (.int y), none]) (fun _ => rfl) (fun x3_6 ex3_6 => ?_)
    replace h := h x3_6 ex3_6
    refine q_goto hX dX2_digest_108 85 (by decide) ?_
    exact q_weak [true, true, false, true, false] rfl (hK85 r_3 x3_6 m_4 h)
set_option maxRecDepth 100000 in
set_option maxHeartbeats 4000000 in
theorem sn_X2_digest_85 {X : q_X} {G : q_G} (hX : q_C X cX2_digest 5 RX2 (some .long) 3 67)   (l1 : Int64) (x3 : Int32) (Q : Int64 → q_Mem → Prop)  (mem : q_Mem) (h : wp_X2_digest_85   l1 x3 mem Q) : q_J X G 5 (q_QL X G Q) 85 [some (.ref (q_ad G 0)), some (.long l1), none, some (.int x3), none] [] mem := by
  obtain ⟨I, ⟨n, h0⟩, hs⟩ := h
  have key : ∀ (n : Nat) (yl1 : Int64) (yx3 : Int32) (ymem : q_Mem), I n yl1 yx3 ymem → q_J X G 5 (q_QL X G Q) 85 [some (.ref (q_ad G 0)), some (.long yl1), none, some (.int yx3), none] [] ymem := by
    intro n
    induction n using Nat.strongRecOn with
    | ind n ih =>
      intro yl1 yx3 ymem hI
      exact sn_X2_digest_85_b hX    yl1 yx3 Q  (fun (zl1 : Int64) (zx3 : Int32) (zmem : q_Mem) => ∃ n2, n2 < n ∧ I n2 zl1 zx3 zmem) (fun zl1 zx3 zmem hz => by obtain ⟨n2, h1, h2⟩ := hz; exact ih n2 h1 zl1 zx3 zmem h2) ymem (hs n yl1 yx3 ymem hI)
  exact key n l1 x3 mem h0
set_option maxRecDepth 100000 in
set_option maxHeartbeats 4000000 in
theorem sn_X2_digest_83 {X : q_X} {G : q_G} (hX : q_C X cX2_digest 5 RX2 (some .long) 3 67)   (l1 : Int64) (Q : Int64 → q_Mem → Prop)  (mem : q_Mem) (h : wp_X2_digest_83   l1 mem Q) : q_J X G 5 (q_QL X G Q) 83 [some (.ref (q_ad G 0)), some (.long l1), none, none, none] [] mem := by
  unfold wp_X2_digest_83 at h
  refine q_iconst hX (0 : Int32) q_ki_0 dX2_digest_83 84 rfl ?_
  refine q_istore_n hX dX2_digest_84 85 rfl (Nat.le_of_ble_eq_true rfl) rfl (fun y => [some (.ref (q_ad G 0)), some (.long l1), none, some (.int y), none]) (fun _ => rfl) (fun x3_1 ex3_1 => ?_)
  replace ex3_1 := ex3_1.symm; subst ex3_1
  exact q_weak [true, true, false, true, false] rfl (sn_X2_digest_85 hX    l1 (0 : Int32) Q  mem h)
set_option maxRecDepth 100000 in
set_option maxHeartbeats 4000000 in
theorem sn_X2_digest_77 {X : q_X} {G : q_G} (hX : q_C X cX2_digest 5 RX2 (some .long) 3 67)   (l1 : Int64) (x3 : Int32) (Q : Int64 → q_Mem → Prop) (K34 : Int64 → Int32 → q_Mem → Prop) (hK34 : ∀ (yl1 : Int64) (yx3 : Int32) (ymem : q_Mem), K34 yl1 yx3 ymem → q_J X G 5 (q_QL X G Q) 34 [some (.ref (q_ad G 0)), some (.long yl1), none, some (.int yx3), none] [] ymem) (mem : q_Mem) (h : wp_X2_digest_77 K34  l1 x3 mem Q) : q_J X G 5 (q_QL X G Q) 77 [some (.ref (q_ad G 0)), some (.long l1), none, some (.int x3), none] [] mem := by
  unfold wp_X2_digest_77 at h
  refine q_iinc hX (1 : Int32) q_ki_1 rfl dX2_digest_77 80 rfl (Nat.le_of_ble_eq_true rfl) rfl (fun y => [some (.ref (q_ad G 0)), some (.long l1), none, some (.int y), none]) (fun _ => rfl) (fun x3_1 ex3_1 => ?_)
  replace h := h x3_1 ex3_1
  refine q_goto hX dX2_digest_80 34 (by decide) ?_
  exact q_weak [true, true, false, true, false] rfl (hK34 l1 x3_1 mem h)
set_option maxRecDepth 100000 in
set_option maxHeartbeats 4000000 in
theorem sn_X2_digest_48_b {X : q_X} {G : q_G} (hX : q_C X cX2_digest 5 RX2 (some .long) 3 67)   (l1 : Int64) (x3 : Int32) (x4 : Int32) (Q : Int64 → q_Mem → Prop) (K34 : Int64 → Int32 → q_Mem → Prop) (hK34 : ∀ (yl1 : Int64) (yx3 : Int32) (ymem : q_Mem), K34 yl1 yx3 ymem → q_J X G 5 (q_QL X G Q) 34 [some (.ref (q_ad G 0)), some (.long yl1), none, some (.int yx3), none] [] ymem) (K48 : Int64 → Int32 → q_Mem → Prop) (hK48 : ∀ (yl1 : Int64) (yx4 : Int32) (ymem : q_Mem), K48 yl1 yx4 ymem → q_J X G 5 (q_QL X G Q) 48 [some (.ref (q_ad G 0)), some (.long yl1), none, some (.int x3), some (.int yx4)] [] ymem) (mem : q_Mem) (h : wp_X2_digest_48_b K34 K48  l1 x3 x4 mem Q) : q_J X G 5 (q_QL X G Q) 48 [some (.ref (q_ad G 0)), some (.long l1), none, some (.int x3), some (.int x4)] [] mem := by
  unfold wp_X2_digest_48_b at h
  refine q_iload hX rfl dX2_digest_48 50 rfl ?_
  refine q_bipush hX (9 : Int32) q_kb_9 dX2_digest_50 52 rfl ?_
  refine q_icmp_ge hX dX2_digest_52 55 77 rfl (by decide) (fun c_1 => ?_) (fun c_1 => ?_)
  · replace h := h.1 c_1
    exact q_weak [true, true, false, true, false] rfl (sn_X2_digest_77 hX    l1 x3 Q K34 hK34 mem h)
  · replace h := h.2 c_1
    refine q_lload_n hX rfl dX2_digest_55 56 rfl ?_
    refine q_aload_n hX rfl dX2_digest_56 57 rfl ?_
    refine gf_X2_10 hX dX2_digest_57 60 rfl ?_
    refine q_iload_n hX rfl dX2_digest_60 61 rfl ?_
    refine q_iload hX rfl dX2_digest_61 63 rfl ?_
    refine cl_X2_81 hX (Or.inl rfl) ⟨Nat.le_of_ble_eq_true rfl, Nat.le_of_ble_eq_true rfl⟩ (Nat.le_of_ble_eq_true rfl) dX2_digest_63 66 rfl (sn_X1_tellOf 1 x3 x4 (Or.inl rfl) mem _ h) (fun r_2 m_3 h => ?_)
    refine q_i2l hX dX2_digest_66 67 rfl ?_
    refine cl_X2_154 hX  ⟨Nat.le_of_ble_eq_true rfl, Nat.le_of_ble_eq_true rfl⟩ (Nat.le_of_ble_eq_true rfl) dX2_digest_67 70 rfl (sn_X2_mix l1 (r_2.toInt64)  m_3 _ h) (fun r_4 m_5 h => ?_)
    refine q_lstore_n hX dX2_digest_70 71 rfl (Nat.le_of_ble_eq_true rfl) rfl (fun y => [some (.ref (q_ad G 0)), some (.long y), none, some (.int x3), some (.int x4)]) (fun _ => rfl) (fun l1_6 el1_6 => ?_)
    replace el1_6 := el1_6.symm; subst el1_6
    refine q_iinc hX (1 : Int32) q_ki_1 rfl dX2_digest_71 74 rfl (Nat.le_of_ble_eq_true rfl) rfl (fun y => [some (.ref (q_ad G 0)), some (.long r_4), none, some (.int x3), some (.int y)]) (fun _ => rfl) (fun x4_7 ex4_7 => ?_)
    replace h := h x4_7 ex4_7
    refine q_goto hX dX2_digest_74 48 (by decide) ?_
    exact q_weak [true, true, false, true, true] rfl (hK48 r_4 x4_7 m_5 h)
set_option maxRecDepth 100000 in
set_option maxHeartbeats 4000000 in
theorem sn_X2_digest_48 {X : q_X} {G : q_G} (hX : q_C X cX2_digest 5 RX2 (some .long) 3 67)   (l1 : Int64) (x3 : Int32) (x4 : Int32) (Q : Int64 → q_Mem → Prop) (K34 : Int64 → Int32 → q_Mem → Prop) (hK34 : ∀ (yl1 : Int64) (yx3 : Int32) (ymem : q_Mem), K34 yl1 yx3 ymem → q_J X G 5 (q_QL X G Q) 34 [some (.ref (q_ad G 0)), some (.long yl1), none, some (.int yx3), none] [] ymem) (mem : q_Mem) (h : wp_X2_digest_48 K34  l1 x3 x4 mem Q) : q_J X G 5 (q_QL X G Q) 48 [some (.ref (q_ad G 0)), some (.long l1), none, some (.int x3), some (.int x4)] [] mem := by
  obtain ⟨I, ⟨n, h0⟩, hs⟩ := h
  have key : ∀ (n : Nat) (yl1 : Int64) (yx4 : Int32) (ymem : q_Mem), I n yl1 yx4 ymem → q_J X G 5 (q_QL X G Q) 48 [some (.ref (q_ad G 0)), some (.long yl1), none, some (.int x3), some (.int yx4)] [] ymem := by
    intro n
    induction n using Nat.strongRecOn with
    | ind n ih =>
      intro yl1 yx4 ymem hI
      exact sn_X2_digest_48_b hX    yl1 x3 yx4 Q K34 hK34 (fun (zl1 : Int64) (zx4 : Int32) (zmem : q_Mem) => ∃ n2, n2 < n ∧ I n2 zl1 zx4 zmem) (fun zl1 zx4 zmem hz => by obtain ⟨n2, h1, h2⟩ := hz; exact ih n2 h1 zl1 zx4 zmem h2) ymem (hs n yl1 yx4 ymem hI)
  exact key n l1 x4 mem h0
set_option maxRecDepth 100000 in
set_option maxHeartbeats 4000000 in
theorem sn_X2_digest_34_b {X : q_X} {G : q_G} (hX : q_C X cX2_digest 5 RX2 (some .long) 3 67)   (l1 : Int64) (x3 : Int32) (Q : Int64 → q_Mem → Prop) (K34 : Int64 → Int32 → q_Mem → Prop) (hK34 : ∀ (yl1 : Int64) (yx3 : Int32) (ymem : q_Mem), K34 yl1 yx3 ymem → q_J X G 5 (q_QL X G Q) 34 [some (.ref (q_ad G 0)), some (.long yl1), none, some (.int yx3), none] [] ymem) (mem : q_Mem) (h : wp_X2_digest_34_b K34  l1 x3 mem Q) : q_J X G 5 (q_QL X G Q) 34 [some (.ref (q_ad G 0)), some (.long l1), none, some (.int x3), none] [] mem := by
  unfold wp_X2_digest_34_b at h
  refine q_iload_n hX rfl dX2_digest_34 35 rfl ?_
  refine q_aload_n hX rfl dX2_digest_35 36 rfl ?_
  refine gf_X2_10 hX dX2_digest_36 39 rfl ?_
  refine gf_X2_54 hX (Or.inl rfl) dX2_digest_39 42 rfl ?_
  refine q_icmp_ge hX dX2_digest_42 45 83 rfl (by decide) (fun c_1 => ?_) (fun c_1 => ?_)
  · replace h := h.1 c_1
    exact q_weak [true, true, false, false, false] rfl (sn_X2_digest_83 hX    l1 Q  mem h)
  · replace h := h.2 c_1
    refine q_iconst hX (0 : Int32) q_ki_0 dX2_digest_45 46 rfl ?_
    refine q_istore hX dX2_digest_46 48 rfl (Nat.le_of_ble_eq_true rfl) rfl (fun y => [some (.ref (q_ad G 0)), some (.long l1), none, some (.int x3), some (.int y)]) (fun _ => rfl) (fun x4_2 ex4_2 => ?_)
    replace ex4_2 := ex4_2.symm; subst ex4_2
    exact q_weak [true, true, false, true, true] rfl (sn_X2_digest_48 hX    l1 x3 (0 : Int32) Q K34 hK34 mem h)
set_option maxRecDepth 100000 in
set_option maxHeartbeats 4000000 in
theorem sn_X2_digest_34 {X : q_X} {G : q_G} (hX : q_C X cX2_digest 5 RX2 (some .long) 3 67)   (l1 : Int64) (x3 : Int32) (Q : Int64 → q_Mem → Prop)  (mem : q_Mem) (h : wp_X2_digest_34   l1 x3 mem Q) : q_J X G 5 (q_QL X G Q) 34 [some (.ref (q_ad G 0)), some (.long l1), none, some (.int x3), none] [] mem := by
  obtain ⟨I, ⟨n, h0⟩, hs⟩ := h
  have key : ∀ (n : Nat) (yl1 : Int64) (yx3 : Int32) (ymem : q_Mem), I n yl1 yx3 ymem → q_J X G 5 (q_QL X G Q) 34 [some (.ref (q_ad G 0)), some (.long yl1), none, some (.int yx3), none] [] ymem := by
    intro n
    induction n using Nat.strongRecOn with
    | ind n ih =>
      intro yl1 yx3 ymem hI
      exact sn_X2_digest_34_b hX    yl1 yx3 Q  (fun (zl1 : Int64) (zx3 : Int32) (zmem : q_Mem) => ∃ n2, n2 < n ∧ I n2 zl1 zx3 zmem) (fun zl1 zx3 zmem hz => by obtain ⟨n2, h1, h2⟩ := hz; exact ih n2 h1 zl1 zx3 zmem h2) ymem (hs n yl1 yx3 ymem hI)
  exact key n l1 x3 mem h0
set_option maxRecDepth 100000 in
set_option maxHeartbeats 4000000 in
theorem sn_X2_digest_32 {X : q_X} {G : q_G} (hX : q_C X cX2_digest 5 RX2 (some .long) 3 67)   (l1 : Int64) (Q : Int64 → q_Mem → Prop)  (mem : q_Mem) (h : wp_X2_digest_32   l1 mem Q) : q_J X G 5 (q_QL X G Q) 32 [some (.ref (q_ad G 0)), some (.long l1), none, none, none] [] mem := by
  unfold wp_X2_digest_32 at h
  refine q_iconst hX (0 : Int32) q_ki_0 dX2_digest_32 33 rfl ?_
  refine q_istore_n hX dX2_digest_33 34 rfl (Nat.le_of_ble_eq_true rfl) rfl (fun y => [some (.ref (q_ad G 0)), some (.long l1), none, some (.int y), none]) (fun _ => rfl) (fun x3_1 ex3_1 => ?_)
  replace ex3_1 := ex3_1.symm; subst ex3_1
  exact q_weak [true, true, false, true, false] rfl (sn_X2_digest_34 hX    l1 (0 : Int32) Q  mem h)
set_option maxRecDepth 100000 in
set_option maxHeartbeats 4000000 in
theorem sn_X2_digest_6_b {X : q_X} {G : q_G} (hX : q_C X cX2_digest 5 RX2 (some .long) 3 67)   (l1 : Int64) (x3 : Int32) (Q : Int64 → q_Mem → Prop) (K6 : Int64 → Int32 → q_Mem → Prop) (hK6 : ∀ (yl1 : Int64) (yx3 : Int32) (ymem : q_Mem), K6 yl1 yx3 ymem → q_J X G 5 (q_QL X G Q) 6 [some (.ref (q_ad G 0)), some (.long yl1), none, some (.int yx3), none] [] ymem) (mem : q_Mem) (h : wp_X2_digest_6_b K6  l1 x3 mem Q) : q_J X G 5 (q_QL X G Q) 6 [some (.ref (q_ad G 0)), some (.long l1), none, some (.int x3), none] [] mem := by
  unfold wp_X2_digest_6_b at h
  refine q_iload_n hX rfl dX2_digest_6 7 rfl ?_
  refine q_iconst hX (3 : Int32) q_ki_3 dX2_digest_7 8 rfl ?_
  refine q_icmp_ge hX dX2_digest_8 11 32 rfl (by decide) (fun c_1 => ?_) (fun c_1 => ?_)
  · replace h := h.1 c_1
    exact q_weak [true, true, false, false, false] rfl (sn_X2_digest_32 hX    l1 Q  mem h)
  · replace h := h.2 c_1
    refine q_lload_n hX rfl dX2_digest_11 12 rfl ?_
    refine q_aload_n hX rfl dX2_digest_12 13 rfl ?_
    refine gf_X2_10 hX dX2_digest_13 16 rfl ?_
    refine gf_X2_64 hX (Or.inl rfl) dX2_digest_16 19 rfl ?_
    refine q_iload_n hX rfl dX2_digest_19 20 rfl ?_
    obtain ⟨g_2, h⟩ := h
    refine q_aald hX (q_sh_w1 (Or.inl rfl)) g_2 dX2_digest_20 21 rfl ?_
    refine q_iconst hX (5 : Int32) q_ki_5 dX2_digest_21 22 rfl ?_
    refine cl_X2_150 hX  ⟨Nat.le_of_ble_eq_true rfl, Nat.le_of_ble_eq_true rfl⟩ (Nat.le_of_ble_eq_true rfl) dX2_digest_22 25 rfl (sn_X2_mixRow l1 (3 + x3.toNatClampNeg) (5 : Int32)  mem _ h) (fun r_3 m_4 h => ?_)
    refine q_lstore_n hX dX2_digest_25 26 rfl (Nat.le_of_ble_eq_true rfl) rfl (fun y => [some (.ref (q_ad G 0)), some (.long y), none, some (.int x3), none]) (fun _ => rfl) (fun l1_5 el1_5 => ?_)
    replace el1_5 := el1_5.symm; subst el1_5
    refine q_iinc hX (1 : Int32) q_ki_1 rfl dX2_digest_26 29 rfl (Nat.le_of_ble_eq_true rfl) rfl (fun y => [some (.ref (q_ad G 0)), some (.long r_3), none, some (.int y), none]) (fun _ => rfl) (fun x3_6 ex3_6 => ?_)
    replace h := h x3_6 ex3_6
    refine q_goto hX dX2_digest_29 6 (by decide) ?_
    exact q_weak [true, true, false, true, false] rfl (hK6 r_3 x3_6 m_4 h)
set_option maxRecDepth 100000 in
set_option maxHeartbeats 4000000 in
theorem sn_X2_digest_6 {X : q_X} {G : q_G} (hX : q_C X cX2_digest 5 RX2 (some .long) 3 67)   (l1 : Int64) (x3 : Int32) (Q : Int64 → q_Mem → Prop)  (mem : q_Mem) (h : wp_X2_digest_6   l1 x3 mem Q) : q_J X G 5 (q_QL X G Q) 6 [some (.ref (q_ad G 0)), some (.long l1), none, some (.int x3), none] [] mem := by
  obtain ⟨I, ⟨n, h0⟩, hs⟩ := h
  have key : ∀ (n : Nat) (yl1 : Int64) (yx3 : Int32) (ymem : q_Mem), I n yl1 yx3 ymem → q_J X G 5 (q_QL X G Q) 6 [some (.ref (q_ad G 0)), some (.long yl1), none, some (.int yx3), none] [] ymem := by
    intro n
    induction n using Nat.strongRecOn with
    | ind n ih =>
      intro yl1 yx3 ymem hI
      exact sn_X2_digest_6_b hX    yl1 yx3 Q  (fun (zl1 : Int64) (zx3 : Int32) (zmem : q_Mem) => ∃ n2, n2 < n ∧ I n2 zl1 zx3 zmem) (fun zl1 zx3 zmem hz => by obtain ⟨n2, h1, h2⟩ := hz; exact ih n2 h1 zl1 zx3 zmem h2) ymem (hs n yl1 yx3 ymem hI)
  exact key n l1 x3 mem h0
set_option maxRecDepth 100000 in
set_option maxHeartbeats 4000000 in
theorem sn_X2_digest_0 {X : q_X} {G : q_G} (hX : q_C X cX2_digest 5 RX2 (some .long) 3 67)    (Q : Int64 → q_Mem → Prop)  (mem : q_Mem) (h : wp_X2_digest    mem Q) : q_J X G 5 (q_QL X G Q) 0 [some (.ref (q_ad G 0)), none, none, none, none] [] mem := by
  unfold wp_X2_digest at h
  refine q_ldc2 hX tw_470 dX2_digest_0 3 rfl ?_
  refine q_lstore_n hX dX2_digest_3 4 rfl (Nat.le_of_ble_eq_true rfl) rfl (fun y => [some (.ref (q_ad G 0)), some (.long y), none, none, none]) (fun _ => rfl) (fun l1_1 el1_1 => ?_)
  replace el1_1 := el1_1.symm; subst el1_1
  refine q_iconst hX (0 : Int32) q_ki_0 dX2_digest_4 5 rfl ?_
  refine q_istore_n hX dX2_digest_5 6 rfl (Nat.le_of_ble_eq_true rfl) rfl (fun y => [some (.ref (q_ad G 0)), some (.long (181 : Int64)), none, some (.int y), none]) (fun _ => rfl) (fun x3_2 ex3_2 => ?_)
  replace ex3_2 := ex3_2.symm; subst ex3_2
  exact q_weak [true, true, false, true, false] rfl (sn_X2_digest_6 hX    (181 : Int64) (0 : Int32) Q  mem h)
set_option maxRecDepth 100000 in
set_option maxHeartbeats 4000000 in
theorem sn_X2_digest {l : Launch} {G : q_G}   (mem : q_Mem) (Q : Int64 → q_Mem → Prop) (h : wp_X2_digest  mem Q) : q_ML l G yX2_digest cX2_digest 5 (some .long) rm_X2_digest [.ref (q_ad G 0)] mem Q := by
  refine q_metL 4 (by decide +kernel) (Nat.le_of_ble_eq_true rfl) rfl (fun X hl hX => ?_)
  subst hl
  exact sn_X2_digest_0 hX   Q mem h

-- X2_excess
def wp_X2_excess  (a0 : Int32) (a1 : Int32)  (mem : q_Mem) (Q : Int32 → q_Mem → Prop) : Prop := wp_X2_hourRefusal a0 mem (fun r_1 m_2 => ((r_1 = 0) → wp_X2_within a1 (1 : Int32) ((m_2 1 11) - (1 : Int32)) m_2 (fun r_5 m_6 => ((¬ r_5 = 0) → vp_in a0 24 ∧ (wp_X1_firstLayers a1 m_6 (fun r_9 m_10 => wp_X0_excessBehind 1 (35 + a0.toNatClampNeg) r_9 m_10 (fun r_11 m_12 => Q r_11 m_12)))) ∧ ((r_5 = 0) → Q (-101 : Int32) m_6))) ∧ ((¬ r_1 = 0) → Q r_1 m_2))
set_option maxRecDepth 100000 in
set_option maxHeartbeats 4000000 in
theorem sn_X2_excess_0 {X : q_X} {G : q_G} (hX : q_C X cX2_excess 4 RX2 (some .int) 4 94) (a0 : Int32) (a1 : Int32)   (Q : Int32 → q_Mem → Prop)  (mem : q_Mem) (h : wp_X2_excess  a0 a1  mem Q) : q_J X G 4 (q_QI X G Q) 0 [some (.ref (q_ad G 0)), some (.int a0), some (.int a1), none] [] mem := by
  unfold wp_X2_excess at h
  refine q_aload_n hX rfl dX2_excess_0 1 rfl ?_
  refine q_iload_n hX rfl dX2_excess_1 2 rfl ?_
  refine cl_X2_117 hX  ⟨Nat.le_of_ble_eq_true rfl, Nat.le_of_ble_eq_true rfl⟩ (Nat.le_of_ble_eq_true rfl) dX2_excess_2 5 rfl (sn_X2_hourRefusal a0  mem _ h) (fun r_1 m_2 h => ?_)
  refine q_istore_n hX dX2_excess_5 6 rfl (Nat.le_of_ble_eq_true rfl) rfl (fun y => [some (.ref (q_ad G 0)), some (.int a0), some (.int a1), some (.int y)]) (fun _ => rfl) (fun x3_3 ex3_3 => ?_)
  replace ex3_3 := ex3_3.symm; subst ex3_3
  refine q_iload_n hX rfl dX2_excess_6 7 rfl ?_
  refine q_if_eq hX dX2_excess_7 10 12 rfl (by decide) (fun c_4 => ?_) (fun c_4 => ?_)
  · replace h := h.1 c_4
    refine q_iload_n hX rfl dX2_excess_12 13 rfl ?_
    refine q_iconst hX (1 : Int32) q_ki_1 dX2_excess_13 14 rfl ?_
    refine q_aload_n hX rfl dX2_excess_14 15 rfl ?_
    refine gf_X2_10 hX dX2_excess_15 18 rfl ?_
    refine gf_X2_54 hX (Or.inl rfl) dX2_excess_18 21 rfl ?_
    refine q_iconst hX (1 : Int32) q_ki_1 dX2_excess_21 22 rfl ?_
    refine q_isub hX dX2_excess_22 23 rfl ?_
    refine cl_X2_50 hX  ⟨Nat.le_of_ble_eq_true rfl, Nat.le_of_ble_eq_true rfl⟩ (Nat.le_of_ble_eq_true rfl) dX2_excess_23 26 rfl (sn_X2_within a1 (1 : Int32) ((m_2 1 11) - (1 : Int32))  m_2 _ h) (fun r_5 m_6 h => ?_)
    refine q_if_ne hX dX2_excess_26 29 32 rfl (by decide) (fun c_7 => ?_) (fun c_7 => ?_)
    · replace h := h.1 c_7
      refine q_aload_n hX rfl dX2_excess_32 33 rfl ?_
      refine gf_X2_22 hX dX2_excess_33 36 rfl ?_
      refine q_aload_n hX rfl dX2_excess_36 37 rfl ?_
      refine gf_X2_10 hX dX2_excess_37 40 rfl ?_
      refine q_aload_n hX rfl dX2_excess_40 41 rfl ?_
      refine gf_X2_28 hX dX2_excess_41 44 rfl ?_
      refine q_iload_n hX rfl dX2_excess_44 45 rfl ?_
      obtain ⟨g_8, h⟩ := h
      refine q_aald hX rfl g_8 dX2_excess_45 46 rfl ?_
      refine q_iload_n hX rfl dX2_excess_46 47 rfl ?_
      refine cl_X2_120 hX  ⟨Nat.le_of_ble_eq_true rfl, Nat.le_of_ble_eq_true rfl⟩ (Nat.le_of_ble_eq_true rfl) dX2_excess_47 50 rfl (sn_X1_firstLayers a1  m_6 _ h) (fun r_9 m_10 h => ?_)
      refine cl_X2_123 hX  ⟨Nat.le_of_ble_eq_true rfl, Nat.le_of_ble_eq_true rfl⟩ (Nat.le_of_ble_eq_true rfl) dX2_excess_50 53 rfl (sn_X0_excessBehind 1 (35 + a0.toNatClampNeg) r_9 (Or.inl rfl) m_10 _ h) (fun r_11 m_12 h => ?_)
      exact q_iret hX dX2_excess_53 h
    · replace h := h.2 c_7
      refine q_bipush hX (-101 : Int32) q_kb_m101 dX2_excess_29 31 rfl ?_
      exact q_iret hX dX2_excess_31 h
  · replace h := h.2 c_4
    refine q_iload_n hX rfl dX2_excess_10 11 rfl ?_
    exact q_iret hX dX2_excess_11 h
set_option maxRecDepth 100000 in
set_option maxHeartbeats 4000000 in
theorem sn_X2_excess {l : Launch} {G : q_G} (a0 : Int32) (a1 : Int32)  (mem : q_Mem) (Q : Int32 → q_Mem → Prop) (h : wp_X2_excess a0 a1 mem Q) : q_MI l G yX2_excess cX2_excess 4 (some .int) rm_X2_excess [.ref (q_ad G 0), .int a0, .int a1] mem Q := by
  refine q_metI 1 (by decide +kernel) (Nat.le_of_ble_eq_true rfl) rfl (fun X hl hX => ?_)
  subst hl
  exact sn_X2_excess_0 hX a0 a1  Q mem h

-- X2_faceRefusal
def wp_X2_faceRefusal_35  (a0 : Int32) (a1 : Int32)  (mem : q_Mem) (Q : Int32 → q_Mem → Prop) : Prop := Q (-10101 : Int32) mem
def wp_X2_faceRefusal  (a0 : Int32) (a1 : Int32)  (mem : q_Mem) (Q : Int32 → q_Mem → Prop) : Prop := wp_X2_hourRefusal a0 mem (fun r_1 m_2 => ((¬ r_1 = (-103 : Int32)) → ((¬ r_1 = 0) → wp_X2_faceRefusal_35  a0 a1  m_2 Q) ∧ ((r_1 = 0) → wp_X2_within a1 (0 : Int32) (m_2 1 11) m_2 (fun r_6 m_7 => ((¬ r_6 = 0) → Q (0 : Int32) m_7) ∧ ((r_6 = 0) → wp_X2_faceRefusal_35  a0 a1  m_7 Q)))) ∧ ((r_1 = (-103 : Int32)) → Q (-10103 : Int32) m_2))
set_option maxRecDepth 100000 in
set_option maxHeartbeats 4000000 in
theorem sn_X2_faceRefusal_35 {X : q_X} {G : q_G} (hX : q_C X cX2_faceRefusal 4 RX2 (some .int) 2 43) (a0 : Int32) (a1 : Int32)   (Q : Int32 → q_Mem → Prop)  (mem : q_Mem) (h : wp_X2_faceRefusal_35  a0 a1  mem Q) : q_J X G 4 (q_QI X G Q) 35 [some (.ref (q_ad G 0)), some (.int a0), some (.int a1), none] [] mem := by
  unfold wp_X2_faceRefusal_35 at h
  refine q_sipush hX (-10101 : Int32) q_ks_m10101 dX2_faceRefusal_35 38 rfl ?_
  refine q_goto hX dX2_faceRefusal_38 42 (by decide) ?_
  exact q_iret hX dX2_faceRefusal_42 h
set_option maxRecDepth 100000 in
set_option maxHeartbeats 4000000 in
theorem sn_X2_faceRefusal_0 {X : q_X} {G : q_G} (hX : q_C X cX2_faceRefusal 4 RX2 (some .int) 2 43) (a0 : Int32) (a1 : Int32)   (Q : Int32 → q_Mem → Prop)  (mem : q_Mem) (h : wp_X2_faceRefusal  a0 a1  mem Q) : q_J X G 4 (q_QI X G Q) 0 [some (.ref (q_ad G 0)), some (.int a0), some (.int a1), none] [] mem := by
  unfold wp_X2_faceRefusal at h
  refine q_aload_n hX rfl dX2_faceRefusal_0 1 rfl ?_
  refine q_iload_n hX rfl dX2_faceRefusal_1 2 rfl ?_
  refine cl_X2_117 hX  ⟨Nat.le_of_ble_eq_true rfl, Nat.le_of_ble_eq_true rfl⟩ (Nat.le_of_ble_eq_true rfl) dX2_faceRefusal_2 5 rfl (sn_X2_hourRefusal a0  mem _ h) (fun r_1 m_2 h => ?_)
  refine q_istore_n hX dX2_faceRefusal_5 6 rfl (Nat.le_of_ble_eq_true rfl) rfl (fun y => [some (.ref (q_ad G 0)), some (.int a0), some (.int a1), some (.int y)]) (fun _ => rfl) (fun x3_3 ex3_3 => ?_)
  replace ex3_3 := ex3_3.symm; subst ex3_3
  refine q_iload_n hX rfl dX2_faceRefusal_6 7 rfl ?_
  refine q_bipush hX (-103 : Int32) q_kb_m103 dX2_faceRefusal_7 9 rfl ?_
  refine q_icmp_ne hX dX2_faceRefusal_9 12 16 rfl (by decide) (fun c_4 => ?_) (fun c_4 => ?_)
  · replace h := h.1 c_4
    refine q_iload_n hX rfl dX2_faceRefusal_16 17 rfl ?_
    refine q_if_ne hX dX2_faceRefusal_17 20 35 rfl (by decide) (fun c_5 => ?_) (fun c_5 => ?_)
    · replace h := h.1 c_5
      exact q_weak [true, true, true, false] rfl (sn_X2_faceRefusal_35 hX  a0 a1   Q  m_2 h)
    · replace h := h.2 c_5
      refine q_iload_n hX rfl dX2_faceRefusal_20 21 rfl ?_
      refine q_iconst hX (0 : Int32) q_ki_0 dX2_faceRefusal_21 22 rfl ?_
      refine q_aload_n hX rfl dX2_faceRefusal_22 23 rfl ?_
      refine gf_X2_10 hX dX2_faceRefusal_23 26 rfl ?_
      refine gf_X2_54 hX (Or.inl rfl) dX2_faceRefusal_26 29 rfl ?_
      refine cl_X2_50 hX  ⟨Nat.le_of_ble_eq_true rfl, Nat.le_of_ble_eq_true rfl⟩ (Nat.le_of_ble_eq_true rfl) dX2_faceRefusal_29 32 rfl (sn_X2_within a1 (0 : Int32) (m_2 1 11)  m_2 _ h) (fun r_6 m_7 h => ?_)
      refine q_if_ne hX dX2_faceRefusal_32 35 41 rfl (by decide) (fun c_8 => ?_) (fun c_8 => ?_)
      · replace h := h.1 c_8
        refine q_iconst hX (0 : Int32) q_ki_0 dX2_faceRefusal_41 42 rfl ?_
        exact q_iret hX dX2_faceRefusal_42 h
      · replace h := h.2 c_8
        exact q_weak [true, true, true, false] rfl (sn_X2_faceRefusal_35 hX  a0 a1   Q  m_7 h)
  · replace h := h.2 c_4
    refine q_sipush hX (-10103 : Int32) q_ks_m10103 dX2_faceRefusal_12 15 rfl ?_
    exact q_iret hX dX2_faceRefusal_15 h
set_option maxRecDepth 100000 in
set_option maxHeartbeats 4000000 in
theorem sn_X2_faceRefusal {l : Launch} {G : q_G} (a0 : Int32) (a1 : Int32)  (mem : q_Mem) (Q : Int32 → q_Mem → Prop) (h : wp_X2_faceRefusal a0 a1 mem Q) : q_MI l G yX2_faceRefusal cX2_faceRefusal 4 (some .int) rm_X2_faceRefusal [.ref (q_ad G 0), .int a0, .int a1] mem Q := by
  refine q_metI 1 (by decide +kernel) (Nat.le_of_ble_eq_true rfl) rfl (fun X hl hX => ?_)
  subst hl
  exact sn_X2_faceRefusal_0 hX a0 a1  Q mem h

-- X2_fair
def wp_X2_fair    (mem : q_Mem) (Q : Int32 → q_Mem → Prop) : Prop := ∀ x1_1 : Int32, x1_1 = (mem 0 4) → ∀ m_2 : q_Mem, m_2 = q_set mem 0 (upd (mem 0) 4 (0 : Int32)) → ∀ m_3 : q_Mem, m_3 = q_set m_2 0 (upd (m_2 0) 5 (0 : Int32)) → Q x1_1 m_3
set_option maxRecDepth 100000 in
set_option maxHeartbeats 4000000 in
theorem sn_X2_fair_0 {X : q_X} {G : q_G} (hX : q_C X cX2_fair 2 RX2 (some .int) 0 0)    (Q : Int32 → q_Mem → Prop)  (mem : q_Mem) (h : wp_X2_fair    mem Q) : q_J X G 2 (q_QI X G Q) 0 [some (.ref (q_ad G 0)), none] [] mem := by
  unfold wp_X2_fair at h
  refine q_aload_n hX rfl dX2_fair_0 1 rfl ?_
  refine gf_X2_31 hX dX2_fair_1 4 rfl ?_
  refine q_istore_n hX dX2_fair_4 5 rfl (Nat.le_of_ble_eq_true rfl) rfl (fun y => [some (.ref (q_ad G 0)), some (.int y)]) (fun _ => rfl) (fun x1_1 ex1_1 => ?_)
  replace h := h x1_1 ex1_1
  refine q_aload_n hX rfl dX2_fair_5 6 rfl ?_
  refine q_iconst hX (0 : Int32) q_ki_0 dX2_fair_6 7 rfl ?_
  refine pf_X2_31 hX dX2_fair_7 10 rfl (fun m_2 em_2 => ?_)
  replace h := h m_2 em_2
  refine q_aload_n hX rfl dX2_fair_10 11 rfl ?_
  refine q_iconst hX (0 : Int32) q_ki_0 dX2_fair_11 12 rfl ?_
  refine pf_X2_35 hX dX2_fair_12 15 rfl (fun m_3 em_3 => ?_)
  replace h := h m_3 em_3
  refine q_iload_n hX rfl dX2_fair_15 16 rfl ?_
  exact q_iret hX dX2_fair_16 h
set_option maxRecDepth 100000 in
set_option maxHeartbeats 4000000 in
theorem sn_X2_fair {l : Launch} {G : q_G}   (mem : q_Mem) (Q : Int32 → q_Mem → Prop) (h : wp_X2_fair  mem Q) : q_MI l G yX2_fair cX2_fair 2 (some .int) rm_X2_fair [.ref (q_ad G 0)] mem Q := by
  refine q_metI 1 (by decide +kernel) (Nat.le_of_ble_eq_true rfl) rfl (fun X hl hX => ?_)
  subst hl
  exact sn_X2_fair_0 hX   Q mem h

-- X2_lastHourRead
def wp_X2_lastHourRead_31   (x1 : Int32) (mem : q_Mem) (Q : Int32 → q_Mem → Prop) : Prop := Q x1 mem
def wp_X2_lastHourRead_4_b (K4 : Int32 → Int32 → q_Mem → Prop)  (x1 : Int32) (x2 : Int32) (mem : q_Mem) (Q : Int32 → q_Mem → Prop) : Prop := (((mem 0 8) ≤ x2) → wp_X2_lastHourRead_31   x1 mem Q) ∧ ((¬ (mem 0 8) ≤ x2) → vp_in x2 12 ∧ (vp_in (1 : Int32) (q_al (60 + x2.toNatClampNeg)) ∧ (∀ x1_4 : Int32, x1_4 = (if x1 < (mem (60 + x2.toNatClampNeg) (1 : Int32).toNatClampNeg) then mem (60 + x2.toNatClampNeg) (1 : Int32).toNatClampNeg else x1) → ∀ x2_5 : Int32, x2_5 = (x2 + (1 : Int32)) → K4 x1_4 x2_5 mem)))
def wp_X2_lastHourRead_4   (x1 : Int32) (x2 : Int32) (mem : q_Mem) (Q : Int32 → q_Mem → Prop) : Prop := ∃ I : Nat → Int32 → Int32 → q_Mem → Prop, (∃ n, I n x1 x2 mem) ∧ ∀ (n : Nat) (yx1 : Int32) (yx2 : Int32) (ymem : q_Mem), I n yx1 yx2 ymem → wp_X2_lastHourRead_4_b  (fun (zx1 : Int32) (zx2 : Int32) (zmem : q_Mem) => ∃ n2, n2 < n ∧ I n2 zx1 zx2 zmem)  yx1 yx2 ymem Q
def wp_X2_lastHourRead    (mem : q_Mem) (Q : Int32 → q_Mem → Prop) : Prop := wp_X2_lastHourRead_4   (0 : Int32) (0 : Int32) mem Q
set_option maxRecDepth 100000 in
set_option maxHeartbeats 4000000 in
theorem sn_X2_lastHourRead_31 {X : q_X} {G : q_G} (hX : q_C X cX2_lastHourRead 3 RX2 (some .int) 1 21)   (x1 : Int32) (Q : Int32 → q_Mem → Prop)  (mem : q_Mem) (h : wp_X2_lastHourRead_31   x1 mem Q) : q_J X G 3 (q_QI X G Q) 31 [some (.ref (q_ad G 0)), some (.int x1), none] [] mem := by
  unfold wp_X2_lastHourRead_31 at h
  refine q_iload_n hX rfl dX2_lastHourRead_31 32 rfl ?_
  exact q_iret hX dX2_lastHourRead_32 h
set_option maxRecDepth 100000 in
set_option maxHeartbeats 4000000 in
theorem sn_X2_lastHourRead_4_b {X : q_X} {G : q_G} (hX : q_C X cX2_lastHourRead 3 RX2 (some .int) 1 21)   (x1 : Int32) (x2 : Int32) (Q : Int32 → q_Mem → Prop) (K4 : Int32 → Int32 → q_Mem → Prop) (hK4 : ∀ (yx1 : Int32) (yx2 : Int32) (ymem : q_Mem), K4 yx1 yx2 ymem → q_J X G 3 (q_QI X G Q) 4 [some (.ref (q_ad G 0)), some (.int yx1), some (.int yx2)] [] ymem) (mem : q_Mem) (h : wp_X2_lastHourRead_4_b K4  x1 x2 mem Q) : q_J X G 3 (q_QI X G Q) 4 [some (.ref (q_ad G 0)), some (.int x1), some (.int x2)] [] mem := by
  unfold wp_X2_lastHourRead_4_b at h
  refine q_iload_n hX rfl dX2_lastHourRead_4 5 rfl ?_
  refine q_aload_n hX rfl dX2_lastHourRead_5 6 rfl ?_
  refine gf_X2_44 hX dX2_lastHourRead_6 9 rfl ?_
  refine q_icmp_ge hX dX2_lastHourRead_9 12 31 rfl (by decide) (fun c_1 => ?_) (fun c_1 => ?_)
  · replace h := h.1 c_1
    exact q_weak [true, true, false] rfl (sn_X2_lastHourRead_31 hX    x1 Q  mem h)
  · replace h := h.2 c_1
    refine q_iload_n hX rfl dX2_lastHourRead_12 13 rfl ?_
    refine q_aload_n hX rfl dX2_lastHourRead_13 14 rfl ?_
    refine gf_X2_41 hX dX2_lastHourRead_14 17 rfl ?_
    refine q_iload_n hX rfl dX2_lastHourRead_17 18 rfl ?_
    obtain ⟨g_2, h⟩ := h
    refine q_aald hX rfl g_2 dX2_lastHourRead_18 19 rfl ?_
    refine q_iconst hX (1 : Int32) q_ki_1 dX2_lastHourRead_19 20 rfl ?_
    obtain ⟨g_3, h⟩ := h
    refine q_iald hX g_3 dX2_lastHourRead_20 21 rfl ?_
    refine q_max hX (Nat.le_of_ble_eq_true rfl) (Nat.le_of_ble_eq_true rfl) tw_443 tw_310 tw_64 tw_311 dX2_lastHourRead_21 24 rfl ?_
    refine q_istore_n hX dX2_lastHourRead_24 25 rfl (Nat.le_of_ble_eq_true rfl) rfl (fun y => [some (.ref (q_ad G 0)), some (.int y), some (.int x2)]) (fun _ => rfl) (fun x1_4 ex1_4 => ?_)
    replace h := h x1_4 ex1_4
    refine q_iinc hX (1 : Int32) q_ki_1 rfl dX2_lastHourRead_25 28 rfl (Nat.le_of_ble_eq_true rfl) rfl (fun y => [some (.ref (q_ad G 0)), some (.int x1_4), some (.int y)]) (fun _ => rfl) (fun x2_5 ex2_5 => ?_)
    replace h := h x2_5 ex2_5
    refine q_goto hX dX2_lastHourRead_28 4 (by decide) ?_
    exact q_weak [true, true, true] rfl (hK4 x1_4 x2_5 mem h)
set_option maxRecDepth 100000 in
set_option maxHeartbeats 4000000 in
theorem sn_X2_lastHourRead_4 {X : q_X} {G : q_G} (hX : q_C X cX2_lastHourRead 3 RX2 (some .int) 1 21)   (x1 : Int32) (x2 : Int32) (Q : Int32 → q_Mem → Prop)  (mem : q_Mem) (h : wp_X2_lastHourRead_4   x1 x2 mem Q) : q_J X G 3 (q_QI X G Q) 4 [some (.ref (q_ad G 0)), some (.int x1), some (.int x2)] [] mem := by
  obtain ⟨I, ⟨n, h0⟩, hs⟩ := h
  have key : ∀ (n : Nat) (yx1 : Int32) (yx2 : Int32) (ymem : q_Mem), I n yx1 yx2 ymem → q_J X G 3 (q_QI X G Q) 4 [some (.ref (q_ad G 0)), some (.int yx1), some (.int yx2)] [] ymem := by
    intro n
    induction n using Nat.strongRecOn with
    | ind n ih =>
      intro yx1 yx2 ymem hI
      exact sn_X2_lastHourRead_4_b hX    yx1 yx2 Q  (fun (zx1 : Int32) (zx2 : Int32) (zmem : q_Mem) => ∃ n2, n2 < n ∧ I n2 zx1 zx2 zmem) (fun zx1 zx2 zmem hz => by obtain ⟨n2, h1, h2⟩ := hz; exact ih n2 h1 zx1 zx2 zmem h2) ymem (hs n yx1 yx2 ymem hI)
  exact key n x1 x2 mem h0
set_option maxRecDepth 100000 in
set_option maxHeartbeats 4000000 in
theorem sn_X2_lastHourRead_0 {X : q_X} {G : q_G} (hX : q_C X cX2_lastHourRead 3 RX2 (some .int) 1 21)    (Q : Int32 → q_Mem → Prop)  (mem : q_Mem) (h : wp_X2_lastHourRead    mem Q) : q_J X G 3 (q_QI X G Q) 0 [some (.ref (q_ad G 0)), none, none] [] mem := by
  unfold wp_X2_lastHourRead at h
  refine q_iconst hX (0 : Int32) q_ki_0 dX2_lastHourRead_0 1 rfl ?_
  refine q_istore_n hX dX2_lastHourRead_1 2 rfl (Nat.le_of_ble_eq_true rfl) rfl (fun y => [some (.ref (q_ad G 0)), some (.int y), none]) (fun _ => rfl) (fun x1_1 ex1_1 => ?_)
  replace ex1_1 := ex1_1.symm; subst ex1_1
  refine q_iconst hX (0 : Int32) q_ki_0 dX2_lastHourRead_2 3 rfl ?_
  refine q_istore_n hX dX2_lastHourRead_3 4 rfl (Nat.le_of_ble_eq_true rfl) rfl (fun y => [some (.ref (q_ad G 0)), some (.int (0 : Int32)), some (.int y)]) (fun _ => rfl) (fun x2_2 ex2_2 => ?_)
  replace ex2_2 := ex2_2.symm; subst ex2_2
  exact q_weak [true, true, true] rfl (sn_X2_lastHourRead_4 hX    (0 : Int32) (0 : Int32) Q  mem h)
set_option maxRecDepth 100000 in
set_option maxHeartbeats 4000000 in
theorem sn_X2_lastHourRead {l : Launch} {G : q_G}   (mem : q_Mem) (Q : Int32 → q_Mem → Prop) (h : wp_X2_lastHourRead  mem Q) : q_MI l G yX2_lastHourRead cX2_lastHourRead 3 (some .int) rm_X2_lastHourRead [.ref (q_ad G 0)] mem Q := by
  refine q_metI 2 (by decide +kernel) (Nat.le_of_ble_eq_true rfl) rfl (fun X hl hX => ?_)
  subst hl
  exact sn_X2_lastHourRead_0 hX   Q mem h

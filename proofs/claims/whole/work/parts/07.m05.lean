-- X3_layAside
def wp_X3_layAside_2_b (K2 : Int32 → q_Mem → Prop)  (x1 : Int32) (mem : q_Mem) (Q : q_Mem → Prop) : Prop := (((6 : Int32) ≤ x1) → Q mem) ∧ ((¬ (6 : Int32) ≤ x1) → vp_in x1 (q_al 73) ∧ (vp_in x1 (q_al 87) ∧ (∀ m_4 : q_Mem, m_4 = q_set mem 87 (upd (mem 87) x1.toNatClampNeg (mem 73 x1.toNatClampNeg)) → vp_in x1 (q_al 74) ∧ (vp_in ((6 : Int32) + x1) (q_al 87) ∧ (∀ m_7 : q_Mem, m_7 = q_set m_4 87 (upd (m_4 87) ((6 : Int32) + x1).toNatClampNeg (m_4 74 x1.toNatClampNeg)) → vp_in x1 (q_al 75) ∧ (vp_in ((12 : Int32) + x1) (q_al 87) ∧ (∀ m_10 : q_Mem, m_10 = q_set m_7 87 (upd (m_7 87) ((12 : Int32) + x1).toNatClampNeg (m_7 75 x1.toNatClampNeg)) → vp_in x1 (q_al 76) ∧ (vp_in ((18 : Int32) + x1) (q_al 87) ∧ (∀ m_13 : q_Mem, m_13 = q_set m_10 87 (upd (m_10 87) ((18 : Int32) + x1).toNatClampNeg (m_10 76 x1.toNatClampNeg)) → vp_in x1 (q_al 77) ∧ (vp_in ((24 : Int32) + x1) (q_al 87) ∧ (∀ m_16 : q_Mem, m_16 = q_set m_13 87 (upd (m_13 87) ((24 : Int32) + x1).toNatClampNeg (m_13 77 x1.toNatClampNeg)) → vp_in x1 (q_al 78) ∧ (vp_in ((30 : Int32) + x1) (q_al 87) ∧ (∀ m_19 : q_Mem, m_19 = q_set m_16 87 (upd (m_16 87) ((30 : Int32) + x1).toNatClampNeg (m_16 78 x1.toNatClampNeg)) → vp_in x1 (q_al 79) ∧ (vp_in ((36 : Int32) + x1) (q_al 87) ∧ (∀ m_22 : q_Mem, m_22 = q_set m_19 87 (upd (m_19 87) ((36 : Int32) + x1).toNatClampNeg (m_19 79 x1.toNatClampNeg)) → vp_in x1 (q_al 80) ∧ (vp_in ((42 : Int32) + x1) (q_al 87) ∧ (∀ m_25 : q_Mem, m_25 = q_set m_22 87 (upd (m_22 87) ((42 : Int32) + x1).toNatClampNeg (m_22 80 x1.toNatClampNeg)) → ∀ x1_26 : Int32, x1_26 = (x1 + (1 : Int32)) → K2 x1_26 m_25)))))))))))))))))
def wp_X3_layAside_2   (x1 : Int32) (mem : q_Mem) (Q : q_Mem → Prop) : Prop := ∃ I : Nat → Int32 → q_Mem → Prop, (∃ n, I n x1 mem) ∧ ∀ (n : Nat) (yx1 : Int32) (ymem : q_Mem), I n yx1 ymem → wp_X3_layAside_2_b  (fun (zx1 : Int32) (zmem : q_Mem) => ∃ n2, n2 < n ∧ I n2 zx1 zmem)  yx1 ymem Q
def wp_X3_layAside    (mem : q_Mem) (Q : q_Mem → Prop) : Prop := wp_X3_layAside_2   (0 : Int32) mem Q
set_option maxRecDepth 100000 in
set_option maxHeartbeats 4000000 in
theorem sn_X3_layAside_2_b {X : q_X} {G : q_G} (hX : q_C X cX3_layAside 2 RX3 none 0 0)   (x1 : Int32) (Q : q_Mem → Prop) (K2 : Int32 → q_Mem → Prop) (hK2 : ∀ (yx1 : Int32) (ymem : q_Mem), K2 yx1 ymem → q_J X G 2 (q_QV X G Q) 2 [some (.ref (q_ad G 72)), some (.int yx1)] [] ymem) (mem : q_Mem) (h : wp_X3_layAside_2_b K2  x1 mem Q) : q_J X G 2 (q_QV X G Q) 2 [some (.ref (q_ad G 72)), some (.int x1)] [] mem := by
  unfold wp_X3_layAside_2_b at h
  refine q_iload_n hX rfl dX3_layAside_2 3 rfl ?_
  refine q_bipush hX (6 : Int32) q_kb_6 dX3_layAside_3 5 rfl ?_
  refine q_icmp_ge hX dX3_layAside_5 8 131 rfl (by decide) (fun c_1 => ?_) (fun c_1 => ?_)
  · replace h := h.1 c_1
    exact q_vret hX dX3_layAside_131 h
  · replace h := h.2 c_1
    refine q_aload_n hX rfl dX3_layAside_8 9 rfl ?_
    refine gf_X3_52 hX dX3_layAside_9 12 rfl ?_
    refine q_iload_n hX rfl dX3_layAside_12 13 rfl ?_
    refine q_aload_n hX rfl dX3_layAside_13 14 rfl ?_
    refine gf_X3_7 hX dX3_layAside_14 17 rfl ?_
    refine q_iload_n hX rfl dX3_layAside_17 18 rfl ?_
    obtain ⟨g_2, h⟩ := h
    refine q_iald hX g_2 dX3_layAside_18 19 rfl ?_
    obtain ⟨g_3, h⟩ := h
    refine q_iast hX g_3 dX3_layAside_19 20 rfl (fun m_4 em_4 => ?_)
    replace h := h m_4 em_4
    refine q_aload_n hX rfl dX3_layAside_20 21 rfl ?_
    refine gf_X3_52 hX dX3_layAside_21 24 rfl ?_
    refine q_bipush hX (6 : Int32) q_kb_6 dX3_layAside_24 26 rfl ?_
    refine q_iload_n hX rfl dX3_layAside_26 27 rfl ?_
    refine q_iadd hX dX3_layAside_27 28 rfl ?_
    refine q_aload_n hX rfl dX3_layAside_28 29 rfl ?_
    refine gf_X3_13 hX dX3_layAside_29 32 rfl ?_
    refine q_iload_n hX rfl dX3_layAside_32 33 rfl ?_
    obtain ⟨g_5, h⟩ := h
    refine q_iald hX g_5 dX3_layAside_33 34 rfl ?_
    obtain ⟨g_6, h⟩ := h
    refine q_iast hX g_6 dX3_layAside_34 35 rfl (fun m_7 em_7 => ?_)
    replace h := h m_7 em_7
    refine q_aload_n hX rfl dX3_layAside_35 36 rfl ?_
    refine gf_X3_52 hX dX3_layAside_36 39 rfl ?_
    refine q_bipush hX (12 : Int32) q_kb_12 dX3_layAside_39 41 rfl ?_
    refine q_iload_n hX rfl dX3_layAside_41 42 rfl ?_
    refine q_iadd hX dX3_layAside_42 43 rfl ?_
    refine q_aload_n hX rfl dX3_layAside_43 44 rfl ?_
    refine gf_X3_16 hX dX3_layAside_44 47 rfl ?_
    refine q_iload_n hX rfl dX3_layAside_47 48 rfl ?_
    obtain ⟨g_8, h⟩ := h
    refine q_iald hX g_8 dX3_layAside_48 49 rfl ?_
    obtain ⟨g_9, h⟩ := h
    refine q_iast hX g_9 dX3_layAside_49 50 rfl (fun m_10 em_10 => ?_)
    replace h := h m_10 em_10
    refine q_aload_n hX rfl dX3_layAside_50 51 rfl ?_
    refine gf_X3_52 hX dX3_layAside_51 54 rfl ?_
    refine q_bipush hX (18 : Int32) q_kb_18 dX3_layAside_54 56 rfl ?_
    refine q_iload_n hX rfl dX3_layAside_56 57 rfl ?_
    refine q_iadd hX dX3_layAside_57 58 rfl ?_
    refine q_aload_n hX rfl dX3_layAside_58 59 rfl ?_
    refine gf_X3_19 hX dX3_layAside_59 62 rfl ?_
    refine q_iload_n hX rfl dX3_layAside_62 63 rfl ?_
    obtain ⟨g_11, h⟩ := h
    refine q_iald hX g_11 dX3_layAside_63 64 rfl ?_
    obtain ⟨g_12, h⟩ := h
    refine q_iast hX g_12 dX3_layAside_64 65 rfl (fun m_13 em_13 => ?_)
    replace h := h m_13 em_13
    refine q_aload_n hX rfl dX3_layAside_65 66 rfl ?_
    refine gf_X3_52 hX dX3_layAside_66 69 rfl ?_
    refine q_bipush hX (24 : Int32) q_kb_24 dX3_layAside_69 71 rfl ?_
    refine q_iload_n hX rfl dX3_layAside_71 72 rfl ?_
    refine q_iadd hX dX3_layAside_72 73 rfl ?_
    refine q_aload_n hX rfl dX3_layAside_73 74 rfl ?_
    refine gf_X3_22 hX dX3_layAside_74 77 rfl ?_
    refine q_iload_n hX rfl dX3_layAside_77 78 rfl ?_
    obtain ⟨g_14, h⟩ := h
    refine q_iald hX g_14 dX3_layAside_78 79 rfl ?_
    obtain ⟨g_15, h⟩ := h
    refine q_iast hX g_15 dX3_layAside_79 80 rfl (fun m_16 em_16 => ?_)
    replace h := h m_16 em_16
    refine q_aload_n hX rfl dX3_layAside_80 81 rfl ?_
    refine gf_X3_52 hX dX3_layAside_81 84 rfl ?_
    refine q_bipush hX (30 : Int32) q_kb_30 dX3_layAside_84 86 rfl ?_
    refine q_iload_n hX rfl dX3_layAside_86 87 rfl ?_
    refine q_iadd hX dX3_layAside_87 88 rfl ?_
    refine q_aload_n hX rfl dX3_layAside_88 89 rfl ?_
    refine gf_X3_25 hX dX3_layAside_89 92 rfl ?_
    refine q_iload_n hX rfl dX3_layAside_92 93 rfl ?_
    obtain ⟨g_17, h⟩ := h
    refine q_iald hX g_17 dX3_layAside_93 94 rfl ?_
    obtain ⟨g_18, h⟩ := h
    refine q_iast hX g_18 dX3_layAside_94 95 rfl (fun m_19 em_19 => ?_)
    replace h := h m_19 em_19
    refine q_aload_n hX rfl dX3_layAside_95 96 rfl ?_
    refine gf_X3_52 hX dX3_layAside_96 99 rfl ?_
    refine q_bipush hX (36 : Int32) q_kb_36 dX3_layAside_99 101 rfl ?_
    refine q_iload_n hX rfl dX3_layAside_101 102 rfl ?_
    refine q_iadd hX dX3_layAside_102 103 rfl ?_
    refine q_aload_n hX rfl dX3_layAside_103 104 rfl ?_
    refine gf_X3_28 hX dX3_layAside_104 107 rfl ?_
    refine q_iload_n hX rfl dX3_layAside_107 108 rfl ?_
    obtain ⟨g_20, h⟩ := h
    refine q_iald hX g_20 dX3_layAside_108 109 rfl ?_
    obtain ⟨g_21, h⟩ := h
    refine q_iast hX g_21 dX3_layAside_109 110 rfl (fun m_22 em_22 => ?_)
    replace h := h m_22 em_22
    refine q_aload_n hX rfl dX3_layAside_110 111 rfl ?_
    refine gf_X3_52 hX dX3_layAside_111 114 rfl ?_
    refine q_bipush hX (42 : Int32) q_kb_42 dX3_layAside_114 116 rfl ?_
    refine q_iload_n hX rfl dX3_layAside_116 117 rfl ?_
    refine q_iadd hX dX3_layAside_117 118 rfl ?_
    refine q_aload_n hX rfl dX3_layAside_118 119 rfl ?_
    refine gf_X3_31 hX dX3_layAside_119 122 rfl ?_
    refine q_iload_n hX rfl dX3_layAside_122 123 rfl ?_
    obtain ⟨g_23, h⟩ := h
    refine q_iald hX g_23 dX3_layAside_123 124 rfl ?_
    obtain ⟨g_24, h⟩ := h
    refine q_iast hX g_24 dX3_layAside_124 125 rfl (fun m_25 em_25 => ?_)
    replace h := h m_25 em_25
    refine q_iinc hX (1 : Int32) q_ki_1 rfl dX3_layAside_125 128 rfl (Nat.le_of_ble_eq_true rfl) rfl (fun y => [some (.ref (q_ad G 72)), some (.int y)]) (fun _ => rfl) (fun x1_26 ex1_26 => ?_)
    replace h := h x1_26 ex1_26
    refine q_goto hX dX3_layAside_128 2 (by decide) ?_
    exact q_weak [true, true] rfl (hK2 x1_26 m_25 h)
set_option maxRecDepth 100000 in
set_option maxHeartbeats 4000000 in
theorem sn_X3_layAside_2 {X : q_X} {G : q_G} (hX : q_C X cX3_layAside 2 RX3 none 0 0)   (x1 : Int32) (Q : q_Mem → Prop)  (mem : q_Mem) (h : wp_X3_layAside_2   x1 mem Q) : q_J X G 2 (q_QV X G Q) 2 [some (.ref (q_ad G 72)), some (.int x1)] [] mem := by
  obtain ⟨I, ⟨n, h0⟩, hs⟩ := h
  have key : ∀ (n : Nat) (yx1 : Int32) (ymem : q_Mem), I n yx1 ymem → q_J X G 2 (q_QV X G Q) 2 [some (.ref (q_ad G 72)), some (.int yx1)] [] ymem := by
    intro n
    induction n using Nat.strongRecOn with
    | ind n ih =>
      intro yx1 ymem hI
      exact sn_X3_layAside_2_b hX    yx1 Q  (fun (zx1 : Int32) (zmem : q_Mem) => ∃ n2, n2 < n ∧ I n2 zx1 zmem) (fun zx1 zmem hz => by obtain ⟨n2, h1, h2⟩ := hz; exact ih n2 h1 zx1 zmem h2) ymem (hs n yx1 ymem hI)
  exact key n x1 mem h0
set_option maxRecDepth 100000 in
set_option maxHeartbeats 4000000 in
theorem sn_X3_layAside_0 {X : q_X} {G : q_G} (hX : q_C X cX3_layAside 2 RX3 none 0 0)    (Q : q_Mem → Prop)  (mem : q_Mem) (h : wp_X3_layAside    mem Q) : q_J X G 2 (q_QV X G Q) 0 [some (.ref (q_ad G 72)), none] [] mem := by
  unfold wp_X3_layAside at h
  refine q_iconst hX (0 : Int32) q_ki_0 dX3_layAside_0 1 rfl ?_
  refine q_istore_n hX dX3_layAside_1 2 rfl (Nat.le_of_ble_eq_true rfl) rfl (fun y => [some (.ref (q_ad G 72)), some (.int y)]) (fun _ => rfl) (fun x1_1 ex1_1 => ?_)
  replace ex1_1 := ex1_1.symm; subst ex1_1
  exact q_weak [true, true] rfl (sn_X3_layAside_2 hX    (0 : Int32) Q  mem h)
set_option maxRecDepth 100000 in
set_option maxHeartbeats 4000000 in
theorem sn_X3_layAside {l : Launch} {G : q_G}   (mem : q_Mem) (Q : q_Mem → Prop) (h : wp_X3_layAside  mem Q) : q_MV l G yX3_layAside cX3_layAside 2 none rm_X3_layAside [.ref (q_ad G 72)] mem Q := by
  refine q_metV 1 (by decide +kernel) (Nat.le_of_ble_eq_true rfl) rfl (fun X hl hX => ?_)
  subst hl
  exact sn_X3_layAside_0 hX   Q mem h

-- X3_isHour
def wp_X3_isHour  (a0 : Int32)  (mem : q_Mem) (Q : Int32 → q_Mem → Prop) : Prop := wp_X3_in (a0.toInt64) (0 : Int64) (((mem 72 11) - (1 : Int32)).toInt64) mem (fun r_1 m_2 => (r_1 &&& 1 = r_1) ∧ Q r_1 m_2)
set_option maxRecDepth 100000 in
set_option maxHeartbeats 4000000 in
theorem sn_X3_isHour_0 {X : q_X} {G : q_G} (hX : q_C X cX3_isHour 2 RX3 (some .boolean) 1 25) (a0 : Int32)   (Q : Int32 → q_Mem → Prop)  (mem : q_Mem) (h : wp_X3_isHour  a0  mem Q) : q_J X G 2 (q_QI X G Q) 0 [some (.ref (q_ad G 72)), some (.int a0)] [] mem := by
  unfold wp_X3_isHour at h
  refine q_iload_n hX rfl dX3_isHour_0 1 rfl ?_
  refine q_i2l hX dX3_isHour_1 2 rfl ?_
  refine q_lconst hX (0 : Int64) rfl dX3_isHour_2 3 rfl ?_
  refine q_aload_n hX rfl dX3_isHour_3 4 rfl ?_
  refine gf_X3_108 hX dX3_isHour_4 7 rfl ?_
  refine q_iconst hX (1 : Int32) q_ki_1 dX3_isHour_7 8 rfl ?_
  refine q_isub hX dX3_isHour_8 9 rfl ?_
  refine q_i2l hX dX3_isHour_9 10 rfl ?_
  refine cl_X3_77 hX  ⟨Nat.le_of_ble_eq_true rfl, Nat.le_of_ble_eq_true rfl⟩ (Nat.le_of_ble_eq_true rfl) dX3_isHour_10 13 rfl (sn_X3_in (a0.toInt64) (0 : Int64) (((mem 72 11) - (1 : Int32)).toInt64)  mem _ h) (fun r_1 m_2 h => ?_)
  exact q_zret hX dX3_isHour_13 h.1 h.2
set_option maxRecDepth 100000 in
set_option maxHeartbeats 4000000 in
theorem sn_X3_isHour {l : Launch} {G : q_G} (a0 : Int32)  (mem : q_Mem) (Q : Int32 → q_Mem → Prop) (h : wp_X3_isHour a0 mem Q) : q_MI l G yX3_isHour cX3_isHour 2 (some .boolean) rm_X3_isHour [.ref (q_ad G 72), .int a0] mem Q := by
  refine q_metI 0 (by decide +kernel) (Nat.le_of_ble_eq_true rfl) rfl (fun X hl hX => ?_)
  subst hl
  exact sn_X3_isHour_0 hX a0  Q mem h

-- X3_refusal
def wp_X3_refusal  (a0 : Int32)  (mem : q_Mem) (Q : Int32 → q_Mem → Prop) : Prop := wp_X3_isHour a0 mem (fun r_1 m_2 => ((¬ r_1 = 0) → ((¬ (m_2 72 0) = 0) → Q (0 : Int32) m_2) ∧ (((m_2 72 0) = 0) → Q (-103 : Int32) m_2)) ∧ ((r_1 = 0) → Q (-101 : Int32) m_2))
set_option maxRecDepth 100000 in
set_option maxHeartbeats 4000000 in
theorem sn_X3_refusal_0 {X : q_X} {G : q_G} (hX : q_C X cX3_refusal 2 RX3 (some .int) 2 46) (a0 : Int32)   (Q : Int32 → q_Mem → Prop)  (mem : q_Mem) (h : wp_X3_refusal  a0  mem Q) : q_J X G 2 (q_QI X G Q) 0 [some (.ref (q_ad G 72)), some (.int a0)] [] mem := by
  unfold wp_X3_refusal at h
  refine q_aload_n hX rfl dX3_refusal_0 1 rfl ?_
  refine q_iload_n hX rfl dX3_refusal_1 2 rfl ?_
  refine cl_X3_151 hX  ⟨Nat.le_of_ble_eq_true rfl, Nat.le_of_ble_eq_true rfl⟩ (Nat.le_of_ble_eq_true rfl) dX3_refusal_2 5 rfl (sn_X3_isHour a0  mem _ h) (fun r_1 m_2 h => ?_)
  refine q_if_ne hX dX3_refusal_5 8 13 rfl (by decide) (fun c_3 => ?_) (fun c_3 => ?_)
  · replace h := h.1 c_3
    refine q_aload_n hX rfl dX3_refusal_13 14 rfl ?_
    refine gf_X3_74 hX dX3_refusal_14 17 rfl ?_
    refine q_if_ne hX dX3_refusal_17 20 25 rfl (by decide) (fun c_4 => ?_) (fun c_4 => ?_)
    · replace h := h.1 c_4
      refine q_iconst hX (0 : Int32) q_ki_0 dX3_refusal_25 26 rfl ?_
      exact q_iret hX dX3_refusal_26 h
    · replace h := h.2 c_4
      refine q_bipush hX (-103 : Int32) q_kb_m103 dX3_refusal_20 22 rfl ?_
      refine q_goto hX dX3_refusal_22 26 (by decide) ?_
      exact q_iret hX dX3_refusal_26 h
  · replace h := h.2 c_3
    refine q_bipush hX (-101 : Int32) q_kb_m101 dX3_refusal_8 10 rfl ?_
    refine q_goto hX dX3_refusal_10 26 (by decide) ?_
    exact q_iret hX dX3_refusal_26 h
set_option maxRecDepth 100000 in
set_option maxHeartbeats 4000000 in
theorem sn_X3_refusal {l : Launch} {G : q_G} (a0 : Int32)  (mem : q_Mem) (Q : Int32 → q_Mem → Prop) (h : wp_X3_refusal a0 mem Q) : q_MI l G yX3_refusal cX3_refusal 2 (some .int) rm_X3_refusal [.ref (q_ad G 72), .int a0] mem Q := by
  refine q_metI 0 (by decide +kernel) (Nat.le_of_ble_eq_true rfl) rfl (fun X hl hX => ?_)
  subst hl
  exact sn_X3_refusal_0 hX a0  Q mem h

-- X3_arrange
def wp_X3_arrange_86  (a0 : Int32) (x4 : Int32) (mem : q_Mem) (Q : Int32 → q_Mem → Prop) : Prop := Q x4 mem
def wp_X3_arrange_77 (K36 : Int32 → Int32 → q_Mem → Prop) (a0 : Int32) (x5 : Int32) (s2 : Int32) (s1 : Int32) (mem : q_Mem) (Q : Int32 → q_Mem → Prop) : Prop := ∀ x4_1 : Int32, x4_1 = (s1 + s2) → ∀ x5_2 : Int32, x5_2 = (x5 + (1 : Int32)) → K36 x4_1 x5_2 mem
def wp_X3_arrange_36_b (K36 : Int32 → Int32 → q_Mem → Prop) (a0 : Int32) (x4 : Int32) (x5 : Int32) (mem : q_Mem) (Q : Int32 → q_Mem → Prop) : Prop := (((mem 72 0) ≤ x5) → wp_X3_arrange_86  a0 x4 mem Q) ∧ ((¬ (mem 72 0) ≤ x5) → vp_in x5 (q_al 86) ∧ (wp_X3_fetch x5 (mem 86 x5.toNatClampNeg) mem (fun m_4 => vp_in x5 (q_al 86) ∧ (((¬ (m_4 86 x5.toNatClampNeg) = x5) → wp_X3_arrange_77 K36 a0 x5 (1 : Int32) x4 m_4 Q) ∧ (((m_4 86 x5.toNatClampNeg) = x5) → wp_X3_arrange_77 K36 a0 x5 (0 : Int32) x4 m_4 Q)))))
def wp_X3_arrange_36  (a0 : Int32) (x4 : Int32) (x5 : Int32) (mem : q_Mem) (Q : Int32 → q_Mem → Prop) : Prop := ∃ I : Nat → Int32 → Int32 → q_Mem → Prop, (∃ n, I n x4 x5 mem) ∧ ∀ (n : Nat) (yx4 : Int32) (yx5 : Int32) (ymem : q_Mem), I n yx4 yx5 ymem → wp_X3_arrange_36_b  (fun (zx4 : Int32) (zx5 : Int32) (zmem : q_Mem) => ∃ n2, n2 < n ∧ I n2 zx4 zx5 zmem) a0 yx4 yx5 ymem Q
def wp_X3_arrange_31  (a0 : Int32) (s1 : Int32) (mem : q_Mem) (Q : Int32 → q_Mem → Prop) : Prop := wp_X3_arrange_36  a0 s1 (0 : Int32) mem Q
def wp_X3_arrange  (a0 : Int32)  (mem : q_Mem) (Q : Int32 → q_Mem → Prop) : Prop := wp_X3_refusal a0 mem (fun r_1 m_2 => ((r_1 = 0) → wp_X3_findBest a0 m_2 (fun r_5 m_6 => wp_X3_layAside  m_6 (fun m_9 => ((0 ≤ r_5) → wp_X3_arrange_31  a0 (0 : Int32) m_9 Q) ∧ ((¬ 0 ≤ r_5) → wp_X3_arrange_31  a0 (1 : Int32) m_9 Q)))) ∧ ((¬ r_1 = 0) → Q r_1 m_2))
set_option maxRecDepth 100000 in
set_option maxHeartbeats 4000000 in
theorem sn_X3_arrange_86 {X : q_X} {G : q_G} (hX : q_C X cX3_arrange 6 RX3 (some .int) 5 122) (a0 : Int32)  (x4 : Int32) (Q : Int32 → q_Mem → Prop)  (mem : q_Mem) (h : wp_X3_arrange_86  a0 x4 mem Q) : q_J X G 6 (q_QI X G Q) 86 [some (.ref (q_ad G 72)), some (.int a0), none, none, some (.int x4), none] [] mem := by
  unfold wp_X3_arrange_86 at h
  refine q_iload hX rfl dX3_arrange_86 88 rfl ?_
  exact q_iret hX dX3_arrange_88 h
set_option maxRecDepth 100000 in
set_option maxHeartbeats 4000000 in
theorem sn_X3_arrange_77 {X : q_X} {G : q_G} (hX : q_C X cX3_arrange 6 RX3 (some .int) 5 122) (a0 : Int32)  (x5 : Int32) (s2 : Int32) (s1 : Int32) (Q : Int32 → q_Mem → Prop) (K36 : Int32 → Int32 → q_Mem → Prop) (hK36 : ∀ (yx4 : Int32) (yx5 : Int32) (ymem : q_Mem), K36 yx4 yx5 ymem → q_J X G 6 (q_QI X G Q) 36 [some (.ref (q_ad G 72)), some (.int a0), none, none, some (.int yx4), some (.int yx5)] [] ymem) (mem : q_Mem) (h : wp_X3_arrange_77 K36 a0 x5 s2 s1 mem Q) : q_J X G 6 (q_QI X G Q) 77 [some (.ref (q_ad G 72)), some (.int a0), none, none, none, some (.int x5)] [.int s2, .int s1] mem := by
  unfold wp_X3_arrange_77 at h
  refine q_iadd hX dX3_arrange_77 78 rfl ?_
  refine q_istore hX dX3_arrange_78 80 rfl (Nat.le_of_ble_eq_true rfl) rfl (fun y => [some (.ref (q_ad G 72)), some (.int a0), none, none, some (.int y), some (.int x5)]) (fun _ => rfl) (fun x4_1 ex4_1 => ?_)
  replace h := h x4_1 ex4_1
  refine q_iinc hX (1 : Int32) q_ki_1 rfl dX3_arrange_80 83 rfl (Nat.le_of_ble_eq_true rfl) rfl (fun y => [some (.ref (q_ad G 72)), some (.int a0), none, none, some (.int x4_1), some (.int y)]) (fun _ => rfl) (fun x5_2 ex5_2 => ?_)
  replace h := h x5_2 ex5_2
  refine q_goto hX dX3_arrange_83 36 (by decide) ?_
  exact q_weak [true, true, false, false, true, true] rfl (hK36 x4_1 x5_2 mem h)
set_option maxRecDepth 100000 in
set_option maxHeartbeats 4000000 in
theorem sn_X3_arrange_36_b {X : q_X} {G : q_G} (hX : q_C X cX3_arrange 6 RX3 (some .int) 5 122) (a0 : Int32)  (x4 : Int32) (x5 : Int32) (Q : Int32 → q_Mem → Prop) (K36 : Int32 → Int32 → q_Mem → Prop) (hK36 : ∀ (yx4 : Int32) (yx5 : Int32) (ymem : q_Mem), K36 yx4 yx5 ymem → q_J X G 6 (q_QI X G Q) 36 [some (.ref (q_ad G 72)), some (.int a0), none, none, some (.int yx4), some (.int yx5)] [] ymem) (mem : q_Mem) (h : wp_X3_arrange_36_b K36 a0 x4 x5 mem Q) : q_J X G 6 (q_QI X G Q) 36 [some (.ref (q_ad G 72)), some (.int a0), none, none, some (.int x4), some (.int x5)] [] mem := by
  unfold wp_X3_arrange_36_b at h
  refine q_iload hX rfl dX3_arrange_36 38 rfl ?_
  refine q_aload_n hX rfl dX3_arrange_38 39 rfl ?_
  refine gf_X3_74 hX dX3_arrange_39 42 rfl ?_
  refine q_icmp_ge hX dX3_arrange_42 45 86 rfl (by decide) (fun c_1 => ?_) (fun c_1 => ?_)
  · replace h := h.1 c_1
    exact q_weak [true, true, false, false, true, false] rfl (sn_X3_arrange_86 hX  a0  x4 Q  mem h)
  · replace h := h.2 c_1
    refine q_aload_n hX rfl dX3_arrange_45 46 rfl ?_
    refine q_iload hX rfl dX3_arrange_46 48 rfl ?_
    refine q_aload_n hX rfl dX3_arrange_48 49 rfl ?_
    refine gf_X3_49 hX dX3_arrange_49 52 rfl ?_
    refine q_iload hX rfl dX3_arrange_52 54 rfl ?_
    obtain ⟨g_2, h⟩ := h
    refine q_iald hX g_2 dX3_arrange_54 55 rfl ?_
    refine cl_X3_175 hX  ⟨Nat.le_of_ble_eq_true rfl, Nat.le_of_ble_eq_true rfl⟩ (Nat.le_of_ble_eq_true rfl) dX3_arrange_55 58 rfl (sn_X3_fetch x5 (mem 86 x5.toNatClampNeg)  mem _ h) (fun m_4 h => ?_)
    refine q_iload hX rfl dX3_arrange_58 60 rfl ?_
    refine q_aload_n hX rfl dX3_arrange_60 61 rfl ?_
    refine gf_X3_49 hX dX3_arrange_61 64 rfl ?_
    refine q_iload hX rfl dX3_arrange_64 66 rfl ?_
    obtain ⟨g_5, h⟩ := h
    refine q_iald hX g_5 dX3_arrange_66 67 rfl ?_
    refine q_iload hX rfl dX3_arrange_67 69 rfl ?_
    refine q_icmp_ne hX dX3_arrange_69 72 76 rfl (by decide) (fun c_6 => ?_) (fun c_6 => ?_)
    · replace h := h.1 c_6
      refine q_iconst hX (1 : Int32) q_ki_1 dX3_arrange_76 77 rfl ?_
      exact q_weak [true, true, false, false, false, true] rfl (sn_X3_arrange_77 hX  a0  x5 (1 : Int32) x4 Q K36 hK36 m_4 h)
    · replace h := h.2 c_6
      refine q_iconst hX (0 : Int32) q_ki_0 dX3_arrange_72 73 rfl ?_
      refine q_goto hX dX3_arrange_73 77 (by decide) ?_
      exact q_weak [true, true, false, false, false, true] rfl (sn_X3_arrange_77 hX  a0  x5 (0 : Int32) x4 Q K36 hK36 m_4 h)
set_option maxRecDepth 100000 in
set_option maxHeartbeats 4000000 in
theorem sn_X3_arrange_36 {X : q_X} {G : q_G} (hX : q_C X cX3_arrange 6 RX3 (some .int) 5 122) (a0 : Int32)  (x4 : Int32) (x5 : Int32) (Q : Int32 → q_Mem → Prop)  (mem : q_Mem) (h : wp_X3_arrange_36  a0 x4 x5 mem Q) : q_J X G 6 (q_QI X G Q) 36 [some (.ref (q_ad G 72)), some (.int a0), none, none, some (.int x4), some (.int x5)] [] mem := by
  obtain ⟨I, ⟨n, h0⟩, hs⟩ := h
  have key : ∀ (n : Nat) (yx4 : Int32) (yx5 : Int32) (ymem : q_Mem), I n yx4 yx5 ymem → q_J X G 6 (q_QI X G Q) 36 [some (.ref (q_ad G 72)), some (.int a0), none, none, some (.int yx4), some (.int yx5)] [] ymem := by
    intro n
    induction n using Nat.strongRecOn with
    | ind n ih =>
      intro yx4 yx5 ymem hI
      exact sn_X3_arrange_36_b hX  a0  yx4 yx5 Q  (fun (zx4 : Int32) (zx5 : Int32) (zmem : q_Mem) => ∃ n2, n2 < n ∧ I n2 zx4 zx5 zmem) (fun zx4 zx5 zmem hz => by obtain ⟨n2, h1, h2⟩ := hz; exact ih n2 h1 zx4 zx5 zmem h2) ymem (hs n yx4 yx5 ymem hI)
  exact key n x4 x5 mem h0
set_option maxRecDepth 100000 in
set_option maxHeartbeats 4000000 in
theorem sn_X3_arrange_31 {X : q_X} {G : q_G} (hX : q_C X cX3_arrange 6 RX3 (some .int) 5 122) (a0 : Int32)  (s1 : Int32) (Q : Int32 → q_Mem → Prop)  (mem : q_Mem) (h : wp_X3_arrange_31  a0 s1 mem Q) : q_J X G 6 (q_QI X G Q) 31 [some (.ref (q_ad G 72)), some (.int a0), none, none, none, none] [.int s1] mem := by
  unfold wp_X3_arrange_31 at h
  refine q_istore hX dX3_arrange_31 33 rfl (Nat.le_of_ble_eq_true rfl) rfl (fun y => [some (.ref (q_ad G 72)), some (.int a0), none, none, some (.int y), none]) (fun _ => rfl) (fun x4_1 ex4_1 => ?_)
  replace ex4_1 := ex4_1.symm; subst ex4_1
  refine q_iconst hX (0 : Int32) q_ki_0 dX3_arrange_33 34 rfl ?_
  refine q_istore hX dX3_arrange_34 36 rfl (Nat.le_of_ble_eq_true rfl) rfl (fun y => [some (.ref (q_ad G 72)), some (.int a0), none, none, some (.int s1), some (.int y)]) (fun _ => rfl) (fun x5_2 ex5_2 => ?_)
  replace ex5_2 := ex5_2.symm; subst ex5_2
  exact q_weak [true, true, false, false, true, true] rfl (sn_X3_arrange_36 hX  a0  s1 (0 : Int32) Q  mem h)
set_option maxRecDepth 100000 in
set_option maxHeartbeats 4000000 in
theorem sn_X3_arrange_0 {X : q_X} {G : q_G} (hX : q_C X cX3_arrange 6 RX3 (some .int) 5 122) (a0 : Int32)   (Q : Int32 → q_Mem → Prop)  (mem : q_Mem) (h : wp_X3_arrange  a0  mem Q) : q_J X G 6 (q_QI X G Q) 0 [some (.ref (q_ad G 72)), some (.int a0), none, none, none, none] [] mem := by
  unfold wp_X3_arrange at h
  refine q_aload_n hX rfl dX3_arrange_0 1 rfl ?_
  refine q_iload_n hX rfl dX3_arrange_1 2 rfl ?_
  refine cl_X3_154 hX  ⟨Nat.le_of_ble_eq_true rfl, Nat.le_of_ble_eq_true rfl⟩ (Nat.le_of_ble_eq_true rfl) dX3_arrange_2 5 rfl (sn_X3_refusal a0  mem _ h) (fun r_1 m_2 h => ?_)
  refine q_istore_n hX dX3_arrange_5 6 rfl (Nat.le_of_ble_eq_true rfl) rfl (fun y => [some (.ref (q_ad G 72)), some (.int a0), some (.int y), none, none, none]) (fun _ => rfl) (fun x2_3 ex2_3 => ?_)
  replace ex2_3 := ex2_3.symm; subst ex2_3
  refine q_iload_n hX rfl dX3_arrange_6 7 rfl ?_
  refine q_if_eq hX dX3_arrange_7 10 12 rfl (by decide) (fun c_4 => ?_) (fun c_4 => ?_)
  · replace h := h.1 c_4
    refine q_aload_n hX rfl dX3_arrange_12 13 rfl ?_
    refine q_iload_n hX rfl dX3_arrange_13 14 rfl ?_
    refine cl_X3_169 hX  ⟨Nat.le_of_ble_eq_true rfl, Nat.le_of_ble_eq_true rfl⟩ (Nat.le_of_ble_eq_true rfl) dX3_arrange_14 17 rfl (sn_X3_findBest a0  m_2 _ h) (fun r_5 m_6 h => ?_)
    refine q_istore_n hX dX3_arrange_17 18 rfl (Nat.le_of_ble_eq_true rfl) rfl (fun y => [some (.ref (q_ad G 72)), some (.int a0), some (.int r_1), some (.int y), none, none]) (fun _ => rfl) (fun x3_7 ex3_7 => ?_)
    replace ex3_7 := ex3_7.symm; subst ex3_7
    refine q_aload_n hX rfl dX3_arrange_18 19 rfl ?_
    refine cl_X3_172 hX  ⟨Nat.le_of_ble_eq_true rfl, Nat.le_of_ble_eq_true rfl⟩ (Nat.le_of_ble_eq_true rfl) dX3_arrange_19 22 rfl (sn_X3_layAside   m_6 _ h) (fun m_9 h => ?_)
    refine q_iload_n hX rfl dX3_arrange_22 23 rfl ?_
    refine q_if_ge hX dX3_arrange_23 26 30 rfl (by decide) (fun c_10 => ?_) (fun c_10 => ?_)
    · replace h := h.1 c_10
      refine q_iconst hX (0 : Int32) q_ki_0 dX3_arrange_30 31 rfl ?_
      exact q_weak [true, true, false, false, false, false] rfl (sn_X3_arrange_31 hX  a0  (0 : Int32) Q  m_9 h)
    · replace h := h.2 c_10
      refine q_iconst hX (1 : Int32) q_ki_1 dX3_arrange_26 27 rfl ?_
      refine q_goto hX dX3_arrange_27 31 (by decide) ?_
      exact q_weak [true, true, false, false, false, false] rfl (sn_X3_arrange_31 hX  a0  (1 : Int32) Q  m_9 h)
  · replace h := h.2 c_4
    refine q_iload_n hX rfl dX3_arrange_10 11 rfl ?_
    exact q_iret hX dX3_arrange_11 h
set_option maxRecDepth 100000 in
set_option maxHeartbeats 4000000 in
theorem sn_X3_arrange {l : Launch} {G : q_G} (a0 : Int32)  (mem : q_Mem) (Q : Int32 → q_Mem → Prop) (h : wp_X3_arrange a0 mem Q) : q_MI l G yX3_arrange cX3_arrange 6 (some .int) rm_X3_arrange [.ref (q_ad G 72), .int a0] mem Q := by
  refine q_metI 4 (by decide +kernel) (Nat.le_of_ble_eq_true rfl) rfl (fun X hl hX => ?_)
  subst hl
  exact sn_X3_arrange_0 hX a0  Q mem h

-- X3_best
def wp_X3_best  (a0 : Int32)  (mem : q_Mem) (Q : Int32 → q_Mem → Prop) : Prop := wp_X3_refusal a0 mem (fun r_1 m_2 => ((r_1 = 0) → wp_X3_findBest a0 m_2 (fun r_5 m_6 => Q r_5 m_6)) ∧ ((¬ r_1 = 0) → Q r_1 m_2))
set_option maxRecDepth 100000 in
set_option maxHeartbeats 4000000 in
theorem sn_X3_best_0 {X : q_X} {G : q_G} (hX : q_C X cX3_best 3 RX3 (some .int) 5 122) (a0 : Int32)   (Q : Int32 → q_Mem → Prop)  (mem : q_Mem) (h : wp_X3_best  a0  mem Q) : q_J X G 3 (q_QI X G Q) 0 [some (.ref (q_ad G 72)), some (.int a0), none] [] mem := by
  unfold wp_X3_best at h
  refine q_aload_n hX rfl dX3_best_0 1 rfl ?_
  refine q_iload_n hX rfl dX3_best_1 2 rfl ?_
  refine cl_X3_154 hX  ⟨Nat.le_of_ble_eq_true rfl, Nat.le_of_ble_eq_true rfl⟩ (Nat.le_of_ble_eq_true rfl) dX3_best_2 5 rfl (sn_X3_refusal a0  mem _ h) (fun r_1 m_2 h => ?_)
  refine q_istore_n hX dX3_best_5 6 rfl (Nat.le_of_ble_eq_true rfl) rfl (fun y => [some (.ref (q_ad G 72)), some (.int a0), some (.int y)]) (fun _ => rfl) (fun x2_3 ex2_3 => ?_)
  replace ex2_3 := ex2_3.symm; subst ex2_3
  refine q_iload_n hX rfl dX3_best_6 7 rfl ?_
  refine q_if_eq hX dX3_best_7 10 14 rfl (by decide) (fun c_4 => ?_) (fun c_4 => ?_)
  · replace h := h.1 c_4
    refine q_aload_n hX rfl dX3_best_14 15 rfl ?_
    refine q_iload_n hX rfl dX3_best_15 16 rfl ?_
    refine cl_X3_169 hX  ⟨Nat.le_of_ble_eq_true rfl, Nat.le_of_ble_eq_true rfl⟩ (Nat.le_of_ble_eq_true rfl) dX3_best_16 19 rfl (sn_X3_findBest a0  m_2 _ h) (fun r_5 m_6 h => ?_)
    exact q_iret hX dX3_best_19 h
  · replace h := h.2 c_4
    refine q_iload_n hX rfl dX3_best_10 11 rfl ?_
    refine q_goto hX dX3_best_11 19 (by decide) ?_
    exact q_iret hX dX3_best_19 h
set_option maxRecDepth 100000 in
set_option maxHeartbeats 4000000 in
theorem sn_X3_best {l : Launch} {G : q_G} (a0 : Int32)  (mem : q_Mem) (Q : Int32 → q_Mem → Prop) (h : wp_X3_best a0 mem Q) : q_MI l G yX3_best cX3_best 3 (some .int) rm_X3_best [.ref (q_ad G 72), .int a0] mem Q := by
  refine q_metI 1 (by decide +kernel) (Nat.le_of_ble_eq_true rfl) rfl (fun X hl hX => ?_)
  subst hl
  exact sn_X3_best_0 hX a0  Q mem h

-- X3_clear
def wp_X3_clear_35   (x1 : Int32) (mem : q_Mem) (Q : Int32 → q_Mem → Prop) : Prop := Q x1 mem
def wp_X3_clear_17_b (K17 : Int32 → q_Mem → Prop)  (x1 : Int32) (x2 : Int32) (mem : q_Mem) (Q : Int32 → q_Mem → Prop) : Prop := (((5 : Int32) ≤ x2) → wp_X3_clear_35   x1 mem Q) ∧ ((¬ (5 : Int32) ≤ x2) → vp_in x2 (q_al 82) ∧ (∀ m_3 : q_Mem, m_3 = q_set mem 82 (upd (mem 82) x2.toNatClampNeg (0 : Int32)) → ∀ x2_4 : Int32, x2_4 = (x2 + (1 : Int32)) → K17 x2_4 m_3))
def wp_X3_clear_17   (x1 : Int32) (x2 : Int32) (mem : q_Mem) (Q : Int32 → q_Mem → Prop) : Prop := ∃ I : Nat → Int32 → q_Mem → Prop, (∃ n, I n x2 mem) ∧ ∀ (n : Nat) (yx2 : Int32) (ymem : q_Mem), I n yx2 ymem → wp_X3_clear_17_b  (fun (zx2 : Int32) (zmem : q_Mem) => ∃ n2, n2 < n ∧ I n2 zx2 zmem)  x1 yx2 ymem Q
def wp_X3_clear    (mem : q_Mem) (Q : Int32 → q_Mem → Prop) : Prop := ∀ x1_1 : Int32, x1_1 = (mem 72 0) → ∀ m_2 : q_Mem, m_2 = q_set mem 72 (upd (mem 72) 0 (0 : Int32)) → ∀ m_3 : q_Mem, m_3 = q_set m_2 72 (upd (m_2 72) 19 (0 : Int32)) → wp_X3_clear_17   x1_1 (0 : Int32) m_3 Q
set_option maxRecDepth 100000 in
set_option maxHeartbeats 4000000 in
theorem sn_X3_clear_35 {X : q_X} {G : q_G} (hX : q_C X cX3_clear 3 RX3 (some .int) 0 0)   (x1 : Int32) (Q : Int32 → q_Mem → Prop)  (mem : q_Mem) (h : wp_X3_clear_35   x1 mem Q) : q_J X G 3 (q_QI X G Q) 35 [some (.ref (q_ad G 72)), some (.int x1), none] [] mem := by
  unfold wp_X3_clear_35 at h
  refine q_iload_n hX rfl dX3_clear_35 36 rfl ?_
  exact q_iret hX dX3_clear_36 h
set_option maxRecDepth 100000 in
set_option maxHeartbeats 4000000 in
theorem sn_X3_clear_17_b {X : q_X} {G : q_G} (hX : q_C X cX3_clear 3 RX3 (some .int) 0 0)   (x1 : Int32) (x2 : Int32) (Q : Int32 → q_Mem → Prop) (K17 : Int32 → q_Mem → Prop) (hK17 : ∀ (yx2 : Int32) (ymem : q_Mem), K17 yx2 ymem → q_J X G 3 (q_QI X G Q) 17 [some (.ref (q_ad G 72)), some (.int x1), some (.int yx2)] [] ymem) (mem : q_Mem) (h : wp_X3_clear_17_b K17  x1 x2 mem Q) : q_J X G 3 (q_QI X G Q) 17 [some (.ref (q_ad G 72)), some (.int x1), some (.int x2)] [] mem := by
  unfold wp_X3_clear_17_b at h
  refine q_iload_n hX rfl dX3_clear_17 18 rfl ?_
  refine q_iconst hX (5 : Int32) q_ki_5 dX3_clear_18 19 rfl ?_
  refine q_icmp_ge hX dX3_clear_19 22 35 rfl (by decide) (fun c_1 => ?_) (fun c_1 => ?_)
  · replace h := h.1 c_1
    exact q_weak [true, true, false] rfl (sn_X3_clear_35 hX    x1 Q  mem h)
  · replace h := h.2 c_1
    refine q_aload_n hX rfl dX3_clear_22 23 rfl ?_
    refine gf_X3_37 hX dX3_clear_23 26 rfl ?_
    refine q_iload_n hX rfl dX3_clear_26 27 rfl ?_
    refine q_iconst hX (0 : Int32) q_ki_0 dX3_clear_27 28 rfl ?_
    obtain ⟨g_2, h⟩ := h
    refine q_iast hX g_2 dX3_clear_28 29 rfl (fun m_3 em_3 => ?_)
    replace h := h m_3 em_3
    refine q_iinc hX (1 : Int32) q_ki_1 rfl dX3_clear_29 32 rfl (Nat.le_of_ble_eq_true rfl) rfl (fun y => [some (.ref (q_ad G 72)), some (.int x1), some (.int y)]) (fun _ => rfl) (fun x2_4 ex2_4 => ?_)
    replace h := h x2_4 ex2_4
    refine q_goto hX dX3_clear_32 17 (by decide) ?_
    exact q_weak [true, true, true] rfl (hK17 x2_4 m_3 h)
set_option maxRecDepth 100000 in
set_option maxHeartbeats 4000000 in
theorem sn_X3_clear_17 {X : q_X} {G : q_G} (hX : q_C X cX3_clear 3 RX3 (some .int) 0 0)   (x1 : Int32) (x2 : Int32) (Q : Int32 → q_Mem → Prop)  (mem : q_Mem) (h : wp_X3_clear_17   x1 x2 mem Q) : q_J X G 3 (q_QI X G Q) 17 [some (.ref (q_ad G 72)), some (.int x1), some (.int x2)] [] mem := by
  obtain ⟨I, ⟨n, h0⟩, hs⟩ := h
  have key : ∀ (n : Nat) (yx2 : Int32) (ymem : q_Mem), I n yx2 ymem → q_J X G 3 (q_QI X G Q) 17 [some (.ref (q_ad G 72)), some (.int x1), some (.int yx2)] [] ymem := by
    intro n
    induction n using Nat.strongRecOn with
    | ind n ih =>
      intro yx2 ymem hI
      exact sn_X3_clear_17_b hX    x1 yx2 Q  (fun (zx2 : Int32) (zmem : q_Mem) => ∃ n2, n2 < n ∧ I n2 zx2 zmem) (fun zx2 zmem hz => by obtain ⟨n2, h1, h2⟩ := hz; exact ih n2 h1 zx2 zmem h2) ymem (hs n yx2 ymem hI)
  exact key n x2 mem h0
set_option maxRecDepth 100000 in
set_option maxHeartbeats 4000000 in
theorem sn_X3_clear_0 {X : q_X} {G : q_G} (hX : q_C X cX3_clear 3 RX3 (some .int) 0 0)    (Q : Int32 → q_Mem → Prop)  (mem : q_Mem) (h : wp_X3_clear    mem Q) : q_J X G 3 (q_QI X G Q) 0 [some (.ref (q_ad G 72)), none, none] [] mem := by
  unfold wp_X3_clear at h
  refine q_aload_n hX rfl dX3_clear_0 1 rfl ?_
  refine gf_X3_74 hX dX3_clear_1 4 rfl ?_
  refine q_istore_n hX dX3_clear_4 5 rfl (Nat.le_of_ble_eq_true rfl) rfl (fun y => [some (.ref (q_ad G 72)), some (.int y), none]) (fun _ => rfl) (fun x1_1 ex1_1 => ?_)
  replace h := h x1_1 ex1_1
  refine q_aload_n hX rfl dX3_clear_5 6 rfl ?_
  refine q_iconst hX (0 : Int32) q_ki_0 dX3_clear_6 7 rfl ?_
  refine pf_X3_74 hX dX3_clear_7 10 rfl (fun m_2 em_2 => ?_)
  replace h := h m_2 em_2
  refine q_aload_n hX rfl dX3_clear_10 11 rfl ?_
  refine q_iconst hX (0 : Int32) q_ki_0 dX3_clear_11 12 rfl ?_
  refine pf_X3_87 hX dX3_clear_12 15 rfl (fun m_3 em_3 => ?_)
  replace h := h m_3 em_3
  refine q_iconst hX (0 : Int32) q_ki_0 dX3_clear_15 16 rfl ?_
  refine q_istore_n hX dX3_clear_16 17 rfl (Nat.le_of_ble_eq_true rfl) rfl (fun y => [some (.ref (q_ad G 72)), some (.int x1_1), some (.int y)]) (fun _ => rfl) (fun x2_4 ex2_4 => ?_)
  replace ex2_4 := ex2_4.symm; subst ex2_4
  exact q_weak [true, true, true] rfl (sn_X3_clear_17 hX    x1_1 (0 : Int32) Q  m_3 h)
set_option maxRecDepth 100000 in
set_option maxHeartbeats 4000000 in
theorem sn_X3_clear {l : Launch} {G : q_G}   (mem : q_Mem) (Q : Int32 → q_Mem → Prop) (h : wp_X3_clear  mem Q) : q_MI l G yX3_clear cX3_clear 3 (some .int) rm_X3_clear [.ref (q_ad G 72)] mem Q := by
  refine q_metI 2 (by decide +kernel) (Nat.le_of_ble_eq_true rfl) rfl (fun X hl hX => ?_)
  subst hl
  exact sn_X3_clear_0 hX   Q mem h

-- X3_corner
def wp_X3_corner_75  (a0 : Int32) (a1 : Int32) (a2 : Int32) (x4 : Int32) (t3 : Int64) (t2 : Int64) (t1 : Int64) (mem : q_Mem) (Q : Int32 → q_Mem → Prop) : Prop := wp_X3_in t1 t2 t3 mem (fun r_1 m_2 => ((¬ r_1 = 0) → vp_in x4 (q_al 81) ∧ (∀ x5_5 : Int32, x5_5 = (m_2 81 x4.toNatClampNeg) → vp_in x4 (q_al 81) ∧ (∀ m_7 : q_Mem, m_7 = q_set m_2 81 (upd (m_2 81) x4.toNatClampNeg a2) → Q x5_5 m_7))) ∧ ((r_1 = 0) → Q (-102 : Int32) m_2))
def wp_X3_corner_54  (a0 : Int32) (a1 : Int32) (a2 : Int32) (x4 : Int32) (t2 : Int64) (t1 : Int64) (mem : q_Mem) (Q : Int32 → q_Mem → Prop) : Prop := ((¬ a1 = (4 : Int32)) → vp_in (x4 + (1 : Int32)) (q_al 81) ∧ (wp_X3_corner_75  a0 a1 a2 x4 ((mem 81 (x4 + (1 : Int32)).toNatClampNeg).toInt64) t2 t1 mem Q)) ∧ ((a1 = (4 : Int32)) → wp_X3_corner_75  a0 a1 a2 x4 (1000 : Int64) t2 t1 mem Q)
def wp_X3_corner  (a0 : Int32) (a1 : Int32) (a2 : Int32)  (mem : q_Mem) (Q : Int32 → q_Mem → Prop) : Prop := wp_X3_in (a0.toInt64) (0 : Int64) (2 : Int64) mem (fun r_1 m_2 => ((r_1 = 0) → Q (-101 : Int32) m_2) ∧ ((¬ r_1 = 0) → wp_X3_in (a1.toInt64) (0 : Int64) (4 : Int64) m_2 (fun r_4 m_5 => ((¬ r_4 = 0) → ∀ x4_7 : Int32, x4_7 = (((5 : Int32) * a0) + a1) → ((¬ a1 = 0) → vp_in (x4_7 - (1 : Int32)) (q_al 81) ∧ (wp_X3_corner_54  a0 a1 a2 x4_7 ((m_5 81 (x4_7 - (1 : Int32)).toNatClampNeg).toInt64) (a2.toInt64) m_5 Q)) ∧ ((a1 = 0) → wp_X3_corner_54  a0 a1 a2 x4_7 (0 : Int64) (a2.toInt64) m_5 Q)) ∧ ((r_4 = 0) → Q (-101 : Int32) m_5))))
set_option maxRecDepth 100000 in
set_option maxHeartbeats 4000000 in
theorem sn_X3_corner_75 {X : q_X} {G : q_G} (hX : q_C X cX3_corner 6 RX3 (some .int) 1 25) (a0 : Int32) (a1 : Int32) (a2 : Int32)  (x4 : Int32) (t3 : Int64) (t2 : Int64) (t1 : Int64) (Q : Int32 → q_Mem → Prop)  (mem : q_Mem) (h : wp_X3_corner_75  a0 a1 a2 x4 t3 t2 t1 mem Q) : q_J X G 6 (q_QI X G Q) 75 [some (.ref (q_ad G 72)), some (.int a0), some (.int a1), some (.int a2), some (.int x4), none] [.long t3, .long t2, .long t1] mem := by
  unfold wp_X3_corner_75 at h
  refine cl_X3_77 hX  ⟨Nat.le_of_ble_eq_true rfl, Nat.le_of_ble_eq_true rfl⟩ (Nat.le_of_ble_eq_true rfl) dX3_corner_75 78 rfl (sn_X3_in t1 t2 t3  mem _ h) (fun r_1 m_2 h => ?_)
  refine q_if_ne hX dX3_corner_78 81 84 rfl (by decide) (fun c_3 => ?_) (fun c_3 => ?_)
  · replace h := h.1 c_3
    refine q_aload_n hX rfl dX3_corner_84 85 rfl ?_
    refine gf_X3_34 hX dX3_corner_85 88 rfl ?_
    refine q_iload hX rfl dX3_corner_88 90 rfl ?_
    obtain ⟨g_4, h⟩ := h
    refine q_iald hX g_4 dX3_corner_90 91 rfl ?_
    refine q_istore hX dX3_corner_91 93 rfl (Nat.le_of_ble_eq_true rfl) rfl (fun y => [some (.ref (q_ad G 72)), some (.int a0), some (.int a1), some (.int a2), some (.int x4), some (.int y)]) (fun _ => rfl) (fun x5_5 ex5_5 => ?_)
    replace h := h x5_5 ex5_5
    refine q_aload_n hX rfl dX3_corner_93 94 rfl ?_
    refine gf_X3_34 hX dX3_corner_94 97 rfl ?_
    refine q_iload hX rfl dX3_corner_97 99 rfl ?_
    refine q_iload_n hX rfl dX3_corner_99 100 rfl ?_
    obtain ⟨g_6, h⟩ := h
    refine q_iast hX g_6 dX3_corner_100 101 rfl (fun m_7 em_7 => ?_)
    replace h := h m_7 em_7
    refine q_iload hX rfl dX3_corner_101 103 rfl ?_
    exact q_iret hX dX3_corner_103 h
  · replace h := h.2 c_3
    refine q_bipush hX (-102 : Int32) q_kb_m102 dX3_corner_81 83 rfl ?_
    exact q_iret hX dX3_corner_83 h
set_option maxRecDepth 100000 in
set_option maxHeartbeats 4000000 in
theorem sn_X3_corner_54 {X : q_X} {G : q_G} (hX : q_C X cX3_corner 6 RX3 (some .int) 1 25) (a0 : Int32) (a1 : Int32) (a2 : Int32)  (x4 : Int32) (t2 : Int64) (t1 : Int64) (Q : Int32 → q_Mem → Prop)  (mem : q_Mem) (h : wp_X3_corner_54  a0 a1 a2 x4 t2 t1 mem Q) : q_J X G 6 (q_QI X G Q) 54 [some (.ref (q_ad G 72)), some (.int a0), some (.int a1), some (.int a2), some (.int x4), none] [.long t2, .long t1] mem := by
  unfold wp_X3_corner_54 at h
  refine q_iload_n hX rfl dX3_corner_54 55 rfl ?_
  refine q_iconst hX (4 : Int32) q_ki_4 dX3_corner_55 56 rfl ?_
  refine q_icmp_ne hX dX3_corner_56 59 65 rfl (by decide) (fun c_1 => ?_) (fun c_1 => ?_)
  · replace h := h.1 c_1
    refine q_aload_n hX rfl dX3_corner_65 66 rfl ?_
    refine gf_X3_34 hX dX3_corner_66 69 rfl ?_
    refine q_iload hX rfl dX3_corner_69 71 rfl ?_
    refine q_iconst hX (1 : Int32) q_ki_1 dX3_corner_71 72 rfl ?_
    refine q_iadd hX dX3_corner_72 73 rfl ?_
    obtain ⟨g_2, h⟩ := h
    refine q_iald hX g_2 dX3_corner_73 74 rfl ?_
    refine q_i2l hX dX3_corner_74 75 rfl ?_
    exact q_weak [true, true, true, true, true, false] rfl (sn_X3_corner_75 hX  a0 a1 a2  x4 ((mem 81 (x4 + (1 : Int32)).toNatClampNeg).toInt64) t2 t1 Q  mem h)
  · replace h := h.2 c_1
    refine q_ldc2 hX tw_567 dX3_corner_59 62 rfl ?_
    refine q_goto hX dX3_corner_62 75 (by decide) ?_
    exact q_weak [true, true, true, true, true, false] rfl (sn_X3_corner_75 hX  a0 a1 a2  x4 (1000 : Int64) t2 t1 Q  mem h)
set_option maxRecDepth 100000 in
set_option maxHeartbeats 4000000 in
theorem sn_X3_corner_0 {X : q_X} {G : q_G} (hX : q_C X cX3_corner 6 RX3 (some .int) 1 25) (a0 : Int32) (a1 : Int32) (a2 : Int32)   (Q : Int32 → q_Mem → Prop)  (mem : q_Mem) (h : wp_X3_corner  a0 a1 a2  mem Q) : q_J X G 6 (q_QI X G Q) 0 [some (.ref (q_ad G 72)), some (.int a0), some (.int a1), some (.int a2), none, none] [] mem := by
  unfold wp_X3_corner at h
  refine q_iload_n hX rfl dX3_corner_0 1 rfl ?_
  refine q_i2l hX dX3_corner_1 2 rfl ?_
  refine q_lconst hX (0 : Int64) rfl dX3_corner_2 3 rfl ?_
  refine q_ldc2 hX tw_572 dX3_corner_3 6 rfl ?_
  refine cl_X3_77 hX  ⟨Nat.le_of_ble_eq_true rfl, Nat.le_of_ble_eq_true rfl⟩ (Nat.le_of_ble_eq_true rfl) dX3_corner_6 9 rfl (sn_X3_in (a0.toInt64) (0 : Int64) (2 : Int64)  mem _ h) (fun r_1 m_2 h => ?_)
  refine q_if_eq hX dX3_corner_9 12 24 rfl (by decide) (fun c_3 => ?_) (fun c_3 => ?_)
  · replace h := h.1 c_3
    refine q_bipush hX (-101 : Int32) q_kb_m101 dX3_corner_24 26 rfl ?_
    exact q_iret hX dX3_corner_26 h
  · replace h := h.2 c_3
    refine q_iload_n hX rfl dX3_corner_12 13 rfl ?_
    refine q_i2l hX dX3_corner_13 14 rfl ?_
    refine q_lconst hX (0 : Int64) rfl dX3_corner_14 15 rfl ?_
    refine q_ldc2 hX tw_581 dX3_corner_15 18 rfl ?_
    refine cl_X3_77 hX  ⟨Nat.le_of_ble_eq_true rfl, Nat.le_of_ble_eq_true rfl⟩ (Nat.le_of_ble_eq_true rfl) dX3_corner_18 21 rfl (sn_X3_in (a1.toInt64) (0 : Int64) (4 : Int64)  m_2 _ h) (fun r_4 m_5 h => ?_)
    refine q_if_ne hX dX3_corner_21 24 27 rfl (by decide) (fun c_6 => ?_) (fun c_6 => ?_)
    · replace h := h.1 c_6
      refine q_iconst hX (5 : Int32) q_ki_5 dX3_corner_27 28 rfl ?_
      refine q_iload_n hX rfl dX3_corner_28 29 rfl ?_
      refine q_imul hX dX3_corner_29 30 rfl ?_
      refine q_iload_n hX rfl dX3_corner_30 31 rfl ?_
      refine q_iadd hX dX3_corner_31 32 rfl ?_
      refine q_istore hX dX3_corner_32 34 rfl (Nat.le_of_ble_eq_true rfl) rfl (fun y => [some (.ref (q_ad G 72)), some (.int a0), some (.int a1), some (.int a2), some (.int y), none]) (fun _ => rfl) (fun x4_7 ex4_7 => ?_)
      replace h := h x4_7 ex4_7
      refine q_iload_n hX rfl dX3_corner_34 35 rfl ?_
      refine q_i2l hX dX3_corner_35 36 rfl ?_
      refine q_iload_n hX rfl dX3_corner_36 37 rfl ?_
      refine q_if_ne hX dX3_corner_37 40 44 rfl (by decide) (fun c_8 => ?_) (fun c_8 => ?_)
      · replace h := h.1 c_8
        refine q_aload_n hX rfl dX3_corner_44 45 rfl ?_
        refine gf_X3_34 hX dX3_corner_45 48 rfl ?_
        refine q_iload hX rfl dX3_corner_48 50 rfl ?_
        refine q_iconst hX (1 : Int32) q_ki_1 dX3_corner_50 51 rfl ?_
        refine q_isub hX dX3_corner_51 52 rfl ?_
        obtain ⟨g_9, h⟩ := h
        refine q_iald hX g_9 dX3_corner_52 53 rfl ?_
        refine q_i2l hX dX3_corner_53 54 rfl ?_
        exact q_weak [true, true, true, true, true, false] rfl (sn_X3_corner_54 hX  a0 a1 a2  x4_7 ((m_5 81 (x4_7 - (1 : Int32)).toNatClampNeg).toInt64) (a2.toInt64) Q  m_5 h)
      · replace h := h.2 c_8
        refine q_lconst hX (0 : Int64) rfl dX3_corner_40 41 rfl ?_
        refine q_goto hX dX3_corner_41 54 (by decide) ?_
        exact q_weak [true, true, true, true, true, false] rfl (sn_X3_corner_54 hX  a0 a1 a2  x4_7 (0 : Int64) (a2.toInt64) Q  m_5 h)
    · replace h := h.2 c_6
      refine q_bipush hX (-101 : Int32) q_kb_m101 dX3_corner_24 26 rfl ?_
      exact q_iret hX dX3_corner_26 h
set_option maxRecDepth 100000 in
set_option maxHeartbeats 4000000 in
theorem sn_X3_corner {l : Launch} {G : q_G} (a0 : Int32) (a1 : Int32) (a2 : Int32)  (mem : q_Mem) (Q : Int32 → q_Mem → Prop) (h : wp_X3_corner a0 a1 a2 mem Q) : q_MI l G yX3_corner cX3_corner 6 (some .int) rm_X3_corner [.ref (q_ad G 72), .int a0, .int a1, .int a2] mem Q := by
  refine q_metI 2 (by decide +kernel) (Nat.le_of_ble_eq_true rfl) rfl (fun X hl hX => ?_)
  subst hl
  exact sn_X3_corner_0 hX a0 a1 a2  Q mem h

-- X3_count
def wp_X3_count_96  (a0 : Int32) (x2 : Int32) (mem : q_Mem) (Q : Int32 → q_Mem → Prop) : Prop := Q x2 mem
def wp_X3_count_73_b (K73 : Int32 → Int32 → q_Mem → Prop) (a0 : Int32) (x2 : Int32) (x3 : Int32) (mem : q_Mem) (Q : Int32 → q_Mem → Prop) : Prop := (((mem 72 0) ≤ x3) → wp_X3_count_96  a0 x2 mem Q) ∧ ((¬ (mem 72 0) ≤ x3) → vp_in x3 (q_al 77) ∧ (∀ x2_3 : Int32, x2_3 = (x2 + (mem 77 x3.toNatClampNeg)) → ∀ x3_4 : Int32, x3_4 = (x3 + (1 : Int32)) → K73 x2_3 x3_4 mem))
def wp_X3_count_73  (a0 : Int32) (x2 : Int32) (x3 : Int32) (mem : q_Mem) (Q : Int32 → q_Mem → Prop) : Prop := ∃ I : Nat → Int32 → Int32 → q_Mem → Prop, (∃ n, I n x2 x3 mem) ∧ ∀ (n : Nat) (yx2 : Int32) (yx3 : Int32) (ymem : q_Mem), I n yx2 yx3 ymem → wp_X3_count_73_b  (fun (zx2 : Int32) (zx3 : Int32) (zmem : q_Mem) => ∃ n2, n2 < n ∧ I n2 zx2 zx3 zmem) a0 yx2 yx3 ymem Q
def wp_X3_count  (a0 : Int32)  (mem : q_Mem) (Q : Int32 → q_Mem → Prop) : Prop := (a0 = (0 : Int32) → Q (mem 72 0) mem) ∧ (¬ a0 = (0 : Int32) → (a0 = (1 : Int32) → Q (mem 72 11) mem) ∧ (¬ a0 = (1 : Int32) → (a0 = (2 : Int32) → Q (mem 72 12) mem) ∧ (¬ a0 = (2 : Int32) → (a0 = (3 : Int32) → Q (mem 72 13) mem) ∧ (¬ a0 = (3 : Int32) → (a0 = (4 : Int32) → Q (mem 72 19) mem) ∧ (¬ a0 = (4 : Int32) → (a0 = (5 : Int32) → wp_X3_count_73  a0 (0 : Int32) (0 : Int32) mem Q) ∧ (¬ a0 = (5 : Int32) → (a0 = (6 : Int32) → Q (mem 72 24) mem) ∧ (¬ a0 = (6 : Int32) → Q (-102 : Int32) mem)))))))
set_option maxRecDepth 100000 in
set_option maxHeartbeats 4000000 in
theorem sn_X3_count_96 {X : q_X} {G : q_G} (hX : q_C X cX3_count 4 RX3 (some .int) 0 0) (a0 : Int32)  (x2 : Int32) (Q : Int32 → q_Mem → Prop)  (mem : q_Mem) (h : wp_X3_count_96  a0 x2 mem Q) : q_J X G 4 (q_QI X G Q) 96 [some (.ref (q_ad G 72)), some (.int a0), some (.int x2), none] [] mem := by
  unfold wp_X3_count_96 at h
  refine q_iload_n hX rfl dX3_count_96 97 rfl ?_
  exact q_iret hX dX3_count_97 h
set_option maxRecDepth 100000 in
set_option maxHeartbeats 4000000 in
theorem sn_X3_count_73_b {X : q_X} {G : q_G} (hX : q_C X cX3_count 4 RX3 (some .int) 0 0) (a0 : Int32)  (x2 : Int32) (x3 : Int32) (Q : Int32 → q_Mem → Prop) (K73 : Int32 → Int32 → q_Mem → Prop) (hK73 : ∀ (yx2 : Int32) (yx3 : Int32) (ymem : q_Mem), K73 yx2 yx3 ymem → q_J X G 4 (q_QI X G Q) 73 [some (.ref (q_ad G 72)), some (.int a0), some (.int yx2), some (.int yx3)] [] ymem) (mem : q_Mem) (h : wp_X3_count_73_b K73 a0 x2 x3 mem Q) : q_J X G 4 (q_QI X G Q) 73 [some (.ref (q_ad G 72)), some (.int a0), some (.int x2), some (.int x3)] [] mem := by
  unfold wp_X3_count_73_b at h
  refine q_iload_n hX rfl dX3_count_73 74 rfl ?_
  refine q_aload_n hX rfl dX3_count_74 75 rfl ?_
  refine gf_X3_74 hX dX3_count_75 78 rfl ?_
  refine q_icmp_ge hX dX3_count_78 81 96 rfl (by decide) (fun c_1 => ?_) (fun c_1 => ?_)
  · replace h := h.1 c_1
    exact q_weak [true, true, true, false] rfl (sn_X3_count_96 hX  a0  x2 Q  mem h)
  · replace h := h.2 c_1
    refine q_iload_n hX rfl dX3_count_81 82 rfl ?_
    refine q_aload_n hX rfl dX3_count_82 83 rfl ?_
    refine gf_X3_22 hX dX3_count_83 86 rfl ?_
    refine q_iload_n hX rfl dX3_count_86 87 rfl ?_
    obtain ⟨g_2, h⟩ := h
    refine q_iald hX g_2 dX3_count_87 88 rfl ?_
    refine q_iadd hX dX3_count_88 89 rfl ?_
    refine q_istore_n hX dX3_count_89 90 rfl (Nat.le_of_ble_eq_true rfl) rfl (fun y => [some (.ref (q_ad G 72)), some (.int a0), some (.int y), some (.int x3)]) (fun _ => rfl) (fun x2_3 ex2_3 => ?_)
    replace h := h x2_3 ex2_3
    refine q_iinc hX (1 : Int32) q_ki_1 rfl dX3_count_90 93 rfl (Nat.le_of_ble_eq_true rfl) rfl (fun y => [some (.ref (q_ad G 72)), some (.int a0), some (.int x2_3), some (.int y)]) (fun _ => rfl) (fun x3_4 ex3_4 => ?_)
    replace h := h x3_4 ex3_4
    refine q_goto hX dX3_count_93 73 (by decide) ?_
    exact q_weak [true, true, true, true] rfl (hK73 x2_3 x3_4 mem h)
set_option maxRecDepth 100000 in
set_option maxHeartbeats 4000000 in
theorem sn_X3_count_73 {X : q_X} {G : q_G} (hX : q_C X cX3_count 4 RX3 (some .int) 0 0) (a0 : Int32)  (x2 : Int32) (x3 : Int32) (Q : Int32 → q_Mem → Prop)  (mem : q_Mem) (h : wp_X3_count_73  a0 x2 x3 mem Q) : q_J X G 4 (q_QI X G Q) 73 [some (.ref (q_ad G 72)), some (.int a0), some (.int x2), some (.int x3)] [] mem := by
  obtain ⟨I, ⟨n, h0⟩, hs⟩ := h
  have key : ∀ (n : Nat) (yx2 : Int32) (yx3 : Int32) (ymem : q_Mem), I n yx2 yx3 ymem → q_J X G 4 (q_QI X G Q) 73 [some (.ref (q_ad G 72)), some (.int a0), some (.int yx2), some (.int yx3)] [] ymem := by
    intro n
    induction n using Nat.strongRecOn with
    | ind n ih =>
      intro yx2 yx3 ymem hI
      exact sn_X3_count_73_b hX  a0  yx2 yx3 Q  (fun (zx2 : Int32) (zx3 : Int32) (zmem : q_Mem) => ∃ n2, n2 < n ∧ I n2 zx2 zx3 zmem) (fun zx2 zx3 zmem hz => by obtain ⟨n2, h1, h2⟩ := hz; exact ih n2 h1 zx2 zx3 zmem h2) ymem (hs n yx2 yx3 ymem hI)
  exact key n x2 x3 mem h0
set_option maxRecDepth 100000 in
set_option maxHeartbeats 4000000 in
theorem sn_X3_count_0 {X : q_X} {G : q_G} (hX : q_C X cX3_count 4 RX3 (some .int) 0 0) (a0 : Int32)   (Q : Int32 → q_Mem → Prop)  (mem : q_Mem) (h : wp_X3_count  a0  mem Q) : q_J X G 4 (q_QI X G Q) 0 [some (.ref (q_ad G 72)), some (.int a0), none, none] [] mem := by
  unfold wp_X3_count at h
  refine q_iload_n hX rfl dX3_count_0 1 rfl ?_
  by_cases c_1 : a0 = (0 : Int32)
  · replace h := h.1 c_1
    refine q_tin hX dX3_count_1 44 (by rw [c_1]; decide) (by rw [c_1]; decide) (by rw [c_1]; rfl) (by decide) ?_
    refine q_aload_n hX rfl dX3_count_44 45 rfl ?_
    refine gf_X3_74 hX dX3_count_45 48 rfl ?_
    exact q_iret hX dX3_count_48 h
  replace h := h.2 c_1
  by_cases c_2 : a0 = (1 : Int32)
  · replace h := h.1 c_2
    refine q_tin hX dX3_count_1 49 (by rw [c_2]; decide) (by rw [c_2]; decide) (by rw [c_2]; rfl) (by decide) ?_
    refine q_aload_n hX rfl dX3_count_49 50 rfl ?_
    refine gf_X3_108 hX dX3_count_50 53 rfl ?_
    exact q_iret hX dX3_count_53 h
  replace h := h.2 c_2
  by_cases c_3 : a0 = (2 : Int32)
  · replace h := h.1 c_3
    refine q_tin hX dX3_count_1 54 (by rw [c_3]; decide) (by rw [c_3]; decide) (by rw [c_3]; rfl) (by decide) ?_
    refine q_aload_n hX rfl dX3_count_54 55 rfl ?_
    refine gf_X3_111 hX dX3_count_55 58 rfl ?_
    exact q_iret hX dX3_count_58 h
  replace h := h.2 c_3
  by_cases c_4 : a0 = (3 : Int32)
  · replace h := h.1 c_4
    refine q_tin hX dX3_count_1 59 (by rw [c_4]; decide) (by rw [c_4]; decide) (by rw [c_4]; rfl) (by decide) ?_
    refine q_aload_n hX rfl dX3_count_59 60 rfl ?_
    refine gf_X3_70 hX dX3_count_60 63 rfl ?_
    exact q_iret hX dX3_count_63 h
  replace h := h.2 c_4
  by_cases c_5 : a0 = (4 : Int32)
  · replace h := h.1 c_5
    refine q_tin hX dX3_count_1 64 (by rw [c_5]; decide) (by rw [c_5]; decide) (by rw [c_5]; rfl) (by decide) ?_
    refine q_aload_n hX rfl dX3_count_64 65 rfl ?_
    refine gf_X3_87 hX dX3_count_65 68 rfl ?_
    exact q_iret hX dX3_count_68 h
  replace h := h.2 c_5
  by_cases c_6 : a0 = (5 : Int32)
  · replace h := h.1 c_6
    refine q_tin hX dX3_count_1 69 (by rw [c_6]; decide) (by rw [c_6]; decide) (by rw [c_6]; rfl) (by decide) ?_
    refine q_iconst hX (0 : Int32) q_ki_0 dX3_count_69 70 rfl ?_
    refine q_istore_n hX dX3_count_70 71 rfl (Nat.le_of_ble_eq_true rfl) rfl (fun y => [some (.ref (q_ad G 72)), some (.int a0), some (.int y), none]) (fun _ => rfl) (fun x2_7 ex2_7 => ?_)
    replace ex2_7 := ex2_7.symm; subst ex2_7
    refine q_iconst hX (0 : Int32) q_ki_0 dX3_count_71 72 rfl ?_
    refine q_istore_n hX dX3_count_72 73 rfl (Nat.le_of_ble_eq_true rfl) rfl (fun y => [some (.ref (q_ad G 72)), some (.int a0), some (.int (0 : Int32)), some (.int y)]) (fun _ => rfl) (fun x3_8 ex3_8 => ?_)
    replace ex3_8 := ex3_8.symm; subst ex3_8
    exact q_weak [true, true, true, true] rfl (sn_X3_count_73 hX  a0  (0 : Int32) (0 : Int32) Q  mem h)
  replace h := h.2 c_6
  by_cases c_9 : a0 = (6 : Int32)
  · replace h := h.1 c_9
    refine q_tin hX dX3_count_1 98 (by rw [c_9]; decide) (by rw [c_9]; decide) (by rw [c_9]; rfl) (by decide) ?_
    refine q_aload_n hX rfl dX3_count_98 99 rfl ?_
    refine gf_X3_178 hX dX3_count_99 102 rfl ?_
    exact q_iret hX dX3_count_102 h
  replace h := h.2 c_9
  refine q_tout hX dX3_count_1 103 (by decide) (by have a0 := lv_neT c_1 (a := 0) (by decide); have a1 := lv_neT c_2 (a := 1) (by decide); have a2 := lv_neT c_3 (a := 2) (by decide); have a3 := lv_neT c_4 (a := 3) (by decide); have a4 := lv_neT c_5 (a := 4) (by decide); have a5 := lv_neT c_6 (a := 5) (by decide); have a6 := lv_neT c_9 (a := 6) (by decide); omega) ?_
  refine q_bipush hX (-102 : Int32) q_kb_m102 dX3_count_103 105 rfl ?_
  exact q_iret hX dX3_count_105 h
set_option maxRecDepth 100000 in
set_option maxHeartbeats 4000000 in
theorem sn_X3_count {l : Launch} {G : q_G} (a0 : Int32)  (mem : q_Mem) (Q : Int32 → q_Mem → Prop) (h : wp_X3_count a0 mem Q) : q_MI l G yX3_count cX3_count 4 (some .int) rm_X3_count [.ref (q_ad G 72), .int a0] mem Q := by
  refine q_metI 2 (by decide +kernel) (Nat.le_of_ble_eq_true rfl) rfl (fun X hl hX => ?_)
  subst hl
  exact sn_X3_count_0 hX a0  Q mem h

-- X3_cross
def wp_X3_cross_291  (a0 : Int32) (a1 : Int32) (x5 : Int32) (mem : q_Mem) (Q : q_Mem → Prop) : Prop := (((mem 72 0) ≤ a0) → vp_in (3 : Int32) (q_al 82) ∧ (vp_in (3 : Int32) (q_al 82) ∧ (∀ m_4 : q_Mem, m_4 = q_set mem 82 (upd (mem 82) (3 : Int32).toNatClampNeg ((mem 82 (3 : Int32).toNatClampNeg) - x5)) → Q m_4))) ∧ ((¬ (mem 72 0) ≤ a0) → vp_in a0 (q_al 77) ∧ (vp_in a0 (q_al 77) ∧ (∀ m_7 : q_Mem, m_7 = q_set mem 77 (upd (mem 77) a0.toNatClampNeg ((mem 77 a0.toNatClampNeg) + x5)) → Q m_7)))
def wp_X3_cross_260  (a0 : Int32) (a1 : Int32) (x5 : Int32) (mem : q_Mem) (Q : q_Mem → Prop) : Prop := ((a0 ≤ 0) → vp_in (2 : Int32) (q_al 82) ∧ (vp_in (2 : Int32) (q_al 82) ∧ (∀ m_4 : q_Mem, m_4 = q_set mem 82 (upd (mem 82) (2 : Int32).toNatClampNeg ((mem 82 (2 : Int32).toNatClampNeg) + x5)) → wp_X3_cross_291  a0 a1 x5 m_4 Q))) ∧ ((¬ a0 ≤ 0) → vp_in (a0 - (1 : Int32)) (q_al 77) ∧ (vp_in (a0 - (1 : Int32)) (q_al 77) ∧ (∀ m_7 : q_Mem, m_7 = q_set mem 77 (upd (mem 77) (a0 - (1 : Int32)).toNatClampNeg ((mem 77 (a0 - (1 : Int32)).toNatClampNeg) - x5)) → wp_X3_cross_291  a0 a1 x5 m_7 Q)))
def wp_X3_cross_258  (a0 : Int32) (a1 : Int32) (s1 : Int32) (mem : q_Mem) (Q : q_Mem → Prop) : Prop := wp_X3_cross_260  a0 a1 s1 mem Q
def wp_X3_cross_256  (a0 : Int32) (a1 : Int32) (x5 : Int32) (mem : q_Mem) (Q : q_Mem → Prop) : Prop := wp_X3_cross_258  a0 a1 x5 mem Q
def wp_X3_cross_207  (a0 : Int32) (a1 : Int32) (s1 : Int32) (mem : q_Mem) (Q : q_Mem → Prop) : Prop := ((a0 ≤ 0) → wp_X3_cross_256  a0 a1 s1 mem Q) ∧ ((¬ a0 ≤ 0) → vp_in (a0 - (1 : Int32)) (q_al 73) ∧ (vp_in (a0 - (1 : Int32)) (q_al 77) ∧ ((((-s1) ≤ ((mem 73 (a0 - (1 : Int32)).toNatClampNeg) - (mem 77 (a0 - (1 : Int32)).toNatClampNeg))) → wp_X3_cross_256  a0 a1 s1 mem Q) ∧ ((¬ (-s1) ≤ ((mem 73 (a0 - (1 : Int32)).toNatClampNeg) - (mem 77 (a0 - (1 : Int32)).toNatClampNeg))) → vp_in (a0 - (1 : Int32)) (q_al 77) ∧ (vp_in (a0 - (1 : Int32)) (q_al 73) ∧ (wp_X3_cross_258  a0 a1 ((mem 77 (a0 - (1 : Int32)).toNatClampNeg) - (mem 73 (a0 - (1 : Int32)).toNatClampNeg)) mem Q))))))
def wp_X3_cross_205  (a0 : Int32) (a1 : Int32) (x5 : Int32) (mem : q_Mem) (Q : q_Mem → Prop) : Prop := wp_X3_cross_207  a0 a1 x5 mem Q
def wp_X3_cross_170  (a0 : Int32) (a1 : Int32) (s1 : Int32) (mem : q_Mem) (Q : q_Mem → Prop) : Prop := wp_X3_cross_260  a0 a1 s1 mem Q
def wp_X3_cross_168  (a0 : Int32) (a1 : Int32) (x5 : Int32) (mem : q_Mem) (Q : q_Mem → Prop) : Prop := wp_X3_cross_170  a0 a1 x5 mem Q
def wp_X3_cross_124  (a0 : Int32) (a1 : Int32) (s1 : Int32) (mem : q_Mem) (Q : q_Mem → Prop) : Prop := (((mem 72 0) ≤ a0) → wp_X3_cross_168  a0 a1 s1 mem Q) ∧ ((¬ (mem 72 0) ≤ a0) → vp_in a0 (q_al 73) ∧ (vp_in a0 (q_al 77) ∧ (((s1 ≤ ((mem 73 a0.toNatClampNeg) - (mem 77 a0.toNatClampNeg))) → wp_X3_cross_168  a0 a1 s1 mem Q) ∧ ((¬ s1 ≤ ((mem 73 a0.toNatClampNeg) - (mem 77 a0.toNatClampNeg))) → vp_in a0 (q_al 73) ∧ (vp_in a0 (q_al 77) ∧ (wp_X3_cross_170  a0 a1 ((mem 73 a0.toNatClampNeg) - (mem 77 a0.toNatClampNeg)) mem Q))))))
def wp_X3_cross_122  (a0 : Int32) (a1 : Int32) (x5 : Int32) (mem : q_Mem) (Q : q_Mem → Prop) : Prop := wp_X3_cross_124  a0 a1 x5 mem Q
def wp_X3_cross_85  (a0 : Int32) (a1 : Int32) (s3 : Int32) (s2 : Int32) (s1 : Int32) (mem : q_Mem) (Q : q_Mem → Prop) : Prop := (¬ (s2 + s3) = 0) ∧ (∀ x5_2 : Int32, x5_2 = (s1 / (s2 + s3)) → ((x5_2 ≤ 0) → (((mem 72 0) ≤ a0) → wp_X3_cross_205  a0 a1 x5_2 mem Q) ∧ ((¬ (mem 72 0) ≤ a0) → vp_in a0 (q_al 77) ∧ ((((-x5_2) ≤ (mem 77 a0.toNatClampNeg)) → wp_X3_cross_205  a0 a1 x5_2 mem Q) ∧ ((¬ (-x5_2) ≤ (mem 77 a0.toNatClampNeg)) → vp_in a0 (q_al 77) ∧ (wp_X3_cross_207  a0 a1 (-(mem 77 a0.toNatClampNeg)) mem Q))))) ∧ ((¬ x5_2 ≤ 0) → ((a0 ≤ 0) → wp_X3_cross_122  a0 a1 x5_2 mem Q) ∧ ((¬ a0 ≤ 0) → vp_in (a0 - (1 : Int32)) (q_al 77) ∧ (((x5_2 ≤ (mem 77 (a0 - (1 : Int32)).toNatClampNeg)) → wp_X3_cross_122  a0 a1 x5_2 mem Q) ∧ ((¬ x5_2 ≤ (mem 77 (a0 - (1 : Int32)).toNatClampNeg)) → vp_in (a0 - (1 : Int32)) (q_al 77) ∧ (wp_X3_cross_124  a0 a1 (mem 77 (a0 - (1 : Int32)).toNatClampNeg) mem Q))))))
def wp_X3_cross_67  (a0 : Int32) (a1 : Int32) (s2 : Int32) (s1 : Int32) (mem : q_Mem) (Q : q_Mem → Prop) : Prop := ((¬ a0 = (mem 72 0)) → vp_in a0 (q_al 74) ∧ (wp_X3_cross_85  a0 a1 (mem 74 a0.toNatClampNeg) s2 s1 mem Q)) ∧ ((a0 = (mem 72 0)) → wp_X3_cross_85  a0 a1 (1 : Int32) s2 s1 mem Q)
def wp_X3_cross_45  (a0 : Int32) (a1 : Int32) (x3 : Int32) (s1 : Int32) (mem : q_Mem) (Q : q_Mem → Prop) : Prop := ((¬ a0 = 0) → vp_in (a0 - (1 : Int32)) (q_al 74) ∧ (wp_X3_cross_67  a0 a1 (mem 74 (a0 - (1 : Int32)).toNatClampNeg) (x3 - s1) mem Q)) ∧ ((a0 = 0) → wp_X3_cross_67  a0 a1 (1 : Int32) (x3 - s1) mem Q)
def wp_X3_cross_20  (a0 : Int32) (a1 : Int32) (s1 : Int32) (mem : q_Mem) (Q : q_Mem → Prop) : Prop := ((¬ a0 = (mem 72 0)) → wp_X3_damp a0 mem (fun r_3 m_4 => wp_X3_cross_45  a0 a1 s1 r_3 m_4 Q)) ∧ ((a0 = (mem 72 0)) → vp_in (a1 + (3 : Int32)) (q_al 83) ∧ (wp_X3_cross_45  a0 a1 s1 (mem 83 (a1 + (3 : Int32)).toNatClampNeg) mem Q))
def wp_X3_cross  (a0 : Int32) (a1 : Int32)  (mem : q_Mem) (Q : q_Mem → Prop) : Prop := ((¬ a0 = 0) → wp_X3_damp (a0 - (1 : Int32)) mem (fun r_2 m_3 => wp_X3_cross_20  a0 a1 r_2 m_3 Q)) ∧ ((a0 = 0) → vp_in a1 (q_al 83) ∧ (wp_X3_cross_20  a0 a1 (mem 83 a1.toNatClampNeg) mem Q))
set_option maxRecDepth 100000 in
set_option maxHeartbeats 4000000 in
theorem sn_X3_cross_291 {X : q_X} {G : q_G} (hX : q_C X cX3_cross 6 RX3 none 1 24) (a0 : Int32) (a1 : Int32)  (x5 : Int32) (Q : q_Mem → Prop)  (mem : q_Mem) (h : wp_X3_cross_291  a0 a1 x5 mem Q) : q_J X G 6 (q_QV X G Q) 291 [some (.ref (q_ad G 72)), some (.int a0), some (.int a1), none, none, some (.int x5)] [] mem := by
  unfold wp_X3_cross_291 at h
  refine q_iload_n hX rfl dX3_cross_291 292 rfl ?_
  refine q_aload_n hX rfl dX3_cross_292 293 rfl ?_
  refine gf_X3_74 hX dX3_cross_293 296 rfl ?_
  refine q_icmp_ge hX dX3_cross_296 299 313 rfl (by decide) (fun c_1 => ?_) (fun c_1 => ?_)
  · replace h := h.1 c_1
    refine q_aload_n hX rfl dX3_cross_313 314 rfl ?_
    refine gf_X3_37 hX dX3_cross_314 317 rfl ?_
    refine q_iconst hX (3 : Int32) q_ki_3 dX3_cross_317 318 rfl ?_
    refine q_dup2 hX rfl rfl dX3_cross_318 319 rfl ?_
    obtain ⟨g_2, h⟩ := h
    refine q_iald hX g_2 dX3_cross_319 320 rfl ?_
    refine q_iload hX rfl dX3_cross_320 322 rfl ?_
    refine q_isub hX dX3_cross_322 323 rfl ?_
    obtain ⟨g_3, h⟩ := h
    refine q_iast hX g_3 dX3_cross_323 324 rfl (fun m_4 em_4 => ?_)
    replace h := h m_4 em_4
    exact q_vret hX dX3_cross_324 h
  · replace h := h.2 c_1
    refine q_aload_n hX rfl dX3_cross_299 300 rfl ?_
    refine gf_X3_22 hX dX3_cross_300 303 rfl ?_
    refine q_iload_n hX rfl dX3_cross_303 304 rfl ?_
    refine q_dup2 hX rfl rfl dX3_cross_304 305 rfl ?_
    obtain ⟨g_5, h⟩ := h
    refine q_iald hX g_5 dX3_cross_305 306 rfl ?_
    refine q_iload hX rfl dX3_cross_306 308 rfl ?_
    refine q_iadd hX dX3_cross_308 309 rfl ?_
    obtain ⟨g_6, h⟩ := h
    refine q_iast hX g_6 dX3_cross_309 310 rfl (fun m_7 em_7 => ?_)
    replace h := h m_7 em_7
    refine q_goto hX dX3_cross_310 324 (by decide) ?_
    exact q_vret hX dX3_cross_324 h
set_option maxRecDepth 100000 in
set_option maxHeartbeats 4000000 in
theorem sn_X3_cross_260 {X : q_X} {G : q_G} (hX : q_C X cX3_cross 6 RX3 none 1 24) (a0 : Int32) (a1 : Int32)  (x5 : Int32) (Q : q_Mem → Prop)  (mem : q_Mem) (h : wp_X3_cross_260  a0 a1 x5 mem Q) : q_J X G 6 (q_QV X G Q) 260 [some (.ref (q_ad G 72)), some (.int a0), some (.int a1), none, none, some (.int x5)] [] mem := by
  unfold wp_X3_cross_260 at h
  refine q_iload_n hX rfl dX3_cross_260 261 rfl ?_
  refine q_if_le hX dX3_cross_261 264 280 rfl (by decide) (fun c_1 => ?_) (fun c_1 => ?_)
  · replace h := h.1 c_1
    refine q_aload_n hX rfl dX3_cross_280 281 rfl ?_
    refine gf_X3_37 hX dX3_cross_281 284 rfl ?_
    refine q_iconst hX (2 : Int32) q_ki_2 dX3_cross_284 285 rfl ?_
    refine q_dup2 hX rfl rfl dX3_cross_285 286 rfl ?_
    obtain ⟨g_2, h⟩ := h
    refine q_iald hX g_2 dX3_cross_286 287 rfl ?_
    refine q_iload hX rfl dX3_cross_287 289 rfl ?_
    refine q_iadd hX dX3_cross_289 290 rfl ?_
    obtain ⟨g_3, h⟩ := h
    refine q_iast hX g_3 dX3_cross_290 291 rfl (fun m_4 em_4 => ?_)
    replace h := h m_4 em_4
    exact q_weak [true, true, true, false, false, true] rfl (sn_X3_cross_291 hX  a0 a1  x5 Q  m_4 h)
  · replace h := h.2 c_1
    refine q_aload_n hX rfl dX3_cross_264 265 rfl ?_
    refine gf_X3_22 hX dX3_cross_265 268 rfl ?_
    refine q_iload_n hX rfl dX3_cross_268 269 rfl ?_
    refine q_iconst hX (1 : Int32) q_ki_1 dX3_cross_269 270 rfl ?_
    refine q_isub hX dX3_cross_270 271 rfl ?_
    refine q_dup2 hX rfl rfl dX3_cross_271 272 rfl ?_
    obtain ⟨g_5, h⟩ := h
    refine q_iald hX g_5 dX3_cross_272 273 rfl ?_
    refine q_iload hX rfl dX3_cross_273 275 rfl ?_
    refine q_isub hX dX3_cross_275 276 rfl ?_
    obtain ⟨g_6, h⟩ := h
    refine q_iast hX g_6 dX3_cross_276 277 rfl (fun m_7 em_7 => ?_)
    replace h := h m_7 em_7
    refine q_goto hX dX3_cross_277 291 (by decide) ?_
    exact q_weak [true, true, true, false, false, true] rfl (sn_X3_cross_291 hX  a0 a1  x5 Q  m_7 h)
set_option maxRecDepth 100000 in
set_option maxHeartbeats 4000000 in
theorem sn_X3_cross_258 {X : q_X} {G : q_G} (hX : q_C X cX3_cross 6 RX3 none 1 24) (a0 : Int32) (a1 : Int32)  (s1 : Int32) (Q : q_Mem → Prop)  (mem : q_Mem) (h : wp_X3_cross_258  a0 a1 s1 mem Q) : q_J X G 6 (q_QV X G Q) 258 [some (.ref (q_ad G 72)), some (.int a0), some (.int a1), none, none, none] [.int s1] mem := by
  unfold wp_X3_cross_258 at h
  refine q_istore hX dX3_cross_258 260 rfl (Nat.le_of_ble_eq_true rfl) rfl (fun y => [some (.ref (q_ad G 72)), some (.int a0), some (.int a1), none, none, some (.int y)]) (fun _ => rfl) (fun x5_1 ex5_1 => ?_)
  replace ex5_1 := ex5_1.symm; subst ex5_1
  exact q_weak [true, true, true, false, false, true] rfl (sn_X3_cross_260 hX  a0 a1  s1 Q  mem h)
set_option maxRecDepth 100000 in
set_option maxHeartbeats 4000000 in
theorem sn_X3_cross_256 {X : q_X} {G : q_G} (hX : q_C X cX3_cross 6 RX3 none 1 24) (a0 : Int32) (a1 : Int32)  (x5 : Int32) (Q : q_Mem → Prop)  (mem : q_Mem) (h : wp_X3_cross_256  a0 a1 x5 mem Q) : q_J X G 6 (q_QV X G Q) 256 [some (.ref (q_ad G 72)), some (.int a0), some (.int a1), none, none, some (.int x5)] [] mem := by
  unfold wp_X3_cross_256 at h
  refine q_iload hX rfl dX3_cross_256 258 rfl ?_
  exact q_weak [true, true, true, false, false, false] rfl (sn_X3_cross_258 hX  a0 a1  x5 Q  mem h)
set_option maxRecDepth 100000 in
set_option maxHeartbeats 4000000 in
theorem sn_X3_cross_207 {X : q_X} {G : q_G} (hX : q_C X cX3_cross 6 RX3 none 1 24) (a0 : Int32) (a1 : Int32)  (s1 : Int32) (Q : q_Mem → Prop)  (mem : q_Mem) (h : wp_X3_cross_207  a0 a1 s1 mem Q) : q_J X G 6 (q_QV X G Q) 207 [some (.ref (q_ad G 72)), some (.int a0), some (.int a1), none, none, none] [.int s1] mem := by
  unfold wp_X3_cross_207 at h
  refine q_istore hX dX3_cross_207 209 rfl (Nat.le_of_ble_eq_true rfl) rfl (fun y => [some (.ref (q_ad G 72)), some (.int a0), some (.int a1), none, none, some (.int y)]) (fun _ => rfl) (fun x5_1 ex5_1 => ?_)
  replace ex5_1 := ex5_1.symm; subst ex5_1
  refine q_iload_n hX rfl dX3_cross_209 210 rfl ?_
  refine q_if_le hX dX3_cross_210 213 256 rfl (by decide) (fun c_2 => ?_) (fun c_2 => ?_)
  · replace h := h.1 c_2
    exact q_weak [true, true, true, false, false, true] rfl (sn_X3_cross_256 hX  a0 a1  s1 Q  mem h)
  · replace h := h.2 c_2
    refine q_iload hX rfl dX3_cross_213 215 rfl ?_
    refine q_ineg hX dX3_cross_215 216 rfl ?_
    refine q_aload_n hX rfl dX3_cross_216 217 rfl ?_
    refine gf_X3_7 hX dX3_cross_217 220 rfl ?_
    refine q_iload_n hX rfl dX3_cross_220 221 rfl ?_
    refine q_iconst hX (1 : Int32) q_ki_1 dX3_cross_221 222 rfl ?_
    refine q_isub hX dX3_cross_222 223 rfl ?_
    obtain ⟨g_3, h⟩ := h
    refine q_iald hX g_3 dX3_cross_223 224 rfl ?_
    refine q_aload_n hX rfl dX3_cross_224 225 rfl ?_
    refine gf_X3_22 hX dX3_cross_225 228 rfl ?_
    refine q_iload_n hX rfl dX3_cross_228 229 rfl ?_
    refine q_iconst hX (1 : Int32) q_ki_1 dX3_cross_229 230 rfl ?_
    refine q_isub hX dX3_cross_230 231 rfl ?_
    obtain ⟨g_4, h⟩ := h
    refine q_iald hX g_4 dX3_cross_231 232 rfl ?_
    refine q_isub hX dX3_cross_232 233 rfl ?_
    refine q_icmp_le hX dX3_cross_233 236 256 rfl (by decide) (fun c_5 => ?_) (fun c_5 => ?_)
    · replace h := h.1 c_5
      exact q_weak [true, true, true, false, false, true] rfl (sn_X3_cross_256 hX  a0 a1  s1 Q  mem h)
    · replace h := h.2 c_5
      refine q_aload_n hX rfl dX3_cross_236 237 rfl ?_
      refine gf_X3_22 hX dX3_cross_237 240 rfl ?_
      refine q_iload_n hX rfl dX3_cross_240 241 rfl ?_
      refine q_iconst hX (1 : Int32) q_ki_1 dX3_cross_241 242 rfl ?_
      refine q_isub hX dX3_cross_242 243 rfl ?_
      obtain ⟨g_6, h⟩ := h
      refine q_iald hX g_6 dX3_cross_243 244 rfl ?_
      refine q_aload_n hX rfl dX3_cross_244 245 rfl ?_
      refine gf_X3_7 hX dX3_cross_245 248 rfl ?_
      refine q_iload_n hX rfl dX3_cross_248 249 rfl ?_
      refine q_iconst hX (1 : Int32) q_ki_1 dX3_cross_249 250 rfl ?_
      refine q_isub hX dX3_cross_250 251 rfl ?_
      obtain ⟨g_7, h⟩ := h
      refine q_iald hX g_7 dX3_cross_251 252 rfl ?_
      refine q_isub hX dX3_cross_252 253 rfl ?_
      refine q_goto hX dX3_cross_253 258 (by decide) ?_
      exact q_weak [true, true, true, false, false, false] rfl (sn_X3_cross_258 hX  a0 a1  ((mem 77 (a0 - (1 : Int32)).toNatClampNeg) - (mem 73 (a0 - (1 : Int32)).toNatClampNeg)) Q  mem h)
set_option maxRecDepth 100000 in
set_option maxHeartbeats 4000000 in
theorem sn_X3_cross_205 {X : q_X} {G : q_G} (hX : q_C X cX3_cross 6 RX3 none 1 24) (a0 : Int32) (a1 : Int32)  (x5 : Int32) (Q : q_Mem → Prop)  (mem : q_Mem) (h : wp_X3_cross_205  a0 a1 x5 mem Q) : q_J X G 6 (q_QV X G Q) 205 [some (.ref (q_ad G 72)), some (.int a0), some (.int a1), none, none, some (.int x5)] [] mem := by
  unfold wp_X3_cross_205 at h
  refine q_iload hX rfl dX3_cross_205 207 rfl ?_
  exact q_weak [true, true, true, false, false, false] rfl (sn_X3_cross_207 hX  a0 a1  x5 Q  mem h)
set_option maxRecDepth 100000 in
set_option maxHeartbeats 4000000 in
theorem sn_X3_cross_170 {X : q_X} {G : q_G} (hX : q_C X cX3_cross 6 RX3 none 1 24) (a0 : Int32) (a1 : Int32)  (s1 : Int32) (Q : q_Mem → Prop)  (mem : q_Mem) (h : wp_X3_cross_170  a0 a1 s1 mem Q) : q_J X G 6 (q_QV X G Q) 170 [some (.ref (q_ad G 72)), some (.int a0), some (.int a1), none, none, none] [.int s1] mem := by
  unfold wp_X3_cross_170 at h
  refine q_istore hX dX3_cross_170 172 rfl (Nat.le_of_ble_eq_true rfl) rfl (fun y => [some (.ref (q_ad G 72)), some (.int a0), some (.int a1), none, none, some (.int y)]) (fun _ => rfl) (fun x5_1 ex5_1 => ?_)
  replace ex5_1 := ex5_1.symm; subst ex5_1
  refine q_goto hX dX3_cross_172 260 (by decide) ?_
  exact q_weak [true, true, true, false, false, true] rfl (sn_X3_cross_260 hX  a0 a1  s1 Q  mem h)
set_option maxRecDepth 100000 in
set_option maxHeartbeats 4000000 in
theorem sn_X3_cross_168 {X : q_X} {G : q_G} (hX : q_C X cX3_cross 6 RX3 none 1 24) (a0 : Int32) (a1 : Int32)  (x5 : Int32) (Q : q_Mem → Prop)  (mem : q_Mem) (h : wp_X3_cross_168  a0 a1 x5 mem Q) : q_J X G 6 (q_QV X G Q) 168 [some (.ref (q_ad G 72)), some (.int a0), some (.int a1), none, none, some (.int x5)] [] mem := by
  unfold wp_X3_cross_168 at h
  refine q_iload hX rfl dX3_cross_168 170 rfl ?_
  exact q_weak [true, true, true, false, false, false] rfl (sn_X3_cross_170 hX  a0 a1  x5 Q  mem h)
set_option maxRecDepth 100000 in
set_option maxHeartbeats 4000000 in
theorem sn_X3_cross_124 {X : q_X} {G : q_G} (hX : q_C X cX3_cross 6 RX3 none 1 24) (a0 : Int32) (a1 : Int32)  (s1 : Int32) (Q : q_Mem → Prop)  (mem : q_Mem) (h : wp_X3_cross_124  a0 a1 s1 mem Q) : q_J X G 6 (q_QV X G Q) 124 [some (.ref (q_ad G 72)), some (.int a0), some (.int a1), none, none, none] [.int s1] mem := by
  unfold wp_X3_cross_124 at h
  refine q_istore hX dX3_cross_124 126 rfl (Nat.le_of_ble_eq_true rfl) rfl (fun y => [some (.ref (q_ad G 72)), some (.int a0), some (.int a1), none, none, some (.int y)]) (fun _ => rfl) (fun x5_1 ex5_1 => ?_)
  replace ex5_1 := ex5_1.symm; subst ex5_1
  refine q_iload_n hX rfl dX3_cross_126 127 rfl ?_
  refine q_aload_n hX rfl dX3_cross_127 128 rfl ?_
  refine gf_X3_74 hX dX3_cross_128 131 rfl ?_
  refine q_icmp_ge hX dX3_cross_131 134 168 rfl (by decide) (fun c_2 => ?_) (fun c_2 => ?_)
  · replace h := h.1 c_2
    exact q_weak [true, true, true, false, false, true] rfl (sn_X3_cross_168 hX  a0 a1  s1 Q  mem h)
  · replace h := h.2 c_2
    refine q_iload hX rfl dX3_cross_134 136 rfl ?_
    refine q_aload_n hX rfl dX3_cross_136 137 rfl ?_
    refine gf_X3_7 hX dX3_cross_137 140 rfl ?_
    refine q_iload_n hX rfl dX3_cross_140 141 rfl ?_
    obtain ⟨g_3, h⟩ := h
    refine q_iald hX g_3 dX3_cross_141 142 rfl ?_
    refine q_aload_n hX rfl dX3_cross_142 143 rfl ?_
    refine gf_X3_22 hX dX3_cross_143 146 rfl ?_
    refine q_iload_n hX rfl dX3_cross_146 147 rfl ?_
    obtain ⟨g_4, h⟩ := h
    refine q_iald hX g_4 dX3_cross_147 148 rfl ?_
    refine q_isub hX dX3_cross_148 149 rfl ?_
    refine q_icmp_le hX dX3_cross_149 152 168 rfl (by decide) (fun c_5 => ?_) (fun c_5 => ?_)
    · replace h := h.1 c_5
      exact q_weak [true, true, true, false, false, true] rfl (sn_X3_cross_168 hX  a0 a1  s1 Q  mem h)
    · replace h := h.2 c_5
      refine q_aload_n hX rfl dX3_cross_152 153 rfl ?_
      refine gf_X3_7 hX dX3_cross_153 156 rfl ?_
      refine q_iload_n hX rfl dX3_cross_156 157 rfl ?_
      obtain ⟨g_6, h⟩ := h
      refine q_iald hX g_6 dX3_cross_157 158 rfl ?_
      refine q_aload_n hX rfl dX3_cross_158 159 rfl ?_
      refine gf_X3_22 hX dX3_cross_159 162 rfl ?_
      refine q_iload_n hX rfl dX3_cross_162 163 rfl ?_
      obtain ⟨g_7, h⟩ := h
      refine q_iald hX g_7 dX3_cross_163 164 rfl ?_
      refine q_isub hX dX3_cross_164 165 rfl ?_
      refine q_goto hX dX3_cross_165 170 (by decide) ?_
      exact q_weak [true, true, true, false, false, false] rfl (sn_X3_cross_170 hX  a0 a1  ((mem 73 a0.toNatClampNeg) - (mem 77 a0.toNatClampNeg)) Q  mem h)
set_option maxRecDepth 100000 in
set_option maxHeartbeats 4000000 in
theorem sn_X3_cross_122 {X : q_X} {G : q_G} (hX : q_C X cX3_cross 6 RX3 none 1 24) (a0 : Int32) (a1 : Int32)  (x5 : Int32) (Q : q_Mem → Prop)  (mem : q_Mem) (h : wp_X3_cross_122  a0 a1 x5 mem Q) : q_J X G 6 (q_QV X G Q) 122 [some (.ref (q_ad G 72)), some (.int a0), some (.int a1), none, none, some (.int x5)] [] mem := by
  unfold wp_X3_cross_122 at h
  refine q_iload hX rfl dX3_cross_122 124 rfl ?_
  exact q_weak [true, true, true, false, false, false] rfl (sn_X3_cross_124 hX  a0 a1  x5 Q  mem h)
set_option maxRecDepth 100000 in
set_option maxHeartbeats 4000000 in
theorem sn_X3_cross_85 {X : q_X} {G : q_G} (hX : q_C X cX3_cross 6 RX3 none 1 24) (a0 : Int32) (a1 : Int32)  (s3 : Int32) (s2 : Int32) (s1 : Int32) (Q : q_Mem → Prop)  (mem : q_Mem) (h : wp_X3_cross_85  a0 a1 s3 s2 s1 mem Q) : q_J X G 6 (q_QV X G Q) 85 [some (.ref (q_ad G 72)), some (.int a0), some (.int a1), none, none, none] [.int s3, .int s2, .int s1] mem := by
  unfold wp_X3_cross_85 at h
  refine q_iadd hX dX3_cross_85 86 rfl ?_
  obtain ⟨g_1, h⟩ := h
  refine q_idiv hX g_1 dX3_cross_86 87 rfl ?_
  refine q_istore hX dX3_cross_87 89 rfl (Nat.le_of_ble_eq_true rfl) rfl (fun y => [some (.ref (q_ad G 72)), some (.int a0), some (.int a1), none, none, some (.int y)]) (fun _ => rfl) (fun x5_2 ex5_2 => ?_)
  replace h := h x5_2 ex5_2
  refine q_iload hX rfl dX3_cross_89 91 rfl ?_
  refine q_if_le hX dX3_cross_91 94 175 rfl (by decide) (fun c_3 => ?_) (fun c_3 => ?_)
  · replace h := h.1 c_3
    refine q_iload_n hX rfl dX3_cross_175 176 rfl ?_
    refine q_aload_n hX rfl dX3_cross_176 177 rfl ?_
    refine gf_X3_74 hX dX3_cross_177 180 rfl ?_
    refine q_icmp_ge hX dX3_cross_180 183 205 rfl (by decide) (fun c_4 => ?_) (fun c_4 => ?_)
    · replace h := h.1 c_4
      exact q_weak [true, true, true, false, false, true] rfl (sn_X3_cross_205 hX  a0 a1  x5_2 Q  mem h)
    · replace h := h.2 c_4
      refine q_iload hX rfl dX3_cross_183 185 rfl ?_
      refine q_ineg hX dX3_cross_185 186 rfl ?_
      refine q_aload_n hX rfl dX3_cross_186 187 rfl ?_
      refine gf_X3_22 hX dX3_cross_187 190 rfl ?_
      refine q_iload_n hX rfl dX3_cross_190 191 rfl ?_
      obtain ⟨g_5, h⟩ := h
      refine q_iald hX g_5 dX3_cross_191 192 rfl ?_
      refine q_icmp_le hX dX3_cross_192 195 205 rfl (by decide) (fun c_6 => ?_) (fun c_6 => ?_)
      · replace h := h.1 c_6
        exact q_weak [true, true, true, false, false, true] rfl (sn_X3_cross_205 hX  a0 a1  x5_2 Q  mem h)
      · replace h := h.2 c_6
        refine q_aload_n hX rfl dX3_cross_195 196 rfl ?_
        refine gf_X3_22 hX dX3_cross_196 199 rfl ?_
        refine q_iload_n hX rfl dX3_cross_199 200 rfl ?_
        obtain ⟨g_7, h⟩ := h
        refine q_iald hX g_7 dX3_cross_200 201 rfl ?_
        refine q_ineg hX dX3_cross_201 202 rfl ?_
        refine q_goto hX dX3_cross_202 207 (by decide) ?_
        exact q_weak [true, true, true, false, false, false] rfl (sn_X3_cross_207 hX  a0 a1  (-(mem 77 a0.toNatClampNeg)) Q  mem h)
  · replace h := h.2 c_3
    refine q_iload_n hX rfl dX3_cross_94 95 rfl ?_
    refine q_if_le hX dX3_cross_95 98 122 rfl (by decide) (fun c_8 => ?_) (fun c_8 => ?_)
    · replace h := h.1 c_8
      exact q_weak [true, true, true, false, false, true] rfl (sn_X3_cross_122 hX  a0 a1  x5_2 Q  mem h)
    · replace h := h.2 c_8
      refine q_iload hX rfl dX3_cross_98 100 rfl ?_
      refine q_aload_n hX rfl dX3_cross_100 101 rfl ?_
      refine gf_X3_22 hX dX3_cross_101 104 rfl ?_
      refine q_iload_n hX rfl dX3_cross_104 105 rfl ?_
      refine q_iconst hX (1 : Int32) q_ki_1 dX3_cross_105 106 rfl ?_
      refine q_isub hX dX3_cross_106 107 rfl ?_
      obtain ⟨g_9, h⟩ := h
      refine q_iald hX g_9 dX3_cross_107 108 rfl ?_
      refine q_icmp_le hX dX3_cross_108 111 122 rfl (by decide) (fun c_10 => ?_) (fun c_10 => ?_)
      · replace h := h.1 c_10
        exact q_weak [true, true, true, false, false, true] rfl (sn_X3_cross_122 hX  a0 a1  x5_2 Q  mem h)
      · replace h := h.2 c_10
        refine q_aload_n hX rfl dX3_cross_111 112 rfl ?_
        refine gf_X3_22 hX dX3_cross_112 115 rfl ?_
        refine q_iload_n hX rfl dX3_cross_115 116 rfl ?_
        refine q_iconst hX (1 : Int32) q_ki_1 dX3_cross_116 117 rfl ?_
        refine q_isub hX dX3_cross_117 118 rfl ?_
        obtain ⟨g_11, h⟩ := h
        refine q_iald hX g_11 dX3_cross_118 119 rfl ?_
        refine q_goto hX dX3_cross_119 124 (by decide) ?_
        exact q_weak [true, true, true, false, false, false] rfl (sn_X3_cross_124 hX  a0 a1  (mem 77 (a0 - (1 : Int32)).toNatClampNeg) Q  mem h)
set_option maxRecDepth 100000 in
set_option maxHeartbeats 4000000 in
theorem sn_X3_cross_67 {X : q_X} {G : q_G} (hX : q_C X cX3_cross 6 RX3 none 1 24) (a0 : Int32) (a1 : Int32)  (s2 : Int32) (s1 : Int32) (Q : q_Mem → Prop)  (mem : q_Mem) (h : wp_X3_cross_67  a0 a1 s2 s1 mem Q) : q_J X G 6 (q_QV X G Q) 67 [some (.ref (q_ad G 72)), some (.int a0), some (.int a1), none, none, none] [.int s2, .int s1] mem := by
  unfold wp_X3_cross_67 at h
  refine q_iload_n hX rfl dX3_cross_67 68 rfl ?_
  refine q_aload_n hX rfl dX3_cross_68 69 rfl ?_
  refine gf_X3_74 hX dX3_cross_69 72 rfl ?_
  refine q_icmp_ne hX dX3_cross_72 75 79 rfl (by decide) (fun c_1 => ?_) (fun c_1 => ?_)
  · replace h := h.1 c_1
    refine q_aload_n hX rfl dX3_cross_79 80 rfl ?_
    refine gf_X3_13 hX dX3_cross_80 83 rfl ?_
    refine q_iload_n hX rfl dX3_cross_83 84 rfl ?_
    obtain ⟨g_2, h⟩ := h
    refine q_iald hX g_2 dX3_cross_84 85 rfl ?_
    exact q_weak [true, true, true, false, false, false] rfl (sn_X3_cross_85 hX  a0 a1  (mem 74 a0.toNatClampNeg) s2 s1 Q  mem h)
  · replace h := h.2 c_1
    refine q_iconst hX (1 : Int32) q_ki_1 dX3_cross_75 76 rfl ?_
    refine q_goto hX dX3_cross_76 85 (by decide) ?_
    exact q_weak [true, true, true, false, false, false] rfl (sn_X3_cross_85 hX  a0 a1  (1 : Int32) s2 s1 Q  mem h)
set_option maxRecDepth 100000 in
set_option maxHeartbeats 4000000 in
theorem sn_X3_cross_45 {X : q_X} {G : q_G} (hX : q_C X cX3_cross 6 RX3 none 1 24) (a0 : Int32) (a1 : Int32)  (x3 : Int32) (s1 : Int32) (Q : q_Mem → Prop)  (mem : q_Mem) (h : wp_X3_cross_45  a0 a1 x3 s1 mem Q) : q_J X G 6 (q_QV X G Q) 45 [some (.ref (q_ad G 72)), some (.int a0), some (.int a1), some (.int x3), none, none] [.int s1] mem := by
  unfold wp_X3_cross_45 at h
  refine q_istore hX dX3_cross_45 47 rfl (Nat.le_of_ble_eq_true rfl) rfl (fun y => [some (.ref (q_ad G 72)), some (.int a0), some (.int a1), some (.int x3), some (.int y), none]) (fun _ => rfl) (fun x4_1 ex4_1 => ?_)
  replace ex4_1 := ex4_1.symm; subst ex4_1
  refine q_iload_n hX rfl dX3_cross_47 48 rfl ?_
  refine q_iload hX rfl dX3_cross_48 50 rfl ?_
  refine q_isub hX dX3_cross_50 51 rfl ?_
  refine q_iload_n hX rfl dX3_cross_51 52 rfl ?_
  refine q_if_ne hX dX3_cross_52 55 59 rfl (by decide) (fun c_2 => ?_) (fun c_2 => ?_)
  · replace h := h.1 c_2
    refine q_aload_n hX rfl dX3_cross_59 60 rfl ?_
    refine gf_X3_13 hX dX3_cross_60 63 rfl ?_
    refine q_iload_n hX rfl dX3_cross_63 64 rfl ?_
    refine q_iconst hX (1 : Int32) q_ki_1 dX3_cross_64 65 rfl ?_
    refine q_isub hX dX3_cross_65 66 rfl ?_
    obtain ⟨g_3, h⟩ := h
    refine q_iald hX g_3 dX3_cross_66 67 rfl ?_
    exact q_weak [true, true, true, false, false, false] rfl (sn_X3_cross_67 hX  a0 a1  (mem 74 (a0 - (1 : Int32)).toNatClampNeg) (x3 - s1) Q  mem h)
  · replace h := h.2 c_2
    refine q_iconst hX (1 : Int32) q_ki_1 dX3_cross_55 56 rfl ?_
    refine q_goto hX dX3_cross_56 67 (by decide) ?_
    exact q_weak [true, true, true, false, false, false] rfl (sn_X3_cross_67 hX  a0 a1  (1 : Int32) (x3 - s1) Q  mem h)
set_option maxRecDepth 100000 in
set_option maxHeartbeats 4000000 in
theorem sn_X3_cross_20 {X : q_X} {G : q_G} (hX : q_C X cX3_cross 6 RX3 none 1 24) (a0 : Int32) (a1 : Int32)  (s1 : Int32) (Q : q_Mem → Prop)  (mem : q_Mem) (h : wp_X3_cross_20  a0 a1 s1 mem Q) : q_J X G 6 (q_QV X G Q) 20 [some (.ref (q_ad G 72)), some (.int a0), some (.int a1), none, none, none] [.int s1] mem := by
  unfold wp_X3_cross_20 at h
  refine q_istore_n hX dX3_cross_20 21 rfl (Nat.le_of_ble_eq_true rfl) rfl (fun y => [some (.ref (q_ad G 72)), some (.int a0), some (.int a1), some (.int y), none, none]) (fun _ => rfl) (fun x3_1 ex3_1 => ?_)
  replace ex3_1 := ex3_1.symm; subst ex3_1
  refine q_iload_n hX rfl dX3_cross_21 22 rfl ?_
  refine q_aload_n hX rfl dX3_cross_22 23 rfl ?_
  refine gf_X3_74 hX dX3_cross_23 26 rfl ?_
  refine q_icmp_ne hX dX3_cross_26 29 40 rfl (by decide) (fun c_2 => ?_) (fun c_2 => ?_)
  · replace h := h.1 c_2
    refine q_aload_n hX rfl dX3_cross_40 41 rfl ?_
    refine q_iload_n hX rfl dX3_cross_41 42 rfl ?_
    refine cl_X3_96 hX  ⟨Nat.le_of_ble_eq_true rfl, Nat.le_of_ble_eq_true rfl⟩ (Nat.le_of_ble_eq_true rfl) dX3_cross_42 45 rfl (sn_X3_damp a0  mem _ h) (fun r_3 m_4 h => ?_)
    exact q_weak [true, true, true, true, false, false] rfl (sn_X3_cross_45 hX  a0 a1  s1 r_3 Q  m_4 h)
  · replace h := h.2 c_2
    refine q_aload_n hX rfl dX3_cross_29 30 rfl ?_
    refine gf_X3_40 hX dX3_cross_30 33 rfl ?_
    refine q_iload_n hX rfl dX3_cross_33 34 rfl ?_
    refine q_iconst hX (3 : Int32) q_ki_3 dX3_cross_34 35 rfl ?_
    refine q_iadd hX dX3_cross_35 36 rfl ?_
    obtain ⟨g_5, h⟩ := h
    refine q_iald hX g_5 dX3_cross_36 37 rfl ?_
    refine q_goto hX dX3_cross_37 45 (by decide) ?_
    exact q_weak [true, true, true, true, false, false] rfl (sn_X3_cross_45 hX  a0 a1  s1 (mem 83 (a1 + (3 : Int32)).toNatClampNeg) Q  mem h)
set_option maxRecDepth 100000 in
set_option maxHeartbeats 4000000 in
theorem sn_X3_cross_0 {X : q_X} {G : q_G} (hX : q_C X cX3_cross 6 RX3 none 1 24) (a0 : Int32) (a1 : Int32)   (Q : q_Mem → Prop)  (mem : q_Mem) (h : wp_X3_cross  a0 a1  mem Q) : q_J X G 6 (q_QV X G Q) 0 [some (.ref (q_ad G 72)), some (.int a0), some (.int a1), none, none, none] [] mem := by
  unfold wp_X3_cross at h
  refine q_iload_n hX rfl dX3_cross_0 1 rfl ?_
  refine q_if_ne hX dX3_cross_1 4 13 rfl (by decide) (fun c_1 => ?_) (fun c_1 => ?_)
  · replace h := h.1 c_1
    refine q_aload_n hX rfl dX3_cross_13 14 rfl ?_
    refine q_iload_n hX rfl dX3_cross_14 15 rfl ?_
    refine q_iconst hX (1 : Int32) q_ki_1 dX3_cross_15 16 rfl ?_
    refine q_isub hX dX3_cross_16 17 rfl ?_
    refine cl_X3_96 hX  ⟨Nat.le_of_ble_eq_true rfl, Nat.le_of_ble_eq_true rfl⟩ (Nat.le_of_ble_eq_true rfl) dX3_cross_17 20 rfl (sn_X3_damp (a0 - (1 : Int32))  mem _ h) (fun r_2 m_3 h => ?_)
    exact q_weak [true, true, true, false, false, false] rfl (sn_X3_cross_20 hX  a0 a1  r_2 Q  m_3 h)
  · replace h := h.2 c_1
    refine q_aload_n hX rfl dX3_cross_4 5 rfl ?_
    refine gf_X3_40 hX dX3_cross_5 8 rfl ?_
    refine q_iload_n hX rfl dX3_cross_8 9 rfl ?_
    obtain ⟨g_4, h⟩ := h
    refine q_iald hX g_4 dX3_cross_9 10 rfl ?_
    refine q_goto hX dX3_cross_10 20 (by decide) ?_
    exact q_weak [true, true, true, false, false, false] rfl (sn_X3_cross_20 hX  a0 a1  (mem 83 a1.toNatClampNeg) Q  mem h)
set_option maxRecDepth 100000 in
set_option maxHeartbeats 4000000 in
theorem sn_X3_cross {l : Launch} {G : q_G} (a0 : Int32) (a1 : Int32)  (mem : q_Mem) (Q : q_Mem → Prop) (h : wp_X3_cross a0 a1 mem Q) : q_MV l G yX3_cross cX3_cross 6 none rm_X3_cross [.ref (q_ad G 72), .int a0, .int a1] mem Q := by
  refine q_metV 3 (by decide +kernel) (Nat.le_of_ble_eq_true rfl) rfl (fun X hl hX => ?_)
  subst hl
  exact sn_X3_cross_0 hX a0 a1  Q mem h

-- X3_digest
def wp_X3_digest_210   (l1 : Int64) (mem : q_Mem) (Q : Int64 → q_Mem → Prop) : Prop := ∀ l1_1 : Int64, l1_1 = (((31 : Int64) * l1) + ((mem 72 12).toInt64)) → ∀ l1_2 : Int64, l1_2 = (((31 : Int64) * l1_1) + ((mem 72 13).toInt64)) → Q (((31 : Int64) * l1_2) + ((mem 72 24).toInt64)) mem
def wp_X3_digest_140_b (K140 : Int64 → Int32 → q_Mem → Prop)  (l1 : Int64) (x3 : Int32) (mem : q_Mem) (Q : Int64 → q_Mem → Prop) : Prop := (((mem 72 19) ≤ x3) → wp_X3_digest_210   l1 mem Q) ∧ ((¬ (mem 72 19) ≤ x3) → vp_in x3 (q_al 88) ∧ (∀ l1_3 : Int64, l1_3 = (((31 : Int64) * l1) + ((mem 88 x3.toNatClampNeg).toInt64)) → vp_in x3 (q_al 89) ∧ (∀ l1_5 : Int64, l1_5 = (((31 : Int64) * l1_3) + ((mem 89 x3.toNatClampNeg).toInt64)) → vp_in x3 (q_al 90) ∧ (∀ l1_7 : Int64, l1_7 = (((31 : Int64) * l1_5) + ((mem 90 x3.toNatClampNeg).toInt64)) → vp_in x3 (q_al 91) ∧ (∀ l1_9 : Int64, l1_9 = (((31 : Int64) * l1_7) + ((mem 91 x3.toNatClampNeg).toInt64)) → ∀ x3_10 : Int32, x3_10 = (x3 + (1 : Int32)) → K140 l1_9 x3_10 mem)))))
def wp_X3_digest_140   (l1 : Int64) (x3 : Int32) (mem : q_Mem) (Q : Int64 → q_Mem → Prop) : Prop := ∃ I : Nat → Int64 → Int32 → q_Mem → Prop, (∃ n, I n l1 x3 mem) ∧ ∀ (n : Nat) (yl1 : Int64) (yx3 : Int32) (ymem : q_Mem), I n yl1 yx3 ymem → wp_X3_digest_140_b  (fun (zl1 : Int64) (zx3 : Int32) (zmem : q_Mem) => ∃ n2, n2 < n ∧ I n2 zl1 zx3 zmem)  yl1 yx3 ymem Q
def wp_X3_digest_138   (l1 : Int64) (mem : q_Mem) (Q : Int64 → q_Mem → Prop) : Prop := wp_X3_digest_140   l1 (0 : Int32) mem Q
def wp_X3_digest_113_b (K113 : Int64 → Int32 → q_Mem → Prop)  (l1 : Int64) (x3 : Int32) (mem : q_Mem) (Q : Int64 → q_Mem → Prop) : Prop := (((5 : Int32) ≤ x3) → wp_X3_digest_138   l1 mem Q) ∧ ((¬ (5 : Int32) ≤ x3) → vp_in x3 (q_al 82) ∧ (∀ l1_3 : Int64, l1_3 = (((31 : Int64) * l1) + ((mem 82 x3.toNatClampNeg).toInt64)) → ∀ x3_4 : Int32, x3_4 = (x3 + (1 : Int32)) → K113 l1_3 x3_4 mem))
def wp_X3_digest_113   (l1 : Int64) (x3 : Int32) (mem : q_Mem) (Q : Int64 → q_Mem → Prop) : Prop := ∃ I : Nat → Int64 → Int32 → q_Mem → Prop, (∃ n, I n l1 x3 mem) ∧ ∀ (n : Nat) (yl1 : Int64) (yx3 : Int32) (ymem : q_Mem), I n yl1 yx3 ymem → wp_X3_digest_113_b  (fun (zl1 : Int64) (zx3 : Int32) (zmem : q_Mem) => ∃ n2, n2 < n ∧ I n2 zl1 zx3 zmem)  yl1 yx3 ymem Q
def wp_X3_digest_111   (l1 : Int64) (mem : q_Mem) (Q : Int64 → q_Mem → Prop) : Prop := wp_X3_digest_113   l1 (0 : Int32) mem Q
def wp_X3_digest_81_b (K81 : Int64 → Int32 → q_Mem → Prop)  (l1 : Int64) (x3 : Int32) (mem : q_Mem) (Q : Int64 → q_Mem → Prop) : Prop := ((((5 : Int32) * (mem 72 11)) ≤ x3) → wp_X3_digest_111   l1 mem Q) ∧ ((¬ ((5 : Int32) * (mem 72 11)) ≤ x3) → vp_in x3 (q_al 83) ∧ (∀ l1_3 : Int64, l1_3 = (((31 : Int64) * l1) + ((mem 83 x3.toNatClampNeg).toInt64)) → ∀ x3_4 : Int32, x3_4 = (x3 + (1 : Int32)) → K81 l1_3 x3_4 mem))
def wp_X3_digest_81   (l1 : Int64) (x3 : Int32) (mem : q_Mem) (Q : Int64 → q_Mem → Prop) : Prop := ∃ I : Nat → Int64 → Int32 → q_Mem → Prop, (∃ n, I n l1 x3 mem) ∧ ∀ (n : Nat) (yl1 : Int64) (yx3 : Int32) (ymem : q_Mem), I n yl1 yx3 ymem → wp_X3_digest_81_b  (fun (zl1 : Int64) (zx3 : Int32) (zmem : q_Mem) => ∃ n2, n2 < n ∧ I n2 zl1 zx3 zmem)  yl1 yx3 ymem Q
def wp_X3_digest_79   (l1 : Int64) (mem : q_Mem) (Q : Int64 → q_Mem → Prop) : Prop := wp_X3_digest_81   l1 (0 : Int32) mem Q
def wp_X3_digest_73 (K34 : Int64 → Int32 → q_Mem → Prop)  (l1 : Int64) (x3 : Int32) (mem : q_Mem) (Q : Int64 → q_Mem → Prop) : Prop := ∀ x3_1 : Int32, x3_1 = (x3 + (1 : Int32)) → K34 l1 x3_1 mem
def wp_X3_digest_45_b (K34 : Int64 → Int32 → q_Mem → Prop) (K45 : Int64 → Int32 → q_Mem → Prop)  (l1 : Int64) (x3 : Int32) (x4 : Int32) (mem : q_Mem) (Q : Int64 → q_Mem → Prop) : Prop := (((9 : Int32) ≤ x4) → wp_X3_digest_73 K34  l1 x3 mem Q) ∧ ((¬ (9 : Int32) ≤ x4) → wp_X3_aboutOf x3 x4 mem (fun r_2 m_3 => ∀ l1_4 : Int64, l1_4 = (((31 : Int64) * l1) + (r_2.toInt64)) → ∀ x4_5 : Int32, x4_5 = (x4 + (1 : Int32)) → K45 l1_4 x4_5 m_3))
def wp_X3_digest_45 (K34 : Int64 → Int32 → q_Mem → Prop)  (l1 : Int64) (x3 : Int32) (x4 : Int32) (mem : q_Mem) (Q : Int64 → q_Mem → Prop) : Prop := ∃ I : Nat → Int64 → Int32 → q_Mem → Prop, (∃ n, I n l1 x4 mem) ∧ ∀ (n : Nat) (yl1 : Int64) (yx4 : Int32) (ymem : q_Mem), I n yl1 yx4 ymem → wp_X3_digest_45_b K34 (fun (zl1 : Int64) (zx4 : Int32) (zmem : q_Mem) => ∃ n2, n2 < n ∧ I n2 zl1 zx4 zmem)  yl1 x3 yx4 ymem Q
def wp_X3_digest_34_b (K34 : Int64 → Int32 → q_Mem → Prop)  (l1 : Int64) (x3 : Int32) (mem : q_Mem) (Q : Int64 → q_Mem → Prop) : Prop := (((mem 72 0) ≤ x3) → wp_X3_digest_79   l1 mem Q) ∧ ((¬ (mem 72 0) ≤ x3) → wp_X3_digest_45 K34  l1 x3 (0 : Int32) mem Q)
def wp_X3_digest_34   (l1 : Int64) (x3 : Int32) (mem : q_Mem) (Q : Int64 → q_Mem → Prop) : Prop := ∃ I : Nat → Int64 → Int32 → q_Mem → Prop, (∃ n, I n l1 x3 mem) ∧ ∀ (n : Nat) (yl1 : Int64) (yx3 : Int32) (ymem : q_Mem), I n yl1 yx3 ymem → wp_X3_digest_34_b  (fun (zl1 : Int64) (zx3 : Int32) (zmem : q_Mem) => ∃ n2, n2 < n ∧ I n2 zl1 zx3 zmem)  yl1 yx3 ymem Q
def wp_X3_digest_32   (l1 : Int64) (mem : q_Mem) (Q : Int64 → q_Mem → Prop) : Prop := wp_X3_digest_34   l1 (0 : Int32) mem Q
def wp_X3_digest_6_b (K6 : Int64 → Int32 → q_Mem → Prop)  (l1 : Int64) (x3 : Int32) (mem : q_Mem) (Q : Int64 → q_Mem → Prop) : Prop := (((15 : Int32) ≤ x3) → wp_X3_digest_32   l1 mem Q) ∧ ((¬ (15 : Int32) ≤ x3) → vp_in x3 (q_al 81) ∧ (∀ l1_3 : Int64, l1_3 = (((31 : Int64) * l1) + ((mem 81 x3.toNatClampNeg).toInt64)) → ∀ x3_4 : Int32, x3_4 = (x3 + (1 : Int32)) → K6 l1_3 x3_4 mem))
def wp_X3_digest_6   (l1 : Int64) (x3 : Int32) (mem : q_Mem) (Q : Int64 → q_Mem → Prop) : Prop := ∃ I : Nat → Int64 → Int32 → q_Mem → Prop, (∃ n, I n l1 x3 mem) ∧ ∀ (n : Nat) (yl1 : Int64) (yx3 : Int32) (ymem : q_Mem), I n yl1 yx3 ymem → wp_X3_digest_6_b  (fun (zl1 : Int64) (zx3 : Int32) (zmem : q_Mem) => ∃ n2, n2 < n ∧ I n2 zl1 zx3 zmem)  yl1 yx3 ymem Q
def wp_X3_digest    (mem : q_Mem) (Q : Int64 → q_Mem → Prop) : Prop := wp_X3_digest_6   (181 : Int64) (0 : Int32) mem Q
set_option maxRecDepth 100000 in
set_option maxHeartbeats 4000000 in
theorem sn_X3_digest_210 {X : q_X} {G : q_G} (hX : q_C X cX3_digest 5 RX3 (some .long) 2 46)   (l1 : Int64) (Q : Int64 → q_Mem → Prop)  (mem : q_Mem) (h : wp_X3_digest_210   l1 mem Q) : q_J X G 5 (q_QL X G Q) 210 [some (.ref (q_ad G 72)), some (.long l1), none, none, none] [] mem := by
  unfold wp_X3_digest_210 at h
  refine q_ldc2 hX tw_747 dX3_digest_210 213 rfl ?_
  refine q_lload_n hX rfl dX3_digest_213 214 rfl ?_
  refine q_lmul hX dX3_digest_214 215 rfl ?_
  refine q_aload_n hX rfl dX3_digest_215 216 rfl ?_
  refine gf_X3_111 hX dX3_digest_216 219 rfl ?_
  refine q_i2l hX dX3_digest_219 220 rfl ?_
  refine q_ladd hX dX3_digest_220 221 rfl ?_
  refine q_lstore_n hX dX3_digest_221 222 rfl (Nat.le_of_ble_eq_true rfl) rfl (fun y => [some (.ref (q_ad G 72)), some (.long y), none, none, none]) (fun _ => rfl) (fun l1_1 el1_1 => ?_)
  replace h := h l1_1 el1_1
  refine q_ldc2 hX tw_747 dX3_digest_222 225 rfl ?_
  refine q_lload_n hX rfl dX3_digest_225 226 rfl ?_
  refine q_lmul hX dX3_digest_226 227 rfl ?_
  refine q_aload_n hX rfl dX3_digest_227 228 rfl ?_
  refine gf_X3_70 hX dX3_digest_228 231 rfl ?_
  refine q_i2l hX dX3_digest_231 232 rfl ?_
  refine q_ladd hX dX3_digest_232 233 rfl ?_
  refine q_lstore_n hX dX3_digest_233 234 rfl (Nat.le_of_ble_eq_true rfl) rfl (fun y => [some (.ref (q_ad G 72)), some (.long y), none, none, none]) (fun _ => rfl) (fun l1_2 el1_2 => ?_)
  replace h := h l1_2 el1_2
  refine q_ldc2 hX tw_747 dX3_digest_234 237 rfl ?_
  refine q_lload_n hX rfl dX3_digest_237 238 rfl ?_
  refine q_lmul hX dX3_digest_238 239 rfl ?_
  refine q_aload_n hX rfl dX3_digest_239 240 rfl ?_
  refine gf_X3_178 hX dX3_digest_240 243 rfl ?_
  refine q_i2l hX dX3_digest_243 244 rfl ?_
  refine q_ladd hX dX3_digest_244 245 rfl ?_
  exact q_lret hX dX3_digest_245 h
set_option maxRecDepth 100000 in
set_option maxHeartbeats 4000000 in
theorem sn_X3_digest_140_b {X : q_X} {G : q_G} (hX : q_C X cX3_digest 5 RX3 (some .long) 2 46)   (l1 : Int64) (x3 : Int32) (Q : Int64 → q_Mem → Prop) (K140 : Int64 → Int32 → q_Mem → Prop) (hK140 : ∀ (yl1 : Int64) (yx3 : Int32) (ymem : q_Mem), K140 yl1 yx3 ymem → q_J X G 5 (q_QL X G Q) 140 [some (.ref (q_ad G 72)), some (.long yl1), none, some (.int yx3), none] [] ymem) (mem : q_Mem) (h : wp_X3_digest_140_b K140  l1 x3 mem Q) : q_J X G 5 (q_QL X G Q) 140 [some (.ref (q_ad G 72)), some (.long l1), none, some (.int x3), none] [] mem := by
  unfold wp_X3_digest_140_b at h
  refine q_iload_n hX rfl dX3_digest_140 141 rfl ?_
  refine q_aload_n hX rfl dX3_digest_141 142 rfl ?_
  refine gf_X3_87 hX dX3_digest_142 145 rfl ?_
  refine q_icmp_ge hX dX3_digest_145 148 210 rfl (by decide) (fun c_1 => ?_) (fun c_1 => ?_)
  · replace h := h.1 c_1
    exact q_weak [true, true, false, false, false] rfl (sn_X3_digest_210 hX    l1 Q  mem h)
  · replace h := h.2 c_1
    refine q_ldc2 hX tw_747 dX3_digest_148 151 rfl ?_
    refine q_lload_n hX rfl dX3_digest_151 152 rfl ?_
    refine q_lmul hX dX3_digest_152 153 rfl ?_
    refine q_aload_n hX rfl dX3_digest_153 154 rfl ?_
    refine gf_X3_55 hX dX3_digest_154 157 rfl ?_
    refine q_iload_n hX rfl dX3_digest_157 158 rfl ?_
    obtain ⟨g_2, h⟩ := h
    refine q_iald hX g_2 dX3_digest_158 159 rfl ?_
    refine q_i2l hX dX3_digest_159 160 rfl ?_
    refine q_ladd hX dX3_digest_160 161 rfl ?_
    refine q_lstore_n hX dX3_digest_161 162 rfl (Nat.le_of_ble_eq_true rfl) rfl (fun y => [some (.ref (q_ad G 72)), some (.long y), none, some (.int x3), none]) (fun _ => rfl) (fun l1_3 el1_3 => ?_)
    replace h := h l1_3 el1_3
    refine q_ldc2 hX tw_747 dX3_digest_162 165 rfl ?_
    refine q_lload_n hX rfl dX3_digest_165 166 rfl ?_
    refine q_lmul hX dX3_digest_166 167 rfl ?_
    refine q_aload_n hX rfl dX3_digest_167 168 rfl ?_
    refine gf_X3_58 hX dX3_digest_168 171 rfl ?_
    refine q_iload_n hX rfl dX3_digest_171 172 rfl ?_
    obtain ⟨g_4, h⟩ := h
    refine q_iald hX g_4 dX3_digest_172 173 rfl ?_
    refine q_i2l hX dX3_digest_173 174 rfl ?_
    refine q_ladd hX dX3_digest_174 175 rfl ?_
    refine q_lstore_n hX dX3_digest_175 176 rfl (Nat.le_of_ble_eq_true rfl) rfl (fun y => [some (.ref (q_ad G 72)), some (.long y), none, some (.int x3), none]) (fun _ => rfl) (fun l1_5 el1_5 => ?_)
    replace h := h l1_5 el1_5
    refine q_ldc2 hX tw_747 dX3_digest_176 179 rfl ?_
    refine q_lload_n hX rfl dX3_digest_179 180 rfl ?_
    refine q_lmul hX dX3_digest_180 181 rfl ?_
    refine q_aload_n hX rfl dX3_digest_181 182 rfl ?_
    refine gf_X3_61 hX dX3_digest_182 185 rfl ?_
    refine q_iload_n hX rfl dX3_digest_185 186 rfl ?_
    obtain ⟨g_6, h⟩ := h
    refine q_iald hX g_6 dX3_digest_186 187 rfl ?_
    refine q_i2l hX dX3_digest_187 188 rfl ?_
    refine q_ladd hX dX3_digest_188 189 rfl ?_
    refine q_lstore_n hX dX3_digest_189 190 rfl (Nat.le_of_ble_eq_true rfl) rfl (fun y => [some (.ref (q_ad G 72)), some (.long y), none, some (.int x3), none]) (fun _ => rfl) (fun l1_7 el1_7 => ?_)
    replace h := h l1_7 el1_7
    refine q_ldc2 hX tw_747 dX3_digest_190 193 rfl ?_
    refine q_lload_n hX rfl dX3_digest_193 194 rfl ?_
    refine q_lmul hX dX3_digest_194 195 rfl ?_
    refine q_aload_n hX rfl dX3_digest_195 196 rfl ?_
    refine gf_X3_64 hX dX3_digest_196 199 rfl ?_
    refine q_iload_n hX rfl dX3_digest_199 200 rfl ?_
    obtain ⟨g_8, h⟩ := h
    refine q_iald hX g_8 dX3_digest_200 201 rfl ?_
    refine q_i2l hX dX3_digest_201 202 rfl ?_
    refine q_ladd hX dX3_digest_202 203 rfl ?_
    refine q_lstore_n hX dX3_digest_203 204 rfl (Nat.le_of_ble_eq_true rfl) rfl (fun y => [some (.ref (q_ad G 72)), some (.long y), none, some (.int x3), none]) (fun _ => rfl) (fun l1_9 el1_9 => ?_)
    replace h := h l1_9 el1_9
    refine q_iinc hX (1 : Int32) q_ki_1 rfl dX3_digest_204 207 rfl (Nat.le_of_ble_eq_true rfl) rfl (fun y => [some (.ref (q_ad G 72)), some (.long l1_9), none, some (.int y), none]) (fun _ => rfl) (fun x3_10 ex3_10 => ?_)
    replace h := h x3_10 ex3_10
    refine q_goto hX dX3_digest_207 140 (by decide) ?_
    exact q_weak [true, true, false, true, false] rfl (hK140 l1_9 x3_10 mem h)
set_option maxRecDepth 100000 in
set_option maxHeartbeats 4000000 in
theorem sn_X3_digest_140 {X : q_X} {G : q_G} (hX : q_C X cX3_digest 5 RX3 (some .long) 2 46)   (l1 : Int64) (x3 : Int32) (Q : Int64 → q_Mem → Prop)  (mem : q_Mem) (h : wp_X3_digest_140   l1 x3 mem Q) : q_J X G 5 (q_QL X G Q) 140 [some (.ref (q_ad G 72)), some (.long l1), none, some (.int x3), none] [] mem := by
  obtain ⟨I, ⟨n, h0⟩, hs⟩ := h
  have key : ∀ (n : Nat) (yl1 : Int64) (yx3 : Int32) (ymem : q_Mem), I n yl1 yx3 ymem → q_J X G 5 (q_QL X G Q) 140 [some (.ref (q_ad G 72)), some (.long yl1), none, some (.int yx3), none] [] ymem := by
    intro n
    induction n using Nat.strongRecOn with
    | ind n ih =>
      intro yl1 yx3 ymem hI
      exact sn_X3_digest_140_b hX    yl1 yx3 Q  (fun (zl1 : Int64) (zx3 : Int32) (zmem : q_Mem) => ∃ n2, n2 < n ∧ I n2 zl1 zx3 zmem) (fun zl1 zx3 zmem hz => by obtain ⟨n2, h1, h2⟩ := hz; exact ih n2 h1 zl1 zx3 zmem h2) ymem (hs n yl1 yx3 ymem hI)
  exact key n l1 x3 mem h0
set_option maxRecDepth 100000 in
set_option maxHeartbeats 4000000 in
theorem sn_X3_digest_138 {X : q_X} {G : q_G} (hX : q_C X cX3_digest 5 RX3 (some .long) 2 46)   (l1 : Int64) (Q : Int64 → q_Mem → Prop)  (mem : q_Mem) (h : wp_X3_digest_138   l1 mem Q) : q_J X G 5 (q_QL X G Q) 138 [some (.ref (q_ad G 72)), some (.long l1), none, none, none] [] mem := by
  unfold wp_X3_digest_138 at h
  refine q_iconst hX (0 : Int32) q_ki_0 dX3_digest_138 139 rfl ?_
  refine q_istore_n hX dX3_digest_139 140 rfl (Nat.le_of_ble_eq_true rfl) rfl (fun y => [some (.ref (q_ad G 72)), some (.long l1), none, some (.int y), none]) (fun _ => rfl) (fun x3_1 ex3_1 => ?_)
  replace ex3_1 := ex3_1.symm; subst ex3_1
  exact q_weak [true, true, false, true, false] rfl (sn_X3_digest_140 hX    l1 (0 : Int32) Q  mem h)
set_option maxRecDepth 100000 in
set_option maxHeartbeats 4000000 in
theorem sn_X3_digest_113_b {X : q_X} {G : q_G} (hX : q_C X cX3_digest 5 RX3 (some .long) 2 46)   (l1 : Int64) (x3 : Int32) (Q : Int64 → q_Mem → Prop) (K113 : Int64 → Int32 → q_Mem → Prop) (hK113 : ∀ (yl1 : Int64) (yx3 : Int32) (ymem : q_Mem), K113 yl1 yx3 ymem → q_J X G 5 (q_QL X G Q) 113 [some (.ref (q_ad G 72)), some (.long yl1), none, some (.int yx3), none] [] ymem) (mem : q_Mem) (h : wp_X3_digest_113_b K113  l1 x3 mem Q) : q_J X G 5 (q_QL X G Q) 113 [some (.ref (q_ad G 72)), some (.long l1), none, some (.int x3), none] [] mem := by
  unfold wp_X3_digest_113_b at h
  refine q_iload_n hX rfl dX3_digest_113 114 rfl ?_
  refine q_iconst hX (5 : Int32) q_ki_5 dX3_digest_114 115 rfl ?_
  refine q_icmp_ge hX dX3_digest_115 118 138 rfl (by decide) (fun c_1 => ?_) (fun c_1 => ?_)
  · replace h := h.1 c_1
    exact q_weak [true, true, false, false, false] rfl (sn_X3_digest_138 hX    l1 Q  mem h)
  · replace h := h.2 c_1
    refine q_ldc2 hX tw_747 dX3_digest_118 121 rfl ?_
    refine q_lload_n hX rfl dX3_digest_121 122 rfl ?_
    refine q_lmul hX dX3_digest_122 123 rfl ?_
    refine q_aload_n hX rfl dX3_digest_123 124 rfl ?_
    refine gf_X3_37 hX dX3_digest_124 127 rfl ?_
    refine q_iload_n hX rfl dX3_digest_127 128 rfl ?_
    obtain ⟨g_2, h⟩ := h
    refine q_iald hX g_2 dX3_digest_128 129 rfl ?_
    refine q_i2l hX dX3_digest_129 130 rfl ?_
    refine q_ladd hX dX3_digest_130 131 rfl ?_
    refine q_lstore_n hX dX3_digest_131 132 rfl (Nat.le_of_ble_eq_true rfl) rfl (fun y => [some (.ref (q_ad G 72)), some (.long y), none, some (.int x3), none]) (fun _ => rfl) (fun l1_3 el1_3 => ?_)
    replace h := h l1_3 el1_3
    refine q_iinc hX (1 : Int32) q_ki_1 rfl dX3_digest_132 135 rfl (Nat.le_of_ble_eq_true rfl) rfl (fun y => [some (.ref (q_ad G 72)), some (.long l1_3), none, some (.int y), none]) (fun _ => rfl) (fun x3_4 ex3_4 => ?_)
    replace h := h x3_4 ex3_4
    refine q_goto hX dX3_digest_135 113 (by decide) ?_
    exact q_weak [true, true, false, true, false] rfl (hK113 l1_3 x3_4 mem h)
set_option maxRecDepth 100000 in
set_option maxHeartbeats 4000000 in
theorem sn_X3_digest_113 {X : q_X} {G : q_G} (hX : q_C X cX3_digest 5 RX3 (some .long) 2 46)   (l1 : Int64) (x3 : Int32) (Q : Int64 → q_Mem → Prop)  (mem : q_Mem) (h : wp_X3_digest_113   l1 x3 mem Q) : q_J X G 5 (q_QL X G Q) 113 [some (.ref (q_ad G 72)), some (.long l1), none, some (.int x3), none] [] mem := by
  obtain ⟨I, ⟨n, h0⟩, hs⟩ := h
  have key : ∀ (n : Nat) (yl1 : Int64) (yx3 : Int32) (ymem : q_Mem), I n yl1 yx3 ymem → q_J X G 5 (q_QL X G Q) 113 [some (.ref (q_ad G 72)), some (.long yl1), none, some (.int yx3), none] [] ymem := by
    intro n
    induction n using Nat.strongRecOn with
    | ind n ih =>
      intro yl1 yx3 ymem hI
      exact sn_X3_digest_113_b hX    yl1 yx3 Q  (fun (zl1 : Int64) (zx3 : Int32) (zmem : q_Mem) => ∃ n2, n2 < n ∧ I n2 zl1 zx3 zmem) (fun zl1 zx3 zmem hz => by obtain ⟨n2, h1, h2⟩ := hz; exact ih n2 h1 zl1 zx3 zmem h2) ymem (hs n yl1 yx3 ymem hI)
  exact key n l1 x3 mem h0
set_option maxRecDepth 100000 in
set_option maxHeartbeats 4000000 in
theorem sn_X3_digest_111 {X : q_X} {G : q_G} (hX : q_C X cX3_digest 5 RX3 (some .long) 2 46)   (l1 : Int64) (Q : Int64 → q_Mem → Prop)  (mem : q_Mem) (h : wp_X3_digest_111   l1 mem Q) : q_J X G 5 (q_QL X G Q) 111 [some (.ref (q_ad G 72)), some (.long l1), none, none, none] [] mem := by
  unfold wp_X3_digest_111 at h
  refine q_iconst hX (0 : Int32) q_ki_0 dX3_digest_111 112 rfl ?_
  refine q_istore_n hX dX3_digest_112 113 rfl (Nat.le_of_ble_eq_true rfl) rfl (fun y => [some (.ref (q_ad G 72)), some (.long l1), none, some (.int y), none]) (fun _ => rfl) (fun x3_1 ex3_1 => ?_)
  replace ex3_1 := ex3_1.symm; subst ex3_1
  exact q_weak [true, true, false, true, false] rfl (sn_X3_digest_113 hX    l1 (0 : Int32) Q  mem h)
set_option maxRecDepth 100000 in
set_option maxHeartbeats 4000000 in
theorem sn_X3_digest_81_b {X : q_X} {G : q_G} (hX : q_C X cX3_digest 5 RX3 (some .long) 2 46)   (l1 : Int64) (x3 : Int32) (Q : Int64 → q_Mem → Prop) (K81 : Int64 → Int32 → q_Mem → Prop) (hK81 : ∀ (yl1 : Int64) (yx3 : Int32) (ymem : q_Mem), K81 yl1 yx3 ymem → q_J X G 5 (q_QL X G Q) 81 [some (.ref (q_ad G 72)), some (.long yl1), none, some (.int yx3), none] [] ymem) (mem : q_Mem) (h : wp_X3_digest_81_b K81  l1 x3 mem Q) : q_J X G 5 (q_QL X G Q) 81 [some (.ref (q_ad G 72)), some (.long l1), none, some (.int x3), none] [] mem := by
  unfold wp_X3_digest_81_b at h
  refine q_iload_n hX rfl dX3_digest_81 82 rfl ?_
  refine q_iconst hX (5 : Int32) q_ki_5 dX3_digest_82 83 rfl ?_
  refine q_aload_n hX rfl dX3_digest_83 84 rfl ?_
  refine gf_X3_108 hX dX3_digest_84 87 rfl ?_
  refine q_imul hX dX3_digest_87 88 rfl ?_
  refine q_icmp_ge hX dX3_digest_88 91 111 rfl (by decide) (fun c_1 => ?_) (fun c_1 => ?_)
  · replace h := h.1 c_1
    exact q_weak [true, true, false, false, false] rfl (sn_X3_digest_111 hX    l1 Q  mem h)
  · replace h := h.2 c_1
    refine q_ldc2 hX tw_747 dX3_digest_91 94 rfl ?_
    refine q_lload_n hX rfl dX3_digest_94 95 rfl ?_
    refine q_lmul hX dX3_digest_95 96 rfl ?_
    refine q_aload_n hX rfl dX3_digest_96 97 rfl ?_
    refine gf_X3_40 hX dX3_digest_97 100 rfl ?_
    refine q_iload_n hX rfl dX3_digest_100 101 rfl ?_
    obtain ⟨g_2, h⟩ := h
    refine q_iald hX g_2 dX3_digest_101 102 rfl ?_
    refine q_i2l hX dX3_digest_102 103 rfl ?_
    refine q_ladd hX dX3_digest_103 104 rfl ?_
    refine q_lstore_n hX dX3_digest_104 105 rfl (Nat.le_of_ble_eq_true rfl) rfl (fun y => [some (.ref (q_ad G 72)), some (.long y), none, some (.int x3), none]) (fun _ => rfl) (fun l1_3 el1_3 => ?_)
    replace h := h l1_3 el1_3
    refine q_iinc hX (1 : Int32) q_ki_1 rfl dX3_digest_105 108 rfl (Nat.le_of_ble_eq_true rfl) rfl (fun y => [some (.ref (q_ad G 72)), some (.long l1_3), none, some (.int y), none]) (fun _ => rfl) (fun x3_4 ex3_4 => ?_)
    replace h := h x3_4 ex3_4
    refine q_goto hX dX3_digest_108 81 (by decide) ?_
    exact q_weak [true, true, false, true, false] rfl (hK81 l1_3 x3_4 mem h)
set_option maxRecDepth 100000 in
set_option maxHeartbeats 4000000 in
theorem sn_X3_digest_81 {X : q_X} {G : q_G} (hX : q_C X cX3_digest 5 RX3 (some .long) 2 46)   (l1 : Int64) (x3 : Int32) (Q : Int64 → q_Mem → Prop)  (mem : q_Mem) (h : wp_X3_digest_81   l1 x3 mem Q) : q_J X G 5 (q_QL X G Q) 81 [some (.ref (q_ad G 72)), some (.long l1), none, some (.int x3), none] [] mem := by
  obtain ⟨I, ⟨n, h0⟩, hs⟩ := h
  have key : ∀ (n : Nat) (yl1 : Int64) (yx3 : Int32) (ymem : q_Mem), I n yl1 yx3 ymem → q_J X G 5 (q_QL X G Q) 81 [some (.ref (q_ad G 72)), some (.long yl1), none, some (.int yx3), none] [] ymem := by
    intro n
    induction n using Nat.strongRecOn with
    | ind n ih =>
      intro yl1 yx3 ymem hI
      exact sn_X3_digest_81_b hX    yl1 yx3 Q  (fun (zl1 : Int64) (zx3 : Int32) (zmem : q_Mem) => ∃ n2, n2 < n ∧ I n2 zl1 zx3 zmem) (fun zl1 zx3 zmem hz => by obtain ⟨n2, h1, h2⟩ := hz; exact ih n2 h1 zl1 zx3 zmem h2) ymem (hs n yl1 yx3 ymem hI)
  exact key n l1 x3 mem h0
set_option maxRecDepth 100000 in
set_option maxHeartbeats 4000000 in
theorem sn_X3_digest_79 {X : q_X} {G : q_G} (hX : q_C X cX3_digest 5 RX3 (some .long) 2 46)   (l1 : Int64) (Q : Int64 → q_Mem → Prop)  (mem : q_Mem) (h : wp_X3_digest_79   l1 mem Q) : q_J X G 5 (q_QL X G Q) 79 [some (.ref (q_ad G 72)), some (.long l1), none, none, none] [] mem := by
  unfold wp_X3_digest_79 at h
  refine q_iconst hX (0 : Int32) q_ki_0 dX3_digest_79 80 rfl ?_
  refine q_istore_n hX dX3_digest_80 81 rfl (Nat.le_of_ble_eq_true rfl) rfl (fun y => [some (.ref (q_ad G 72)), some (.long l1), none, some (.int y), none]) (fun _ => rfl) (fun x3_1 ex3_1 => ?_)
  replace ex3_1 := ex3_1.symm; subst ex3_1
  exact q_weak [true, true, false, true, false] rfl (sn_X3_digest_81 hX    l1 (0 : Int32) Q  mem h)
set_option maxRecDepth 100000 in
set_option maxHeartbeats 4000000 in
theorem sn_X3_digest_73 {X : q_X} {G : q_G} (hX : q_C X cX3_digest 5 RX3 (some .long) 2 46)   (l1 : Int64) (x3 : Int32) (Q : Int64 → q_Mem → Prop) (K34 : Int64 → Int32 → q_Mem → Prop) (hK34 : ∀ (yl1 : Int64) (yx3 : Int32) (ymem : q_Mem), K34 yl1 yx3 ymem → q_J X G 5 (q_QL X G Q) 34 [some (.ref (q_ad G 72)), some (.long yl1), none, some (.int yx3), none] [] ymem) (mem : q_Mem) (h : wp_X3_digest_73 K34  l1 x3 mem Q) : q_J X G 5 (q_QL X G Q) 73 [some (.ref (q_ad G 72)), some (.long l1), none, some (.int x3), none] [] mem := by
  unfold wp_X3_digest_73 at h
  refine q_iinc hX (1 : Int32) q_ki_1 rfl dX3_digest_73 76 rfl (Nat.le_of_ble_eq_true rfl) rfl (fun y => [some (.ref (q_ad G 72)), some (.long l1), none, some (.int y), none]) (fun _ => rfl) (fun x3_1 ex3_1 => ?_)
  replace h := h x3_1 ex3_1
  refine q_goto hX dX3_digest_76 34 (by decide) ?_
  exact q_weak [true, true, false, true, false] rfl (hK34 l1 x3_1 mem h)
set_option maxRecDepth 100000 in
set_option maxHeartbeats 4000000 in
theorem sn_X3_digest_45_b {X : q_X} {G : q_G} (hX : q_C X cX3_digest 5 RX3 (some .long) 2 46)   (l1 : Int64) (x3 : Int32) (x4 : Int32) (Q : Int64 → q_Mem → Prop) (K34 : Int64 → Int32 → q_Mem → Prop) (hK34 : ∀ (yl1 : Int64) (yx3 : Int32) (ymem : q_Mem), K34 yl1 yx3 ymem → q_J X G 5 (q_QL X G Q) 34 [some (.ref (q_ad G 72)), some (.long yl1), none, some (.int yx3), none] [] ymem) (K45 : Int64 → Int32 → q_Mem → Prop) (hK45 : ∀ (yl1 : Int64) (yx4 : Int32) (ymem : q_Mem), K45 yl1 yx4 ymem → q_J X G 5 (q_QL X G Q) 45 [some (.ref (q_ad G 72)), some (.long yl1), none, some (.int x3), some (.int yx4)] [] ymem) (mem : q_Mem) (h : wp_X3_digest_45_b K34 K45  l1 x3 x4 mem Q) : q_J X G 5 (q_QL X G Q) 45 [some (.ref (q_ad G 72)), some (.long l1), none, some (.int x3), some (.int x4)] [] mem := by
  unfold wp_X3_digest_45_b at h
  refine q_iload hX rfl dX3_digest_45 47 rfl ?_
  refine q_bipush hX (9 : Int32) q_kb_9 dX3_digest_47 49 rfl ?_
  refine q_icmp_ge hX dX3_digest_49 52 73 rfl (by decide) (fun c_1 => ?_) (fun c_1 => ?_)
  · replace h := h.1 c_1
    exact q_weak [true, true, false, true, false] rfl (sn_X3_digest_73 hX    l1 x3 Q K34 hK34 mem h)
  · replace h := h.2 c_1
    refine q_ldc2 hX tw_747 dX3_digest_52 55 rfl ?_
    refine q_lload_n hX rfl dX3_digest_55 56 rfl ?_
    refine q_lmul hX dX3_digest_56 57 rfl ?_
    refine q_aload_n hX rfl dX3_digest_57 58 rfl ?_
    refine q_iload_n hX rfl dX3_digest_58 59 rfl ?_
    refine q_iload hX rfl dX3_digest_59 61 rfl ?_
    refine cl_X3_100 hX  ⟨Nat.le_of_ble_eq_true rfl, Nat.le_of_ble_eq_true rfl⟩ (Nat.le_of_ble_eq_true rfl) dX3_digest_61 64 rfl (sn_X3_aboutOf x3 x4  mem _ h) (fun r_2 m_3 h => ?_)
    refine q_i2l hX dX3_digest_64 65 rfl ?_
    refine q_ladd hX dX3_digest_65 66 rfl ?_
    refine q_lstore_n hX dX3_digest_66 67 rfl (Nat.le_of_ble_eq_true rfl) rfl (fun y => [some (.ref (q_ad G 72)), some (.long y), none, some (.int x3), some (.int x4)]) (fun _ => rfl) (fun l1_4 el1_4 => ?_)
    replace h := h l1_4 el1_4
    refine q_iinc hX (1 : Int32) q_ki_1 rfl dX3_digest_67 70 rfl (Nat.le_of_ble_eq_true rfl) rfl (fun y => [some (.ref (q_ad G 72)), some (.long l1_4), none, some (.int x3), some (.int y)]) (fun _ => rfl) (fun x4_5 ex4_5 => ?_)
    replace h := h x4_5 ex4_5
    refine q_goto hX dX3_digest_70 45 (by decide) ?_
    exact q_weak [true, true, false, true, true] rfl (hK45 l1_4 x4_5 m_3 h)
set_option maxRecDepth 100000 in
set_option maxHeartbeats 4000000 in
theorem sn_X3_digest_45 {X : q_X} {G : q_G} (hX : q_C X cX3_digest 5 RX3 (some .long) 2 46)   (l1 : Int64) (x3 : Int32) (x4 : Int32) (Q : Int64 → q_Mem → Prop) (K34 : Int64 → Int32 → q_Mem → Prop) (hK34 : ∀ (yl1 : Int64) (yx3 : Int32) (ymem : q_Mem), K34 yl1 yx3 ymem → q_J X G 5 (q_QL X G Q) 34 [some (.ref (q_ad G 72)), some (.long yl1), none, some (.int yx3), none] [] ymem) (mem : q_Mem) (h : wp_X3_digest_45 K34  l1 x3 x4 mem Q) : q_J X G 5 (q_QL X G Q) 45 [some (.ref (q_ad G 72)), some (.long l1), none, some (.int x3), some (.int x4)] [] mem := by
  obtain ⟨I, ⟨n, h0⟩, hs⟩ := h
  have key : ∀ (n : Nat) (yl1 : Int64) (yx4 : Int32) (ymem : q_Mem), I n yl1 yx4 ymem → q_J X G 5 (q_QL X G Q) 45 [some (.ref (q_ad G 72)), some (.long yl1), none, some (.int x3), some (.int yx4)] [] ymem := by
    intro n
    induction n using Nat.strongRecOn with
    | ind n ih =>
      intro yl1 yx4 ymem hI
      exact sn_X3_digest_45_b hX    yl1 x3 yx4 Q K34 hK34 (fun (zl1 : Int64) (zx4 : Int32) (zmem : q_Mem) => ∃ n2, n2 < n ∧ I n2 zl1 zx4 zmem) (fun zl1 zx4 zmem hz => by obtain ⟨n2, h1, h2⟩ := hz; exact ih n2 h1 zl1 zx4 zmem h2) ymem (hs n yl1 yx4 ymem hI)
  exact key n l1 x4 mem h0
set_option maxRecDepth 100000 in
set_option maxHeartbeats 4000000 in
theorem sn_X3_digest_34_b {X : q_X} {G : q_G} (hX : q_C X cX3_digest 5 RX3 (some .long) 2 46)   (l1 : Int64) (x3 : Int32) (Q : Int64 → q_Mem → Prop) (K34 : Int64 → Int32 → q_Mem → Prop) (hK34 : ∀ (yl1 : Int64) (yx3 : Int32) (ymem : q_Mem), K34 yl1 yx3 ymem → q_J X G 5 (q_QL X G Q) 34 [some (.ref (q_ad G 72)), some (.long yl1), none, some (.int yx3), none] [] ymem) (mem : q_Mem) (h : wp_X3_digest_34_b K34  l1 x3 mem Q) : q_J X G 5 (q_QL X G Q) 34 [some (.ref (q_ad G 72)), some (.long l1), none, some (.int x3), none] [] mem := by
  unfold wp_X3_digest_34_b at h
  refine q_iload_n hX rfl dX3_digest_34 35 rfl ?_
  refine q_aload_n hX rfl dX3_digest_35 36 rfl ?_
  refine gf_X3_74 hX dX3_digest_36 39 rfl ?_
  refine q_icmp_ge hX dX3_digest_39 42 79 rfl (by decide) (fun c_1 => ?_) (fun c_1 => ?_)
  · replace h := h.1 c_1
    exact q_weak [true, true, false, false, false] rfl (sn_X3_digest_79 hX    l1 Q  mem h)
  · replace h := h.2 c_1
    refine q_iconst hX (0 : Int32) q_ki_0 dX3_digest_42 43 rfl ?_
    refine q_istore hX dX3_digest_43 45 rfl (Nat.le_of_ble_eq_true rfl) rfl (fun y => [some (.ref (q_ad G 72)), some (.long l1), none, some (.int x3), some (.int y)]) (fun _ => rfl) (fun x4_2 ex4_2 => ?_)
    replace ex4_2 := ex4_2.symm; subst ex4_2
    exact q_weak [true, true, false, true, true] rfl (sn_X3_digest_45 hX    l1 x3 (0 : Int32) Q K34 hK34 mem h)
set_option maxRecDepth 100000 in
set_option maxHeartbeats 4000000 in
theorem sn_X3_digest_34 {X : q_X} {G : q_G} (hX : q_C X cX3_digest 5 RX3 (some .long) 2 46)   (l1 : Int64) (x3 : Int32) (Q : Int64 → q_Mem → Prop)  (mem : q_Mem) (h : wp_X3_digest_34   l1 x3 mem Q) : q_J X G 5 (q_QL X G Q) 34 [some (.ref (q_ad G 72)), some (.long l1), none, some (.int x3), none] [] mem := by
  obtain ⟨I, ⟨n, h0⟩, hs⟩ := h
  have key : ∀ (n : Nat) (yl1 : Int64) (yx3 : Int32) (ymem : q_Mem), I n yl1 yx3 ymem → q_J X G 5 (q_QL X G Q) 34 [some (.ref (q_ad G 72)), some (.long yl1), none, some (.int yx3), none] [] ymem := by
    intro n
    induction n using Nat.strongRecOn with
    | ind n ih =>
      intro yl1 yx3 ymem hI
      exact sn_X3_digest_34_b hX    yl1 yx3 Q  (fun (zl1 : Int64) (zx3 : Int32) (zmem : q_Mem) => ∃ n2, n2 < n ∧ I n2 zl1 zx3 zmem) (fun zl1 zx3 zmem hz => by obtain ⟨n2, h1, h2⟩ := hz; exact ih n2 h1 zl1 zx3 zmem h2) ymem (hs n yl1 yx3 ymem hI)
  exact key n l1 x3 mem h0
set_option maxRecDepth 100000 in
set_option maxHeartbeats 4000000 in
theorem sn_X3_digest_32 {X : q_X} {G : q_G} (hX : q_C X cX3_digest 5 RX3 (some .long) 2 46)   (l1 : Int64) (Q : Int64 → q_Mem → Prop)  (mem : q_Mem) (h : wp_X3_digest_32   l1 mem Q) : q_J X G 5 (q_QL X G Q) 32 [some (.ref (q_ad G 72)), some (.long l1), none, none, none] [] mem := by
  unfold wp_X3_digest_32 at h
  refine q_iconst hX (0 : Int32) q_ki_0 dX3_digest_32 33 rfl ?_
  refine q_istore_n hX dX3_digest_33 34 rfl (Nat.le_of_ble_eq_true rfl) rfl (fun y => [some (.ref (q_ad G 72)), some (.long l1), none, some (.int y), none]) (fun _ => rfl) (fun x3_1 ex3_1 => ?_)
  replace ex3_1 := ex3_1.symm; subst ex3_1
  exact q_weak [true, true, false, true, false] rfl (sn_X3_digest_34 hX    l1 (0 : Int32) Q  mem h)
set_option maxRecDepth 100000 in
set_option maxHeartbeats 4000000 in
theorem sn_X3_digest_6_b {X : q_X} {G : q_G} (hX : q_C X cX3_digest 5 RX3 (some .long) 2 46)   (l1 : Int64) (x3 : Int32) (Q : Int64 → q_Mem → Prop) (K6 : Int64 → Int32 → q_Mem → Prop) (hK6 : ∀ (yl1 : Int64) (yx3 : Int32) (ymem : q_Mem), K6 yl1 yx3 ymem → q_J X G 5 (q_QL X G Q) 6 [some (.ref (q_ad G 72)), some (.long yl1), none, some (.int yx3), none] [] ymem) (mem : q_Mem) (h : wp_X3_digest_6_b K6  l1 x3 mem Q) : q_J X G 5 (q_QL X G Q) 6 [some (.ref (q_ad G 72)), some (.long l1), none, some (.int x3), none] [] mem := by
  unfold wp_X3_digest_6_b at h
  refine q_iload_n hX rfl dX3_digest_6 7 rfl ?_
  refine q_bipush hX (15 : Int32) q_kb_15 dX3_digest_7 9 rfl ?_
  refine q_icmp_ge hX dX3_digest_9 12 32 rfl (by decide) (fun c_1 => ?_) (fun c_1 => ?_)
  · replace h := h.1 c_1
    exact q_weak [true, true, false, false, false] rfl (sn_X3_digest_32 hX    l1 Q  mem h)
  · replace h := h.2 c_1
    refine q_ldc2 hX tw_747 dX3_digest_12 15 rfl ?_
    refine q_lload_n hX rfl dX3_digest_15 16 rfl ?_
    refine q_lmul hX dX3_digest_16 17 rfl ?_
    refine q_aload_n hX rfl dX3_digest_17 18 rfl ?_
    refine gf_X3_34 hX dX3_digest_18 21 rfl ?_
    refine q_iload_n hX rfl dX3_digest_21 22 rfl ?_
    obtain ⟨g_2, h⟩ := h
    refine q_iald hX g_2 dX3_digest_22 23 rfl ?_
    refine q_i2l hX dX3_digest_23 24 rfl ?_
    refine q_ladd hX dX3_digest_24 25 rfl ?_
    refine q_lstore_n hX dX3_digest_25 26 rfl (Nat.le_of_ble_eq_true rfl) rfl (fun y => [some (.ref (q_ad G 72)), some (.long y), none, some (.int x3), none]) (fun _ => rfl) (fun l1_3 el1_3 => ?_)
    replace h := h l1_3 el1_3
    refine q_iinc hX (1 : Int32) q_ki_1 rfl dX3_digest_26 29 rfl (Nat.le_of_ble_eq_true rfl) rfl (fun y => [some (.ref (q_ad G 72)), some (.long l1_3), none, some (.int y), none]) (fun _ => rfl) (fun x3_4 ex3_4 => ?_)
    replace h := h x3_4 ex3_4
    refine q_goto hX dX3_digest_29 6 (by decide) ?_
    exact q_weak [true, true, false, true, false] rfl (hK6 l1_3 x3_4 mem h)
set_option maxRecDepth 100000 in
set_option maxHeartbeats 4000000 in
theorem sn_X3_digest_6 {X : q_X} {G : q_G} (hX : q_C X cX3_digest 5 RX3 (some .long) 2 46)   (l1 : Int64) (x3 : Int32) (Q : Int64 → q_Mem → Prop)  (mem : q_Mem) (h : wp_X3_digest_6   l1 x3 mem Q) : q_J X G 5 (q_QL X G Q) 6 [some (.ref (q_ad G 72)), some (.long l1), none, some (.int x3), none] [] mem := by
  obtain ⟨I, ⟨n, h0⟩, hs⟩ := h
  have key : ∀ (n : Nat) (yl1 : Int64) (yx3 : Int32) (ymem : q_Mem), I n yl1 yx3 ymem → q_J X G 5 (q_QL X G Q) 6 [some (.ref (q_ad G 72)), some (.long yl1), none, some (.int yx3), none] [] ymem := by
    intro n
    induction n using Nat.strongRecOn with
    | ind n ih =>
      intro yl1 yx3 ymem hI
      exact sn_X3_digest_6_b hX    yl1 yx3 Q  (fun (zl1 : Int64) (zx3 : Int32) (zmem : q_Mem) => ∃ n2, n2 < n ∧ I n2 zl1 zx3 zmem) (fun zl1 zx3 zmem hz => by obtain ⟨n2, h1, h2⟩ := hz; exact ih n2 h1 zl1 zx3 zmem h2) ymem (hs n yl1 yx3 ymem hI)
  exact key n l1 x3 mem h0
set_option maxRecDepth 100000 in
set_option maxHeartbeats 4000000 in
theorem sn_X3_digest_0 {X : q_X} {G : q_G} (hX : q_C X cX3_digest 5 RX3 (some .long) 2 46)    (Q : Int64 → q_Mem → Prop)  (mem : q_Mem) (h : wp_X3_digest    mem Q) : q_J X G 5 (q_QL X G Q) 0 [some (.ref (q_ad G 72)), none, none, none, none] [] mem := by
  unfold wp_X3_digest at h
  refine q_ldc2 hX tw_746 dX3_digest_0 3 rfl ?_
  refine q_lstore_n hX dX3_digest_3 4 rfl (Nat.le_of_ble_eq_true rfl) rfl (fun y => [some (.ref (q_ad G 72)), some (.long y), none, none, none]) (fun _ => rfl) (fun l1_1 el1_1 => ?_)
  replace el1_1 := el1_1.symm; subst el1_1
  refine q_iconst hX (0 : Int32) q_ki_0 dX3_digest_4 5 rfl ?_
  refine q_istore_n hX dX3_digest_5 6 rfl (Nat.le_of_ble_eq_true rfl) rfl (fun y => [some (.ref (q_ad G 72)), some (.long (181 : Int64)), none, some (.int y), none]) (fun _ => rfl) (fun x3_2 ex3_2 => ?_)
  replace ex3_2 := ex3_2.symm; subst ex3_2
  exact q_weak [true, true, false, true, false] rfl (sn_X3_digest_6 hX    (181 : Int64) (0 : Int32) Q  mem h)
set_option maxRecDepth 100000 in
set_option maxHeartbeats 4000000 in
theorem sn_X3_digest {l : Launch} {G : q_G}   (mem : q_Mem) (Q : Int64 → q_Mem → Prop) (h : wp_X3_digest  mem Q) : q_ML l G yX3_digest cX3_digest 5 (some .long) rm_X3_digest [.ref (q_ad G 72)] mem Q := by
  refine q_metL 4 (by decide +kernel) (Nat.le_of_ble_eq_true rfl) rfl (fun X hl hX => ?_)
  subst hl
  exact sn_X3_digest_0 hX   Q mem h

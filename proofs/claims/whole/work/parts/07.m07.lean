-- X3_forget
def wp_X3_forget    (mem : q_Mem) (Q : Int32 → q_Mem → Prop) : Prop := ∀ x1_1 : Int32, x1_1 = (mem 72 19) → ∀ m_2 : q_Mem, m_2 = q_set mem 72 (upd (mem 72) 19 (0 : Int32)) → Q x1_1 m_2
set_option maxRecDepth 100000 in
set_option maxHeartbeats 4000000 in
theorem sn_X3_forget_0 {X : q_X} {G : q_G} (hX : q_C X cX3_forget 2 RX3 (some .int) 0 0)    (Q : Int32 → q_Mem → Prop)  (mem : q_Mem) (h : wp_X3_forget    mem Q) : q_J X G 2 (q_QI X G Q) 0 [some (.ref (q_ad G 72)), none] [] mem := by
  unfold wp_X3_forget at h
  refine q_aload_n hX rfl dX3_forget_0 1 rfl ?_
  refine gf_X3_87 hX dX3_forget_1 4 rfl ?_
  refine q_istore_n hX dX3_forget_4 5 rfl (Nat.le_of_ble_eq_true rfl) rfl (fun y => [some (.ref (q_ad G 72)), some (.int y)]) (fun _ => rfl) (fun x1_1 ex1_1 => ?_)
  replace h := h x1_1 ex1_1
  refine q_aload_n hX rfl dX3_forget_5 6 rfl ?_
  refine q_iconst hX (0 : Int32) q_ki_0 dX3_forget_6 7 rfl ?_
  refine pf_X3_87 hX dX3_forget_7 10 rfl (fun m_2 em_2 => ?_)
  replace h := h m_2 em_2
  refine q_iload_n hX rfl dX3_forget_10 11 rfl ?_
  exact q_iret hX dX3_forget_11 h
set_option maxRecDepth 100000 in
set_option maxHeartbeats 4000000 in
theorem sn_X3_forget {l : Launch} {G : q_G}   (mem : q_Mem) (Q : Int32 → q_Mem → Prop) (h : wp_X3_forget  mem Q) : q_MI l G yX3_forget cX3_forget 2 (some .int) rm_X3_forget [.ref (q_ad G 72)] mem Q := by
  refine q_metI 1 (by decide +kernel) (Nat.le_of_ble_eq_true rfl) rfl (fun X hl hX => ?_)
  subst hl
  exact sn_X3_forget_0 hX   Q mem h

-- X3_hour
def wp_X3_hour  (a0 : Int32) (a1 : Int32) (a2 : Int32) (a3 : Int32) (a4 : Int32)  (mem : q_Mem) (Q : Int32 → q_Mem → Prop) : Prop := wp_X3_in (a0.toInt64) (0 : Int64) (1000 : Int64) mem (fun r_1 m_2 => ((r_1 = 0) → Q (-102 : Int32) m_2) ∧ ((¬ r_1 = 0) → wp_X3_in (a1.toInt64) (-30 : Int64) (50 : Int64) m_2 (fun r_4 m_5 => ((r_4 = 0) → Q (-102 : Int32) m_5) ∧ ((¬ r_4 = 0) → wp_X3_in (a2.toInt64) (0 : Int64) (100 : Int64) m_5 (fun r_7 m_8 => ((r_7 = 0) → Q (-102 : Int32) m_8) ∧ ((¬ r_7 = 0) → wp_X3_in (a3.toInt64) (0 : Int64) (1000 : Int64) m_8 (fun r_10 m_11 => ((r_10 = 0) → Q (-102 : Int32) m_11) ∧ ((¬ r_10 = 0) → wp_X3_in (a4.toInt64) (-30 : Int64) (50 : Int64) m_11 (fun r_13 m_14 => ((¬ r_13 = 0) → ((¬ (m_14 72 11) = (24 : Int32)) → vp_in ((5 : Int32) * (m_14 72 11)) (q_al 83) ∧ (∀ m_18 : q_Mem, m_18 = q_set m_14 83 (upd (m_14 83) ((5 : Int32) * (m_14 72 11)).toNatClampNeg a0) → vp_in (((5 : Int32) * (m_18 72 11)) + (1 : Int32)) (q_al 83) ∧ (∀ m_20 : q_Mem, m_20 = q_set m_18 83 (upd (m_18 83) (((5 : Int32) * (m_18 72 11)) + (1 : Int32)).toNatClampNeg a1) → vp_in (((5 : Int32) * (m_20 72 11)) + (2 : Int32)) (q_al 83) ∧ (∀ m_22 : q_Mem, m_22 = q_set m_20 83 (upd (m_20 83) (((5 : Int32) * (m_20 72 11)) + (2 : Int32)).toNatClampNeg a2) → vp_in (((5 : Int32) * (m_22 72 11)) + (3 : Int32)) (q_al 83) ∧ (∀ m_24 : q_Mem, m_24 = q_set m_22 83 (upd (m_22 83) (((5 : Int32) * (m_22 72 11)) + (3 : Int32)).toNatClampNeg a3) → vp_in (((5 : Int32) * (m_24 72 11)) + (4 : Int32)) (q_al 83) ∧ (∀ m_26 : q_Mem, m_26 = q_set m_24 83 (upd (m_24 83) (((5 : Int32) * (m_24 72 11)) + (4 : Int32)).toNatClampNeg a4) → ∀ m_27 : q_Mem, m_27 = q_set m_26 72 (upd (m_26 72) 11 ((m_26 72 11) + (1 : Int32))) → Q (m_27 72 11) m_27)))))) ∧ (((m_14 72 11) = (24 : Int32)) → Q (-104 : Int32) m_14)) ∧ ((r_13 = 0) → Q (-102 : Int32) m_14))))))))))
set_option maxRecDepth 100000 in
set_option maxHeartbeats 4000000 in
theorem sn_X3_hour_0 {X : q_X} {G : q_G} (hX : q_C X cX3_hour 6 RX3 (some .int) 1 25) (a0 : Int32) (a1 : Int32) (a2 : Int32) (a3 : Int32) (a4 : Int32)   (Q : Int32 → q_Mem → Prop)  (mem : q_Mem) (h : wp_X3_hour  a0 a1 a2 a3 a4  mem Q) : q_J X G 6 (q_QI X G Q) 0 [some (.ref (q_ad G 72)), some (.int a0), some (.int a1), some (.int a2), some (.int a3), some (.int a4)] [] mem := by
  unfold wp_X3_hour at h
  refine q_iload_n hX rfl dX3_hour_0 1 rfl ?_
  refine q_i2l hX dX3_hour_1 2 rfl ?_
  refine q_lconst hX (0 : Int64) rfl dX3_hour_2 3 rfl ?_
  refine q_ldc2 hX tw_567 dX3_hour_3 6 rfl ?_
  refine cl_X3_77 hX  ⟨Nat.le_of_ble_eq_true rfl, Nat.le_of_ble_eq_true rfl⟩ (Nat.le_of_ble_eq_true rfl) dX3_hour_6 9 rfl (sn_X3_in (a0.toInt64) (0 : Int64) (1000 : Int64)  mem _ h) (fun r_1 m_2 h => ?_)
  refine q_if_eq hX dX3_hour_9 12 66 rfl (by decide) (fun c_3 => ?_) (fun c_3 => ?_)
  · replace h := h.1 c_3
    refine q_bipush hX (-102 : Int32) q_kb_m102 dX3_hour_66 68 rfl ?_
    exact q_iret hX dX3_hour_68 h
  · replace h := h.2 c_3
    refine q_iload_n hX rfl dX3_hour_12 13 rfl ?_
    refine q_i2l hX dX3_hour_13 14 rfl ?_
    refine q_ldc2 hX tw_606 dX3_hour_14 17 rfl ?_
    refine q_ldc2 hX tw_571 dX3_hour_17 20 rfl ?_
    refine cl_X3_77 hX  ⟨Nat.le_of_ble_eq_true rfl, Nat.le_of_ble_eq_true rfl⟩ (Nat.le_of_ble_eq_true rfl) dX3_hour_20 23 rfl (sn_X3_in (a1.toInt64) (-30 : Int64) (50 : Int64)  m_2 _ h) (fun r_4 m_5 h => ?_)
    refine q_if_eq hX dX3_hour_23 26 66 rfl (by decide) (fun c_6 => ?_) (fun c_6 => ?_)
    · replace h := h.1 c_6
      refine q_bipush hX (-102 : Int32) q_kb_m102 dX3_hour_66 68 rfl ?_
      exact q_iret hX dX3_hour_68 h
    · replace h := h.2 c_6
      refine q_iload_n hX rfl dX3_hour_26 27 rfl ?_
      refine q_i2l hX dX3_hour_27 28 rfl ?_
      refine q_lconst hX (0 : Int64) rfl dX3_hour_28 29 rfl ?_
      refine q_ldc2 hX tw_607 dX3_hour_29 32 rfl ?_
      refine cl_X3_77 hX  ⟨Nat.le_of_ble_eq_true rfl, Nat.le_of_ble_eq_true rfl⟩ (Nat.le_of_ble_eq_true rfl) dX3_hour_32 35 rfl (sn_X3_in (a2.toInt64) (0 : Int64) (100 : Int64)  m_5 _ h) (fun r_7 m_8 h => ?_)
      refine q_if_eq hX dX3_hour_35 38 66 rfl (by decide) (fun c_9 => ?_) (fun c_9 => ?_)
      · replace h := h.1 c_9
        refine q_bipush hX (-102 : Int32) q_kb_m102 dX3_hour_66 68 rfl ?_
        exact q_iret hX dX3_hour_68 h
      · replace h := h.2 c_9
        refine q_iload hX rfl dX3_hour_38 40 rfl ?_
        refine q_i2l hX dX3_hour_40 41 rfl ?_
        refine q_lconst hX (0 : Int64) rfl dX3_hour_41 42 rfl ?_
        refine q_ldc2 hX tw_567 dX3_hour_42 45 rfl ?_
        refine cl_X3_77 hX  ⟨Nat.le_of_ble_eq_true rfl, Nat.le_of_ble_eq_true rfl⟩ (Nat.le_of_ble_eq_true rfl) dX3_hour_45 48 rfl (sn_X3_in (a3.toInt64) (0 : Int64) (1000 : Int64)  m_8 _ h) (fun r_10 m_11 h => ?_)
        refine q_if_eq hX dX3_hour_48 51 66 rfl (by decide) (fun c_12 => ?_) (fun c_12 => ?_)
        · replace h := h.1 c_12
          refine q_bipush hX (-102 : Int32) q_kb_m102 dX3_hour_66 68 rfl ?_
          exact q_iret hX dX3_hour_68 h
        · replace h := h.2 c_12
          refine q_iload hX rfl dX3_hour_51 53 rfl ?_
          refine q_i2l hX dX3_hour_53 54 rfl ?_
          refine q_ldc2 hX tw_606 dX3_hour_54 57 rfl ?_
          refine q_ldc2 hX tw_571 dX3_hour_57 60 rfl ?_
          refine cl_X3_77 hX  ⟨Nat.le_of_ble_eq_true rfl, Nat.le_of_ble_eq_true rfl⟩ (Nat.le_of_ble_eq_true rfl) dX3_hour_60 63 rfl (sn_X3_in (a4.toInt64) (-30 : Int64) (50 : Int64)  m_11 _ h) (fun r_13 m_14 h => ?_)
          refine q_if_ne hX dX3_hour_63 66 69 rfl (by decide) (fun c_15 => ?_) (fun c_15 => ?_)
          · replace h := h.1 c_15
            refine q_aload_n hX rfl dX3_hour_69 70 rfl ?_
            refine gf_X3_108 hX dX3_hour_70 73 rfl ?_
            refine q_bipush hX (24 : Int32) q_kb_24 dX3_hour_73 75 rfl ?_
            refine q_icmp_ne hX dX3_hour_75 78 81 rfl (by decide) (fun c_16 => ?_) (fun c_16 => ?_)
            · replace h := h.1 c_16
              refine q_aload_n hX rfl dX3_hour_81 82 rfl ?_
              refine gf_X3_40 hX dX3_hour_82 85 rfl ?_
              refine q_iconst hX (5 : Int32) q_ki_5 dX3_hour_85 86 rfl ?_
              refine q_aload_n hX rfl dX3_hour_86 87 rfl ?_
              refine gf_X3_108 hX dX3_hour_87 90 rfl ?_
              refine q_imul hX dX3_hour_90 91 rfl ?_
              refine q_iload_n hX rfl dX3_hour_91 92 rfl ?_
              obtain ⟨g_17, h⟩ := h
              refine q_iast hX g_17 dX3_hour_92 93 rfl (fun m_18 em_18 => ?_)
              replace h := h m_18 em_18
              refine q_aload_n hX rfl dX3_hour_93 94 rfl ?_
              refine gf_X3_40 hX dX3_hour_94 97 rfl ?_
              refine q_iconst hX (5 : Int32) q_ki_5 dX3_hour_97 98 rfl ?_
              refine q_aload_n hX rfl dX3_hour_98 99 rfl ?_
              refine gf_X3_108 hX dX3_hour_99 102 rfl ?_
              refine q_imul hX dX3_hour_102 103 rfl ?_
              refine q_iconst hX (1 : Int32) q_ki_1 dX3_hour_103 104 rfl ?_
              refine q_iadd hX dX3_hour_104 105 rfl ?_
              refine q_iload_n hX rfl dX3_hour_105 106 rfl ?_
              obtain ⟨g_19, h⟩ := h
              refine q_iast hX g_19 dX3_hour_106 107 rfl (fun m_20 em_20 => ?_)
              replace h := h m_20 em_20
              refine q_aload_n hX rfl dX3_hour_107 108 rfl ?_
              refine gf_X3_40 hX dX3_hour_108 111 rfl ?_
              refine q_iconst hX (5 : Int32) q_ki_5 dX3_hour_111 112 rfl ?_
              refine q_aload_n hX rfl dX3_hour_112 113 rfl ?_
              refine gf_X3_108 hX dX3_hour_113 116 rfl ?_
              refine q_imul hX dX3_hour_116 117 rfl ?_
              refine q_iconst hX (2 : Int32) q_ki_2 dX3_hour_117 118 rfl ?_
              refine q_iadd hX dX3_hour_118 119 rfl ?_
              refine q_iload_n hX rfl dX3_hour_119 120 rfl ?_
              obtain ⟨g_21, h⟩ := h
              refine q_iast hX g_21 dX3_hour_120 121 rfl (fun m_22 em_22 => ?_)
              replace h := h m_22 em_22
              refine q_aload_n hX rfl dX3_hour_121 122 rfl ?_
              refine gf_X3_40 hX dX3_hour_122 125 rfl ?_
              refine q_iconst hX (5 : Int32) q_ki_5 dX3_hour_125 126 rfl ?_
              refine q_aload_n hX rfl dX3_hour_126 127 rfl ?_
              refine gf_X3_108 hX dX3_hour_127 130 rfl ?_
              refine q_imul hX dX3_hour_130 131 rfl ?_
              refine q_iconst hX (3 : Int32) q_ki_3 dX3_hour_131 132 rfl ?_
              refine q_iadd hX dX3_hour_132 133 rfl ?_
              refine q_iload hX rfl dX3_hour_133 135 rfl ?_
              obtain ⟨g_23, h⟩ := h
              refine q_iast hX g_23 dX3_hour_135 136 rfl (fun m_24 em_24 => ?_)
              replace h := h m_24 em_24
              refine q_aload_n hX rfl dX3_hour_136 137 rfl ?_
              refine gf_X3_40 hX dX3_hour_137 140 rfl ?_
              refine q_iconst hX (5 : Int32) q_ki_5 dX3_hour_140 141 rfl ?_
              refine q_aload_n hX rfl dX3_hour_141 142 rfl ?_
              refine gf_X3_108 hX dX3_hour_142 145 rfl ?_
              refine q_imul hX dX3_hour_145 146 rfl ?_
              refine q_iconst hX (4 : Int32) q_ki_4 dX3_hour_146 147 rfl ?_
              refine q_iadd hX dX3_hour_147 148 rfl ?_
              refine q_iload hX rfl dX3_hour_148 150 rfl ?_
              obtain ⟨g_25, h⟩ := h
              refine q_iast hX g_25 dX3_hour_150 151 rfl (fun m_26 em_26 => ?_)
              replace h := h m_26 em_26
              refine q_aload_n hX rfl dX3_hour_151 152 rfl ?_
              refine q_dup hX rfl dX3_hour_152 153 rfl ?_
              refine gf_X3_108 hX dX3_hour_153 156 rfl ?_
              refine q_iconst hX (1 : Int32) q_ki_1 dX3_hour_156 157 rfl ?_
              refine q_iadd hX dX3_hour_157 158 rfl ?_
              refine pf_X3_108 hX dX3_hour_158 161 rfl (fun m_27 em_27 => ?_)
              replace h := h m_27 em_27
              refine q_aload_n hX rfl dX3_hour_161 162 rfl ?_
              refine gf_X3_108 hX dX3_hour_162 165 rfl ?_
              exact q_iret hX dX3_hour_165 h
            · replace h := h.2 c_16
              refine q_bipush hX (-104 : Int32) q_kb_m104 dX3_hour_78 80 rfl ?_
              exact q_iret hX dX3_hour_80 h
          · replace h := h.2 c_15
            refine q_bipush hX (-102 : Int32) q_kb_m102 dX3_hour_66 68 rfl ?_
            exact q_iret hX dX3_hour_68 h
set_option maxRecDepth 100000 in
set_option maxHeartbeats 4000000 in
theorem sn_X3_hour {l : Launch} {G : q_G} (a0 : Int32) (a1 : Int32) (a2 : Int32) (a3 : Int32) (a4 : Int32)  (mem : q_Mem) (Q : Int32 → q_Mem → Prop) (h : wp_X3_hour a0 a1 a2 a3 a4 mem Q) : q_MI l G yX3_hour cX3_hour 6 (some .int) rm_X3_hour [.ref (q_ad G 72), .int a0, .int a1, .int a2, .int a3, .int a4] mem Q := by
  refine q_metI 0 (by decide +kernel) (Nat.le_of_ble_eq_true rfl) rfl (fun X hl hX => ?_)
  subst hl
  exact sn_X3_hour_0 hX a0 a1 a2 a3 a4  Q mem h

-- X3_layer
def wp_X3_layer  (a0 : Int32) (a1 : Int32) (a2 : Int32) (a3 : Int32)  (mem : q_Mem) (Q : Int32 → q_Mem → Prop) : Prop := wp_X3_in (a0.toInt64) (1 : Int64) (1000 : Int64) mem (fun r_1 m_2 => ((r_1 = 0) → Q (-102 : Int32) m_2) ∧ ((¬ r_1 = 0) → wp_X3_in (a1.toInt64) (1 : Int64) (50 : Int64) m_2 (fun r_4 m_5 => ((r_4 = 0) → Q (-102 : Int32) m_5) ∧ ((¬ r_4 = 0) → wp_X3_in (a2.toInt64) (1 : Int64) (50 : Int64) m_5 (fun r_7 m_8 => ((r_7 = 0) → Q (-102 : Int32) m_8) ∧ ((¬ r_7 = 0) → wp_X3_in (a3.toInt64) (0 : Int64) (2 : Int64) m_8 (fun r_10 m_11 => ((¬ r_10 = 0) → ((¬ (m_11 72 0) = (6 : Int32)) → vp_in (m_11 72 0) (q_al 73) ∧ (∀ m_15 : q_Mem, m_15 = q_set m_11 73 (upd (m_11 73) (m_11 72 0).toNatClampNeg a0) → vp_in (m_15 72 0) (q_al 74) ∧ (∀ m_17 : q_Mem, m_17 = q_set m_15 74 (upd (m_15 74) (m_15 72 0).toNatClampNeg a1) → vp_in (m_17 72 0) (q_al 75) ∧ (∀ m_19 : q_Mem, m_19 = q_set m_17 75 (upd (m_17 75) (m_17 72 0).toNatClampNeg a2) → vp_in (m_19 72 0) (q_al 76) ∧ (∀ m_21 : q_Mem, m_21 = q_set m_19 76 (upd (m_19 76) (m_19 72 0).toNatClampNeg a3) → vp_in (m_21 72 0) (q_al 77) ∧ (∀ m_23 : q_Mem, m_23 = q_set m_21 77 (upd (m_21 77) (m_21 72 0).toNatClampNeg (0 : Int32)) → vp_in (m_23 72 0) (q_al 78) ∧ (∀ m_25 : q_Mem, m_25 = q_set m_23 78 (upd (m_23 78) (m_23 72 0).toNatClampNeg (0 : Int32)) → vp_in (m_25 72 0) (q_al 79) ∧ (∀ m_27 : q_Mem, m_27 = q_set m_25 79 (upd (m_25 79) (m_25 72 0).toNatClampNeg (0 : Int32)) → vp_in (m_27 72 0) (q_al 80) ∧ (∀ m_29 : q_Mem, m_29 = q_set m_27 80 (upd (m_27 80) (m_27 72 0).toNatClampNeg (0 : Int32)) → ∀ m_30 : q_Mem, m_30 = q_set m_29 72 (upd (m_29 72) 0 ((m_29 72 0) + (1 : Int32))) → Q (m_30 72 0) m_30))))))))) ∧ (((m_11 72 0) = (6 : Int32)) → Q (-104 : Int32) m_11)) ∧ ((r_10 = 0) → Q (-102 : Int32) m_11))))))))
set_option maxRecDepth 100000 in
set_option maxHeartbeats 4000000 in
theorem sn_X3_layer_0 {X : q_X} {G : q_G} (hX : q_C X cX3_layer 5 RX3 (some .int) 1 25) (a0 : Int32) (a1 : Int32) (a2 : Int32) (a3 : Int32)   (Q : Int32 → q_Mem → Prop)  (mem : q_Mem) (h : wp_X3_layer  a0 a1 a2 a3  mem Q) : q_J X G 5 (q_QI X G Q) 0 [some (.ref (q_ad G 72)), some (.int a0), some (.int a1), some (.int a2), some (.int a3)] [] mem := by
  unfold wp_X3_layer at h
  refine q_iload_n hX rfl dX3_layer_0 1 rfl ?_
  refine q_i2l hX dX3_layer_1 2 rfl ?_
  refine q_lconst hX (1 : Int64) rfl dX3_layer_2 3 rfl ?_
  refine q_ldc2 hX tw_567 dX3_layer_3 6 rfl ?_
  refine cl_X3_77 hX  ⟨Nat.le_of_ble_eq_true rfl, Nat.le_of_ble_eq_true rfl⟩ (Nat.le_of_ble_eq_true rfl) dX3_layer_6 9 rfl (sn_X3_in (a0.toInt64) (1 : Int64) (1000 : Int64)  mem _ h) (fun r_1 m_2 h => ?_)
  refine q_if_eq hX dX3_layer_9 12 49 rfl (by decide) (fun c_3 => ?_) (fun c_3 => ?_)
  · replace h := h.1 c_3
    refine q_bipush hX (-102 : Int32) q_kb_m102 dX3_layer_49 51 rfl ?_
    exact q_iret hX dX3_layer_51 h
  · replace h := h.2 c_3
    refine q_iload_n hX rfl dX3_layer_12 13 rfl ?_
    refine q_i2l hX dX3_layer_13 14 rfl ?_
    refine q_lconst hX (1 : Int64) rfl dX3_layer_14 15 rfl ?_
    refine q_ldc2 hX tw_571 dX3_layer_15 18 rfl ?_
    refine cl_X3_77 hX  ⟨Nat.le_of_ble_eq_true rfl, Nat.le_of_ble_eq_true rfl⟩ (Nat.le_of_ble_eq_true rfl) dX3_layer_18 21 rfl (sn_X3_in (a1.toInt64) (1 : Int64) (50 : Int64)  m_2 _ h) (fun r_4 m_5 h => ?_)
    refine q_if_eq hX dX3_layer_21 24 49 rfl (by decide) (fun c_6 => ?_) (fun c_6 => ?_)
    · replace h := h.1 c_6
      refine q_bipush hX (-102 : Int32) q_kb_m102 dX3_layer_49 51 rfl ?_
      exact q_iret hX dX3_layer_51 h
    · replace h := h.2 c_6
      refine q_iload_n hX rfl dX3_layer_24 25 rfl ?_
      refine q_i2l hX dX3_layer_25 26 rfl ?_
      refine q_lconst hX (1 : Int64) rfl dX3_layer_26 27 rfl ?_
      refine q_ldc2 hX tw_571 dX3_layer_27 30 rfl ?_
      refine cl_X3_77 hX  ⟨Nat.le_of_ble_eq_true rfl, Nat.le_of_ble_eq_true rfl⟩ (Nat.le_of_ble_eq_true rfl) dX3_layer_30 33 rfl (sn_X3_in (a2.toInt64) (1 : Int64) (50 : Int64)  m_5 _ h) (fun r_7 m_8 h => ?_)
      refine q_if_eq hX dX3_layer_33 36 49 rfl (by decide) (fun c_9 => ?_) (fun c_9 => ?_)
      · replace h := h.1 c_9
        refine q_bipush hX (-102 : Int32) q_kb_m102 dX3_layer_49 51 rfl ?_
        exact q_iret hX dX3_layer_51 h
      · replace h := h.2 c_9
        refine q_iload hX rfl dX3_layer_36 38 rfl ?_
        refine q_i2l hX dX3_layer_38 39 rfl ?_
        refine q_lconst hX (0 : Int64) rfl dX3_layer_39 40 rfl ?_
        refine q_ldc2 hX tw_572 dX3_layer_40 43 rfl ?_
        refine cl_X3_77 hX  ⟨Nat.le_of_ble_eq_true rfl, Nat.le_of_ble_eq_true rfl⟩ (Nat.le_of_ble_eq_true rfl) dX3_layer_43 46 rfl (sn_X3_in (a3.toInt64) (0 : Int64) (2 : Int64)  m_8 _ h) (fun r_10 m_11 h => ?_)
        refine q_if_ne hX dX3_layer_46 49 52 rfl (by decide) (fun c_12 => ?_) (fun c_12 => ?_)
        · replace h := h.1 c_12
          refine q_aload_n hX rfl dX3_layer_52 53 rfl ?_
          refine gf_X3_74 hX dX3_layer_53 56 rfl ?_
          refine q_bipush hX (6 : Int32) q_kb_6 dX3_layer_56 58 rfl ?_
          refine q_icmp_ne hX dX3_layer_58 61 64 rfl (by decide) (fun c_13 => ?_) (fun c_13 => ?_)
          · replace h := h.1 c_13
            refine q_aload_n hX rfl dX3_layer_64 65 rfl ?_
            refine gf_X3_7 hX dX3_layer_65 68 rfl ?_
            refine q_aload_n hX rfl dX3_layer_68 69 rfl ?_
            refine gf_X3_74 hX dX3_layer_69 72 rfl ?_
            refine q_iload_n hX rfl dX3_layer_72 73 rfl ?_
            obtain ⟨g_14, h⟩ := h
            refine q_iast hX g_14 dX3_layer_73 74 rfl (fun m_15 em_15 => ?_)
            replace h := h m_15 em_15
            refine q_aload_n hX rfl dX3_layer_74 75 rfl ?_
            refine gf_X3_13 hX dX3_layer_75 78 rfl ?_
            refine q_aload_n hX rfl dX3_layer_78 79 rfl ?_
            refine gf_X3_74 hX dX3_layer_79 82 rfl ?_
            refine q_iload_n hX rfl dX3_layer_82 83 rfl ?_
            obtain ⟨g_16, h⟩ := h
            refine q_iast hX g_16 dX3_layer_83 84 rfl (fun m_17 em_17 => ?_)
            replace h := h m_17 em_17
            refine q_aload_n hX rfl dX3_layer_84 85 rfl ?_
            refine gf_X3_16 hX dX3_layer_85 88 rfl ?_
            refine q_aload_n hX rfl dX3_layer_88 89 rfl ?_
            refine gf_X3_74 hX dX3_layer_89 92 rfl ?_
            refine q_iload_n hX rfl dX3_layer_92 93 rfl ?_
            obtain ⟨g_18, h⟩ := h
            refine q_iast hX g_18 dX3_layer_93 94 rfl (fun m_19 em_19 => ?_)
            replace h := h m_19 em_19
            refine q_aload_n hX rfl dX3_layer_94 95 rfl ?_
            refine gf_X3_19 hX dX3_layer_95 98 rfl ?_
            refine q_aload_n hX rfl dX3_layer_98 99 rfl ?_
            refine gf_X3_74 hX dX3_layer_99 102 rfl ?_
            refine q_iload hX rfl dX3_layer_102 104 rfl ?_
            obtain ⟨g_20, h⟩ := h
            refine q_iast hX g_20 dX3_layer_104 105 rfl (fun m_21 em_21 => ?_)
            replace h := h m_21 em_21
            refine q_aload_n hX rfl dX3_layer_105 106 rfl ?_
            refine gf_X3_22 hX dX3_layer_106 109 rfl ?_
            refine q_aload_n hX rfl dX3_layer_109 110 rfl ?_
            refine gf_X3_74 hX dX3_layer_110 113 rfl ?_
            refine q_iconst hX (0 : Int32) q_ki_0 dX3_layer_113 114 rfl ?_
            obtain ⟨g_22, h⟩ := h
            refine q_iast hX g_22 dX3_layer_114 115 rfl (fun m_23 em_23 => ?_)
            replace h := h m_23 em_23
            refine q_aload_n hX rfl dX3_layer_115 116 rfl ?_
            refine gf_X3_25 hX dX3_layer_116 119 rfl ?_
            refine q_aload_n hX rfl dX3_layer_119 120 rfl ?_
            refine gf_X3_74 hX dX3_layer_120 123 rfl ?_
            refine q_iconst hX (0 : Int32) q_ki_0 dX3_layer_123 124 rfl ?_
            obtain ⟨g_24, h⟩ := h
            refine q_iast hX g_24 dX3_layer_124 125 rfl (fun m_25 em_25 => ?_)
            replace h := h m_25 em_25
            refine q_aload_n hX rfl dX3_layer_125 126 rfl ?_
            refine gf_X3_28 hX dX3_layer_126 129 rfl ?_
            refine q_aload_n hX rfl dX3_layer_129 130 rfl ?_
            refine gf_X3_74 hX dX3_layer_130 133 rfl ?_
            refine q_iconst hX (0 : Int32) q_ki_0 dX3_layer_133 134 rfl ?_
            obtain ⟨g_26, h⟩ := h
            refine q_iast hX g_26 dX3_layer_134 135 rfl (fun m_27 em_27 => ?_)
            replace h := h m_27 em_27
            refine q_aload_n hX rfl dX3_layer_135 136 rfl ?_
            refine gf_X3_31 hX dX3_layer_136 139 rfl ?_
            refine q_aload_n hX rfl dX3_layer_139 140 rfl ?_
            refine gf_X3_74 hX dX3_layer_140 143 rfl ?_
            refine q_iconst hX (0 : Int32) q_ki_0 dX3_layer_143 144 rfl ?_
            obtain ⟨g_28, h⟩ := h
            refine q_iast hX g_28 dX3_layer_144 145 rfl (fun m_29 em_29 => ?_)
            replace h := h m_29 em_29
            refine q_aload_n hX rfl dX3_layer_145 146 rfl ?_
            refine q_dup hX rfl dX3_layer_146 147 rfl ?_
            refine gf_X3_74 hX dX3_layer_147 150 rfl ?_
            refine q_iconst hX (1 : Int32) q_ki_1 dX3_layer_150 151 rfl ?_
            refine q_iadd hX dX3_layer_151 152 rfl ?_
            refine pf_X3_74 hX dX3_layer_152 155 rfl (fun m_30 em_30 => ?_)
            replace h := h m_30 em_30
            refine q_aload_n hX rfl dX3_layer_155 156 rfl ?_
            refine gf_X3_74 hX dX3_layer_156 159 rfl ?_
            exact q_iret hX dX3_layer_159 h
          · replace h := h.2 c_13
            refine q_bipush hX (-104 : Int32) q_kb_m104 dX3_layer_61 63 rfl ?_
            exact q_iret hX dX3_layer_63 h
        · replace h := h.2 c_12
          refine q_bipush hX (-102 : Int32) q_kb_m102 dX3_layer_49 51 rfl ?_
          exact q_iret hX dX3_layer_51 h
set_option maxRecDepth 100000 in
set_option maxHeartbeats 4000000 in
theorem sn_X3_layer {l : Launch} {G : q_G} (a0 : Int32) (a1 : Int32) (a2 : Int32) (a3 : Int32)  (mem : q_Mem) (Q : Int32 → q_Mem → Prop) (h : wp_X3_layer a0 a1 a2 a3 mem Q) : q_MI l G yX3_layer cX3_layer 5 (some .int) rm_X3_layer [.ref (q_ad G 72), .int a0, .int a1, .int a2, .int a3] mem Q := by
  refine q_metI 0 (by decide +kernel) (Nat.le_of_ble_eq_true rfl) rfl (fun X hl hX => ?_)
  subst hl
  exact sn_X3_layer_0 hX a0 a1 a2 a3  Q mem h

-- X3_pass
def wp_X3_pass_42  (a0 : Int32)  (mem : q_Mem) (Q : Int32 → q_Mem → Prop) : Prop := Q (mem 72 12) mem
def wp_X3_pass_27_b (K27 : Int32 → q_Mem → Prop) (a0 : Int32) (x2 : Int32) (mem : q_Mem) (Q : Int32 → q_Mem → Prop) : Prop := ((a0 ≤ x2) → wp_X3_pass_42  a0  mem Q) ∧ ((¬ a0 ≤ x2) → wp_X3_goOn  mem (fun m_3 => ∀ x2_4 : Int32, x2_4 = (x2 + (1 : Int32)) → K27 x2_4 m_3))
def wp_X3_pass_27  (a0 : Int32) (x2 : Int32) (mem : q_Mem) (Q : Int32 → q_Mem → Prop) : Prop := ∃ I : Nat → Int32 → q_Mem → Prop, (∃ n, I n x2 mem) ∧ ∀ (n : Nat) (yx2 : Int32) (ymem : q_Mem), I n yx2 ymem → wp_X3_pass_27_b  (fun (zx2 : Int32) (zmem : q_Mem) => ∃ n2, n2 < n ∧ I n2 zx2 zmem) a0 yx2 ymem Q
def wp_X3_pass  (a0 : Int32)  (mem : q_Mem) (Q : Int32 → q_Mem → Prop) : Prop := wp_X3_in (a0.toInt64) (1 : Int64) (240 : Int64) mem (fun r_1 m_2 => ((¬ r_1 = 0) → wp_X3_mayGo  m_2 (fun r_4 m_5 => ((¬ r_4 = 0) → wp_X3_pass_27  a0 (0 : Int32) m_5 Q) ∧ ((r_4 = 0) → Q (-103 : Int32) m_5))) ∧ ((r_1 = 0) → Q (-102 : Int32) m_2))
set_option maxRecDepth 100000 in
set_option maxHeartbeats 4000000 in
theorem sn_X3_pass_42 {X : q_X} {G : q_G} (hX : q_C X cX3_pass 3 RX3 (some .int) 3 77) (a0 : Int32)   (Q : Int32 → q_Mem → Prop)  (mem : q_Mem) (h : wp_X3_pass_42  a0  mem Q) : q_J X G 3 (q_QI X G Q) 42 [some (.ref (q_ad G 72)), some (.int a0), none] [] mem := by
  unfold wp_X3_pass_42 at h
  refine q_aload_n hX rfl dX3_pass_42 43 rfl ?_
  refine gf_X3_111 hX dX3_pass_43 46 rfl ?_
  exact q_iret hX dX3_pass_46 h
set_option maxRecDepth 100000 in
set_option maxHeartbeats 4000000 in
theorem sn_X3_pass_27_b {X : q_X} {G : q_G} (hX : q_C X cX3_pass 3 RX3 (some .int) 3 77) (a0 : Int32)  (x2 : Int32) (Q : Int32 → q_Mem → Prop) (K27 : Int32 → q_Mem → Prop) (hK27 : ∀ (yx2 : Int32) (ymem : q_Mem), K27 yx2 ymem → q_J X G 3 (q_QI X G Q) 27 [some (.ref (q_ad G 72)), some (.int a0), some (.int yx2)] [] ymem) (mem : q_Mem) (h : wp_X3_pass_27_b K27 a0 x2 mem Q) : q_J X G 3 (q_QI X G Q) 27 [some (.ref (q_ad G 72)), some (.int a0), some (.int x2)] [] mem := by
  unfold wp_X3_pass_27_b at h
  refine q_iload_n hX rfl dX3_pass_27 28 rfl ?_
  refine q_iload_n hX rfl dX3_pass_28 29 rfl ?_
  refine q_icmp_ge hX dX3_pass_29 32 42 rfl (by decide) (fun c_1 => ?_) (fun c_1 => ?_)
  · replace h := h.1 c_1
    exact q_weak [true, true, false] rfl (sn_X3_pass_42 hX  a0   Q  mem h)
  · replace h := h.2 c_1
    refine q_aload_n hX rfl dX3_pass_32 33 rfl ?_
    refine cl_X3_132 hX  ⟨Nat.le_of_ble_eq_true rfl, Nat.le_of_ble_eq_true rfl⟩ (Nat.le_of_ble_eq_true rfl) dX3_pass_33 36 rfl (sn_X3_goOn   mem _ h) (fun m_3 h => ?_)
    refine q_iinc hX (1 : Int32) q_ki_1 rfl dX3_pass_36 39 rfl (Nat.le_of_ble_eq_true rfl) rfl (fun y => [some (.ref (q_ad G 72)), some (.int a0), some (.int y)]) (fun _ => rfl) (fun x2_4 ex2_4 => ?_)
    replace h := h x2_4 ex2_4
    refine q_goto hX dX3_pass_39 27 (by decide) ?_
    exact q_weak [true, true, true] rfl (hK27 x2_4 m_3 h)
set_option maxRecDepth 100000 in
set_option maxHeartbeats 4000000 in
theorem sn_X3_pass_27 {X : q_X} {G : q_G} (hX : q_C X cX3_pass 3 RX3 (some .int) 3 77) (a0 : Int32)  (x2 : Int32) (Q : Int32 → q_Mem → Prop)  (mem : q_Mem) (h : wp_X3_pass_27  a0 x2 mem Q) : q_J X G 3 (q_QI X G Q) 27 [some (.ref (q_ad G 72)), some (.int a0), some (.int x2)] [] mem := by
  obtain ⟨I, ⟨n, h0⟩, hs⟩ := h
  have key : ∀ (n : Nat) (yx2 : Int32) (ymem : q_Mem), I n yx2 ymem → q_J X G 3 (q_QI X G Q) 27 [some (.ref (q_ad G 72)), some (.int a0), some (.int yx2)] [] ymem := by
    intro n
    induction n using Nat.strongRecOn with
    | ind n ih =>
      intro yx2 ymem hI
      exact sn_X3_pass_27_b hX  a0  yx2 Q  (fun (zx2 : Int32) (zmem : q_Mem) => ∃ n2, n2 < n ∧ I n2 zx2 zmem) (fun zx2 zmem hz => by obtain ⟨n2, h1, h2⟩ := hz; exact ih n2 h1 zx2 zmem h2) ymem (hs n yx2 ymem hI)
  exact key n x2 mem h0
set_option maxRecDepth 100000 in
set_option maxHeartbeats 4000000 in
theorem sn_X3_pass_0 {X : q_X} {G : q_G} (hX : q_C X cX3_pass 3 RX3 (some .int) 3 77) (a0 : Int32)   (Q : Int32 → q_Mem → Prop)  (mem : q_Mem) (h : wp_X3_pass  a0  mem Q) : q_J X G 3 (q_QI X G Q) 0 [some (.ref (q_ad G 72)), some (.int a0), none] [] mem := by
  unfold wp_X3_pass at h
  refine q_iload_n hX rfl dX3_pass_0 1 rfl ?_
  refine q_i2l hX dX3_pass_1 2 rfl ?_
  refine q_lconst hX (1 : Int64) rfl dX3_pass_2 3 rfl ?_
  refine q_ldc2 hX tw_621 dX3_pass_3 6 rfl ?_
  refine cl_X3_77 hX  ⟨Nat.le_of_ble_eq_true rfl, Nat.le_of_ble_eq_true rfl⟩ (Nat.le_of_ble_eq_true rfl) dX3_pass_6 9 rfl (sn_X3_in (a0.toInt64) (1 : Int64) (240 : Int64)  mem _ h) (fun r_1 m_2 h => ?_)
  refine q_if_ne hX dX3_pass_9 12 15 rfl (by decide) (fun c_3 => ?_) (fun c_3 => ?_)
  · replace h := h.1 c_3
    refine q_aload_n hX rfl dX3_pass_15 16 rfl ?_
    refine cl_X3_128 hX  ⟨Nat.le_of_ble_eq_true rfl, Nat.le_of_ble_eq_true rfl⟩ (Nat.le_of_ble_eq_true rfl) dX3_pass_16 19 rfl (sn_X3_mayGo   m_2 _ h) (fun r_4 m_5 h => ?_)
    refine q_if_ne hX dX3_pass_19 22 25 rfl (by decide) (fun c_6 => ?_) (fun c_6 => ?_)
    · replace h := h.1 c_6
      refine q_iconst hX (0 : Int32) q_ki_0 dX3_pass_25 26 rfl ?_
      refine q_istore_n hX dX3_pass_26 27 rfl (Nat.le_of_ble_eq_true rfl) rfl (fun y => [some (.ref (q_ad G 72)), some (.int a0), some (.int y)]) (fun _ => rfl) (fun x2_7 ex2_7 => ?_)
      replace ex2_7 := ex2_7.symm; subst ex2_7
      exact q_weak [true, true, true] rfl (sn_X3_pass_27 hX  a0  (0 : Int32) Q  m_5 h)
    · replace h := h.2 c_6
      refine q_bipush hX (-103 : Int32) q_kb_m103 dX3_pass_22 24 rfl ?_
      exact q_iret hX dX3_pass_24 h
  · replace h := h.2 c_3
    refine q_bipush hX (-102 : Int32) q_kb_m102 dX3_pass_12 14 rfl ?_
    exact q_iret hX dX3_pass_14 h
set_option maxRecDepth 100000 in
set_option maxHeartbeats 4000000 in
theorem sn_X3_pass {l : Launch} {G : q_G} (a0 : Int32)  (mem : q_Mem) (Q : Int32 → q_Mem → Prop) (h : wp_X3_pass a0 mem Q) : q_MI l G yX3_pass cX3_pass 3 (some .int) rm_X3_pass [.ref (q_ad G 72), .int a0] mem Q := by
  refine q_metI 1 (by decide +kernel) (Nat.le_of_ble_eq_true rfl) rfl (fun X hl hX => ?_)
  subst hl
  exact sn_X3_pass_0 hX a0  Q mem h

-- X3_placed
def wp_X3_placed  (a0 : Int32) (a1 : Int32)  (mem : q_Mem) (Q : Int32 → q_Mem → Prop) : Prop := wp_X3_refusal a0 mem (fun r_1 m_2 => ((r_1 = 0) → wp_X3_findBest a0 m_2 (fun r_5 m_6 => ((r_5 < 0) → Q (-1 : Int32) m_6) ∧ ((¬ r_5 < 0) → wp_X3_in (a1.toInt64) (0 : Int64) (((m_6 72 0) - (1 : Int32)).toInt64) m_6 (fun r_9 m_10 => ((r_9 = 0) → Q (-1 : Int32) m_10) ∧ ((¬ r_9 = 0) → vp_in a1 (q_al 86) ∧ (Q (m_10 86 a1.toNatClampNeg) m_10)))))) ∧ ((¬ r_1 = 0) → Q r_1 m_2))
set_option maxRecDepth 100000 in
set_option maxHeartbeats 4000000 in
theorem sn_X3_placed_0 {X : q_X} {G : q_G} (hX : q_C X cX3_placed 5 RX3 (some .int) 5 122) (a0 : Int32) (a1 : Int32)   (Q : Int32 → q_Mem → Prop)  (mem : q_Mem) (h : wp_X3_placed  a0 a1  mem Q) : q_J X G 5 (q_QI X G Q) 0 [some (.ref (q_ad G 72)), some (.int a0), some (.int a1), none, none] [] mem := by
  unfold wp_X3_placed at h
  refine q_aload_n hX rfl dX3_placed_0 1 rfl ?_
  refine q_iload_n hX rfl dX3_placed_1 2 rfl ?_
  refine cl_X3_154 hX  ⟨Nat.le_of_ble_eq_true rfl, Nat.le_of_ble_eq_true rfl⟩ (Nat.le_of_ble_eq_true rfl) dX3_placed_2 5 rfl (sn_X3_refusal a0  mem _ h) (fun r_1 m_2 h => ?_)
  refine q_istore_n hX dX3_placed_5 6 rfl (Nat.le_of_ble_eq_true rfl) rfl (fun y => [some (.ref (q_ad G 72)), some (.int a0), some (.int a1), some (.int y), none]) (fun _ => rfl) (fun x3_3 ex3_3 => ?_)
  replace ex3_3 := ex3_3.symm; subst ex3_3
  refine q_iload_n hX rfl dX3_placed_6 7 rfl ?_
  refine q_if_eq hX dX3_placed_7 10 12 rfl (by decide) (fun c_4 => ?_) (fun c_4 => ?_)
  · replace h := h.1 c_4
    refine q_aload_n hX rfl dX3_placed_12 13 rfl ?_
    refine q_iload_n hX rfl dX3_placed_13 14 rfl ?_
    refine cl_X3_169 hX  ⟨Nat.le_of_ble_eq_true rfl, Nat.le_of_ble_eq_true rfl⟩ (Nat.le_of_ble_eq_true rfl) dX3_placed_14 17 rfl (sn_X3_findBest a0  m_2 _ h) (fun r_5 m_6 h => ?_)
    refine q_istore hX dX3_placed_17 19 rfl (Nat.le_of_ble_eq_true rfl) rfl (fun y => [some (.ref (q_ad G 72)), some (.int a0), some (.int a1), some (.int r_1), some (.int y)]) (fun _ => rfl) (fun x4_7 ex4_7 => ?_)
    replace ex4_7 := ex4_7.symm; subst ex4_7
    refine q_iload hX rfl dX3_placed_19 21 rfl ?_
    refine q_if_lt hX dX3_placed_21 24 49 rfl (by decide) (fun c_8 => ?_) (fun c_8 => ?_)
    · replace h := h.1 c_8
      refine q_iconst hX (-1 : Int32) q_ki_m1 dX3_placed_49 50 rfl ?_
      exact q_iret hX dX3_placed_50 h
    · replace h := h.2 c_8
      refine q_iload_n hX rfl dX3_placed_24 25 rfl ?_
      refine q_i2l hX dX3_placed_25 26 rfl ?_
      refine q_lconst hX (0 : Int64) rfl dX3_placed_26 27 rfl ?_
      refine q_aload_n hX rfl dX3_placed_27 28 rfl ?_
      refine gf_X3_74 hX dX3_placed_28 31 rfl ?_
      refine q_iconst hX (1 : Int32) q_ki_1 dX3_placed_31 32 rfl ?_
      refine q_isub hX dX3_placed_32 33 rfl ?_
      refine q_i2l hX dX3_placed_33 34 rfl ?_
      refine cl_X3_77 hX  ⟨Nat.le_of_ble_eq_true rfl, Nat.le_of_ble_eq_true rfl⟩ (Nat.le_of_ble_eq_true rfl) dX3_placed_34 37 rfl (sn_X3_in (a1.toInt64) (0 : Int64) (((m_6 72 0) - (1 : Int32)).toInt64)  m_6 _ h) (fun r_9 m_10 h => ?_)
      refine q_if_eq hX dX3_placed_37 40 49 rfl (by decide) (fun c_11 => ?_) (fun c_11 => ?_)
      · replace h := h.1 c_11
        refine q_iconst hX (-1 : Int32) q_ki_m1 dX3_placed_49 50 rfl ?_
        exact q_iret hX dX3_placed_50 h
      · replace h := h.2 c_11
        refine q_aload_n hX rfl dX3_placed_40 41 rfl ?_
        refine gf_X3_49 hX dX3_placed_41 44 rfl ?_
        refine q_iload_n hX rfl dX3_placed_44 45 rfl ?_
        obtain ⟨g_12, h⟩ := h
        refine q_iald hX g_12 dX3_placed_45 46 rfl ?_
        refine q_goto hX dX3_placed_46 50 (by decide) ?_
        exact q_iret hX dX3_placed_50 h
  · replace h := h.2 c_4
    refine q_iload_n hX rfl dX3_placed_10 11 rfl ?_
    exact q_iret hX dX3_placed_11 h
set_option maxRecDepth 100000 in
set_option maxHeartbeats 4000000 in
theorem sn_X3_placed {l : Launch} {G : q_G} (a0 : Int32) (a1 : Int32)  (mem : q_Mem) (Q : Int32 → q_Mem → Prop) (h : wp_X3_placed a0 a1 mem Q) : q_MI l G yX3_placed cX3_placed 5 (some .int) rm_X3_placed [.ref (q_ad G 72), .int a0, .int a1] mem Q := by
  refine q_metI 2 (by decide +kernel) (Nat.le_of_ble_eq_true rfl) rfl (fun X hl hX => ?_)
  subst hl
  exact sn_X3_placed_0 hX a0 a1  Q mem h

-- X3_pressure
def wp_X3_pressure_24  (a0 : Int32) (a1 : Int32) (x3 : Int32) (mem : q_Mem) (Q : Int32 → q_Mem → Prop) : Prop := ((¬ x3 = (-103 : Int32)) → Q (-10101 : Int32) mem) ∧ ((x3 = (-103 : Int32)) → Q (-10103 : Int32) mem)
def wp_X3_pressure  (a0 : Int32) (a1 : Int32)  (mem : q_Mem) (Q : Int32 → q_Mem → Prop) : Prop := wp_X3_refusal a0 mem (fun r_1 m_2 => ((¬ r_1 = 0) → wp_X3_pressure_24  a0 a1 r_1 m_2 Q) ∧ ((r_1 = 0) → wp_X3_in (a1.toInt64) (0 : Int64) ((m_2 72 0).toInt64) m_2 (fun r_5 m_6 => ((¬ r_5 = 0) → wp_X3_plain  m_6 (fun m_9 => wp_X3_pressureOf a0 a1 m_9 (fun r_10 m_11 => Q r_10 m_11))) ∧ ((r_5 = 0) → wp_X3_pressure_24  a0 a1 r_1 m_6 Q))))
set_option maxRecDepth 100000 in
set_option maxHeartbeats 4000000 in
theorem sn_X3_pressure_24 {X : q_X} {G : q_G} (hX : q_C X cX3_pressure 4 RX3 (some .int) 3 74) (a0 : Int32) (a1 : Int32)  (x3 : Int32) (Q : Int32 → q_Mem → Prop)  (mem : q_Mem) (h : wp_X3_pressure_24  a0 a1 x3 mem Q) : q_J X G 4 (q_QI X G Q) 24 [some (.ref (q_ad G 72)), some (.int a0), some (.int a1), some (.int x3)] [] mem := by
  unfold wp_X3_pressure_24 at h
  refine q_iload_n hX rfl dX3_pressure_24 25 rfl ?_
  refine q_bipush hX (-103 : Int32) q_kb_m103 dX3_pressure_25 27 rfl ?_
  refine q_icmp_ne hX dX3_pressure_27 30 36 rfl (by decide) (fun c_1 => ?_) (fun c_1 => ?_)
  · replace h := h.1 c_1
    refine q_sipush hX (-10101 : Int32) q_ks_m10101 dX3_pressure_36 39 rfl ?_
    exact q_iret hX dX3_pressure_39 h
  · replace h := h.2 c_1
    refine q_sipush hX (-10103 : Int32) q_ks_m10103 dX3_pressure_30 33 rfl ?_
    refine q_goto hX dX3_pressure_33 39 (by decide) ?_
    exact q_iret hX dX3_pressure_39 h
set_option maxRecDepth 100000 in
set_option maxHeartbeats 4000000 in
theorem sn_X3_pressure_0 {X : q_X} {G : q_G} (hX : q_C X cX3_pressure 4 RX3 (some .int) 3 74) (a0 : Int32) (a1 : Int32)   (Q : Int32 → q_Mem → Prop)  (mem : q_Mem) (h : wp_X3_pressure  a0 a1  mem Q) : q_J X G 4 (q_QI X G Q) 0 [some (.ref (q_ad G 72)), some (.int a0), some (.int a1), none] [] mem := by
  unfold wp_X3_pressure at h
  refine q_aload_n hX rfl dX3_pressure_0 1 rfl ?_
  refine q_iload_n hX rfl dX3_pressure_1 2 rfl ?_
  refine cl_X3_154 hX  ⟨Nat.le_of_ble_eq_true rfl, Nat.le_of_ble_eq_true rfl⟩ (Nat.le_of_ble_eq_true rfl) dX3_pressure_2 5 rfl (sn_X3_refusal a0  mem _ h) (fun r_1 m_2 h => ?_)
  refine q_istore_n hX dX3_pressure_5 6 rfl (Nat.le_of_ble_eq_true rfl) rfl (fun y => [some (.ref (q_ad G 72)), some (.int a0), some (.int a1), some (.int y)]) (fun _ => rfl) (fun x3_3 ex3_3 => ?_)
  replace ex3_3 := ex3_3.symm; subst ex3_3
  refine q_iload_n hX rfl dX3_pressure_6 7 rfl ?_
  refine q_if_ne hX dX3_pressure_7 10 24 rfl (by decide) (fun c_4 => ?_) (fun c_4 => ?_)
  · replace h := h.1 c_4
    exact q_weak [true, true, true, true] rfl (sn_X3_pressure_24 hX  a0 a1  r_1 Q  m_2 h)
  · replace h := h.2 c_4
    refine q_iload_n hX rfl dX3_pressure_10 11 rfl ?_
    refine q_i2l hX dX3_pressure_11 12 rfl ?_
    refine q_lconst hX (0 : Int64) rfl dX3_pressure_12 13 rfl ?_
    refine q_aload_n hX rfl dX3_pressure_13 14 rfl ?_
    refine gf_X3_74 hX dX3_pressure_14 17 rfl ?_
    refine q_i2l hX dX3_pressure_17 18 rfl ?_
    refine cl_X3_77 hX  ⟨Nat.le_of_ble_eq_true rfl, Nat.le_of_ble_eq_true rfl⟩ (Nat.le_of_ble_eq_true rfl) dX3_pressure_18 21 rfl (sn_X3_in (a1.toInt64) (0 : Int64) ((m_2 72 0).toInt64)  m_2 _ h) (fun r_5 m_6 h => ?_)
    refine q_if_ne hX dX3_pressure_21 24 40 rfl (by decide) (fun c_7 => ?_) (fun c_7 => ?_)
    · replace h := h.1 c_7
      refine q_aload_n hX rfl dX3_pressure_40 41 rfl ?_
      refine cl_X3_157 hX  ⟨Nat.le_of_ble_eq_true rfl, Nat.le_of_ble_eq_true rfl⟩ (Nat.le_of_ble_eq_true rfl) dX3_pressure_41 44 rfl (sn_X3_plain   m_6 _ h) (fun m_9 h => ?_)
      refine q_aload_n hX rfl dX3_pressure_44 45 rfl ?_
      refine q_iload_n hX rfl dX3_pressure_45 46 rfl ?_
      refine q_iload_n hX rfl dX3_pressure_46 47 rfl ?_
      refine cl_X3_145 hX  ⟨Nat.le_of_ble_eq_true rfl, Nat.le_of_ble_eq_true rfl⟩ (Nat.le_of_ble_eq_true rfl) dX3_pressure_47 50 rfl (sn_X3_pressureOf a0 a1  m_9 _ h) (fun r_10 m_11 h => ?_)
      exact q_iret hX dX3_pressure_50 h
    · replace h := h.2 c_7
      exact q_weak [true, true, true, true] rfl (sn_X3_pressure_24 hX  a0 a1  r_1 Q  m_6 h)
set_option maxRecDepth 100000 in
set_option maxHeartbeats 4000000 in
theorem sn_X3_pressure {l : Launch} {G : q_G} (a0 : Int32) (a1 : Int32)  (mem : q_Mem) (Q : Int32 → q_Mem → Prop) (h : wp_X3_pressure a0 a1 mem Q) : q_MI l G yX3_pressure cX3_pressure 4 (some .int) rm_X3_pressure [.ref (q_ad G 72), .int a0, .int a1] mem Q := by
  refine q_metI 1 (by decide +kernel) (Nat.le_of_ble_eq_true rfl) rfl (fun X hl hX => ?_)
  subst hl
  exact sn_X3_pressure_0 hX a0 a1  Q mem h

-- X3_read
def wp_X3_read  (a0 : Int32) (a1 : Int32) (a2 : Int32) (a3 : Int32)  (mem : q_Mem) (Q : Int32 → q_Mem → Prop) : Prop := wp_X3_isLayer a0 mem (fun r_1 m_2 => ((¬ r_1 = 0) → wp_X3_in (a1.toInt64) (1 : Int64) (100 : Int64) m_2 (fun r_4 m_5 => ((r_4 = 0) → Q (-102 : Int32) m_5) ∧ ((¬ r_4 = 0) → wp_X3_in (a2.toInt64) (0 : Int64) (1000 : Int64) m_5 (fun r_7 m_8 => ((r_7 = 0) → Q (-102 : Int32) m_8) ∧ ((¬ r_7 = 0) → wp_X3_in (a3.toInt64) (a2.toInt64) (1000 : Int64) m_8 (fun r_10 m_11 => ((¬ r_10 = 0) → ((¬ (m_11 72 19) = (12 : Int32)) → vp_in (m_11 72 19) (q_al 88) ∧ (∀ m_15 : q_Mem, m_15 = q_set m_11 88 (upd (m_11 88) (m_11 72 19).toNatClampNeg a0) → vp_in (m_15 72 19) (q_al 89) ∧ (∀ m_17 : q_Mem, m_17 = q_set m_15 89 (upd (m_15 89) (m_15 72 19).toNatClampNeg a1) → vp_in (m_17 72 19) (q_al 90) ∧ (∀ m_19 : q_Mem, m_19 = q_set m_17 90 (upd (m_17 90) (m_17 72 19).toNatClampNeg a2) → vp_in (m_19 72 19) (q_al 91) ∧ (∀ m_21 : q_Mem, m_21 = q_set m_19 91 (upd (m_19 91) (m_19 72 19).toNatClampNeg a3) → ∀ m_22 : q_Mem, m_22 = q_set m_21 72 (upd (m_21 72) 19 ((m_21 72 19) + (1 : Int32))) → Q (m_22 72 19) m_22))))) ∧ (((m_11 72 19) = (12 : Int32)) → Q (-104 : Int32) m_11)) ∧ ((r_10 = 0) → Q (-102 : Int32) m_11))))))) ∧ ((r_1 = 0) → Q (-101 : Int32) m_2))
set_option maxRecDepth 100000 in
set_option maxHeartbeats 4000000 in
theorem sn_X3_read_0 {X : q_X} {G : q_G} (hX : q_C X cX3_read 5 RX3 (some .int) 2 46) (a0 : Int32) (a1 : Int32) (a2 : Int32) (a3 : Int32)   (Q : Int32 → q_Mem → Prop)  (mem : q_Mem) (h : wp_X3_read  a0 a1 a2 a3  mem Q) : q_J X G 5 (q_QI X G Q) 0 [some (.ref (q_ad G 72)), some (.int a0), some (.int a1), some (.int a2), some (.int a3)] [] mem := by
  unfold wp_X3_read at h
  refine q_aload_n hX rfl dX3_read_0 1 rfl ?_
  refine q_iload_n hX rfl dX3_read_1 2 rfl ?_
  refine cl_X3_92 hX  ⟨Nat.le_of_ble_eq_true rfl, Nat.le_of_ble_eq_true rfl⟩ (Nat.le_of_ble_eq_true rfl) dX3_read_2 5 rfl (sn_X3_isLayer a0  mem _ h) (fun r_1 m_2 h => ?_)
  refine q_if_ne hX dX3_read_5 8 11 rfl (by decide) (fun c_3 => ?_) (fun c_3 => ?_)
  · replace h := h.1 c_3
    refine q_iload_n hX rfl dX3_read_11 12 rfl ?_
    refine q_i2l hX dX3_read_12 13 rfl ?_
    refine q_lconst hX (1 : Int64) rfl dX3_read_13 14 rfl ?_
    refine q_ldc2 hX tw_607 dX3_read_14 17 rfl ?_
    refine cl_X3_77 hX  ⟨Nat.le_of_ble_eq_true rfl, Nat.le_of_ble_eq_true rfl⟩ (Nat.le_of_ble_eq_true rfl) dX3_read_17 20 rfl (sn_X3_in (a1.toInt64) (1 : Int64) (100 : Int64)  m_2 _ h) (fun r_4 m_5 h => ?_)
    refine q_if_eq hX dX3_read_20 23 49 rfl (by decide) (fun c_6 => ?_) (fun c_6 => ?_)
    · replace h := h.1 c_6
      refine q_bipush hX (-102 : Int32) q_kb_m102 dX3_read_49 51 rfl ?_
      exact q_iret hX dX3_read_51 h
    · replace h := h.2 c_6
      refine q_iload_n hX rfl dX3_read_23 24 rfl ?_
      refine q_i2l hX dX3_read_24 25 rfl ?_
      refine q_lconst hX (0 : Int64) rfl dX3_read_25 26 rfl ?_
      refine q_ldc2 hX tw_567 dX3_read_26 29 rfl ?_
      refine cl_X3_77 hX  ⟨Nat.le_of_ble_eq_true rfl, Nat.le_of_ble_eq_true rfl⟩ (Nat.le_of_ble_eq_true rfl) dX3_read_29 32 rfl (sn_X3_in (a2.toInt64) (0 : Int64) (1000 : Int64)  m_5 _ h) (fun r_7 m_8 h => ?_)
      refine q_if_eq hX dX3_read_32 35 49 rfl (by decide) (fun c_9 => ?_) (fun c_9 => ?_)
      · replace h := h.1 c_9
        refine q_bipush hX (-102 : Int32) q_kb_m102 dX3_read_49 51 rfl ?_
        exact q_iret hX dX3_read_51 h
      · replace h := h.2 c_9
        refine q_iload hX rfl dX3_read_35 37 rfl ?_
        refine q_i2l hX dX3_read_37 38 rfl ?_
        refine q_iload_n hX rfl dX3_read_38 39 rfl ?_
        refine q_i2l hX dX3_read_39 40 rfl ?_
        refine q_ldc2 hX tw_567 dX3_read_40 43 rfl ?_
        refine cl_X3_77 hX  ⟨Nat.le_of_ble_eq_true rfl, Nat.le_of_ble_eq_true rfl⟩ (Nat.le_of_ble_eq_true rfl) dX3_read_43 46 rfl (sn_X3_in (a3.toInt64) (a2.toInt64) (1000 : Int64)  m_8 _ h) (fun r_10 m_11 h => ?_)
        refine q_if_ne hX dX3_read_46 49 52 rfl (by decide) (fun c_12 => ?_) (fun c_12 => ?_)
        · replace h := h.1 c_12
          refine q_aload_n hX rfl dX3_read_52 53 rfl ?_
          refine gf_X3_87 hX dX3_read_53 56 rfl ?_
          refine q_bipush hX (12 : Int32) q_kb_12 dX3_read_56 58 rfl ?_
          refine q_icmp_ne hX dX3_read_58 61 64 rfl (by decide) (fun c_13 => ?_) (fun c_13 => ?_)
          · replace h := h.1 c_13
            refine q_aload_n hX rfl dX3_read_64 65 rfl ?_
            refine gf_X3_55 hX dX3_read_65 68 rfl ?_
            refine q_aload_n hX rfl dX3_read_68 69 rfl ?_
            refine gf_X3_87 hX dX3_read_69 72 rfl ?_
            refine q_iload_n hX rfl dX3_read_72 73 rfl ?_
            obtain ⟨g_14, h⟩ := h
            refine q_iast hX g_14 dX3_read_73 74 rfl (fun m_15 em_15 => ?_)
            replace h := h m_15 em_15
            refine q_aload_n hX rfl dX3_read_74 75 rfl ?_
            refine gf_X3_58 hX dX3_read_75 78 rfl ?_
            refine q_aload_n hX rfl dX3_read_78 79 rfl ?_
            refine gf_X3_87 hX dX3_read_79 82 rfl ?_
            refine q_iload_n hX rfl dX3_read_82 83 rfl ?_
            obtain ⟨g_16, h⟩ := h
            refine q_iast hX g_16 dX3_read_83 84 rfl (fun m_17 em_17 => ?_)
            replace h := h m_17 em_17
            refine q_aload_n hX rfl dX3_read_84 85 rfl ?_
            refine gf_X3_61 hX dX3_read_85 88 rfl ?_
            refine q_aload_n hX rfl dX3_read_88 89 rfl ?_
            refine gf_X3_87 hX dX3_read_89 92 rfl ?_
            refine q_iload_n hX rfl dX3_read_92 93 rfl ?_
            obtain ⟨g_18, h⟩ := h
            refine q_iast hX g_18 dX3_read_93 94 rfl (fun m_19 em_19 => ?_)
            replace h := h m_19 em_19
            refine q_aload_n hX rfl dX3_read_94 95 rfl ?_
            refine gf_X3_64 hX dX3_read_95 98 rfl ?_
            refine q_aload_n hX rfl dX3_read_98 99 rfl ?_
            refine gf_X3_87 hX dX3_read_99 102 rfl ?_
            refine q_iload hX rfl dX3_read_102 104 rfl ?_
            obtain ⟨g_20, h⟩ := h
            refine q_iast hX g_20 dX3_read_104 105 rfl (fun m_21 em_21 => ?_)
            replace h := h m_21 em_21
            refine q_aload_n hX rfl dX3_read_105 106 rfl ?_
            refine q_dup hX rfl dX3_read_106 107 rfl ?_
            refine gf_X3_87 hX dX3_read_107 110 rfl ?_
            refine q_iconst hX (1 : Int32) q_ki_1 dX3_read_110 111 rfl ?_
            refine q_iadd hX dX3_read_111 112 rfl ?_
            refine pf_X3_87 hX dX3_read_112 115 rfl (fun m_22 em_22 => ?_)
            replace h := h m_22 em_22
            refine q_aload_n hX rfl dX3_read_115 116 rfl ?_
            refine gf_X3_87 hX dX3_read_116 119 rfl ?_
            exact q_iret hX dX3_read_119 h
          · replace h := h.2 c_13
            refine q_bipush hX (-104 : Int32) q_kb_m104 dX3_read_61 63 rfl ?_
            exact q_iret hX dX3_read_63 h
        · replace h := h.2 c_12
          refine q_bipush hX (-102 : Int32) q_kb_m102 dX3_read_49 51 rfl ?_
          exact q_iret hX dX3_read_51 h
  · replace h := h.2 c_3
    refine q_bipush hX (-101 : Int32) q_kb_m101 dX3_read_8 10 rfl ?_
    exact q_iret hX dX3_read_10 h
set_option maxRecDepth 100000 in
set_option maxHeartbeats 4000000 in
theorem sn_X3_read {l : Launch} {G : q_G} (a0 : Int32) (a1 : Int32) (a2 : Int32) (a3 : Int32)  (mem : q_Mem) (Q : Int32 → q_Mem → Prop) (h : wp_X3_read a0 a1 a2 a3 mem Q) : q_MI l G yX3_read cX3_read 5 (some .int) rm_X3_read [.ref (q_ad G 72), .int a0, .int a1, .int a2, .int a3] mem Q := by
  refine q_metI 0 (by decide +kernel) (Nat.le_of_ble_eq_true rfl) rfl (fun X hl hX => ?_)
  subst hl
  exact sn_X3_read_0 hX a0 a1 a2 a3  Q mem h

-- X3_share
def wp_X3_share  (a0 : Int32)  (mem : q_Mem) (Q : Int32 → q_Mem → Prop) : Prop := wp_X3_in (a0.toInt64) (0 : Int64) (10 : Int64) mem (fun r_1 m_2 => ((¬ r_1 = 0) → ∀ x2_4 : Int32, x2_4 = (m_2 72 13) → ∀ m_5 : q_Mem, m_5 = q_set m_2 72 (upd (m_2 72) 13 a0) → Q x2_4 m_5) ∧ ((r_1 = 0) → Q (-102 : Int32) m_2))
set_option maxRecDepth 100000 in
set_option maxHeartbeats 4000000 in
theorem sn_X3_share_0 {X : q_X} {G : q_G} (hX : q_C X cX3_share 3 RX3 (some .int) 1 25) (a0 : Int32)   (Q : Int32 → q_Mem → Prop)  (mem : q_Mem) (h : wp_X3_share  a0  mem Q) : q_J X G 3 (q_QI X G Q) 0 [some (.ref (q_ad G 72)), some (.int a0), none] [] mem := by
  unfold wp_X3_share at h
  refine q_iload_n hX rfl dX3_share_0 1 rfl ?_
  refine q_i2l hX dX3_share_1 2 rfl ?_
  refine q_lconst hX (0 : Int64) rfl dX3_share_2 3 rfl ?_
  refine q_ldc2 hX tw_616 dX3_share_3 6 rfl ?_
  refine cl_X3_77 hX  ⟨Nat.le_of_ble_eq_true rfl, Nat.le_of_ble_eq_true rfl⟩ (Nat.le_of_ble_eq_true rfl) dX3_share_6 9 rfl (sn_X3_in (a0.toInt64) (0 : Int64) (10 : Int64)  mem _ h) (fun r_1 m_2 h => ?_)
  refine q_if_ne hX dX3_share_9 12 15 rfl (by decide) (fun c_3 => ?_) (fun c_3 => ?_)
  · replace h := h.1 c_3
    refine q_aload_n hX rfl dX3_share_15 16 rfl ?_
    refine gf_X3_70 hX dX3_share_16 19 rfl ?_
    refine q_istore_n hX dX3_share_19 20 rfl (Nat.le_of_ble_eq_true rfl) rfl (fun y => [some (.ref (q_ad G 72)), some (.int a0), some (.int y)]) (fun _ => rfl) (fun x2_4 ex2_4 => ?_)
    replace h := h x2_4 ex2_4
    refine q_aload_n hX rfl dX3_share_20 21 rfl ?_
    refine q_iload_n hX rfl dX3_share_21 22 rfl ?_
    refine pf_X3_70 hX dX3_share_22 25 rfl (fun m_5 em_5 => ?_)
    replace h := h m_5 em_5
    refine q_iload_n hX rfl dX3_share_25 26 rfl ?_
    exact q_iret hX dX3_share_26 h
  · replace h := h.2 c_3
    refine q_bipush hX (-102 : Int32) q_kb_m102 dX3_share_12 14 rfl ?_
    exact q_iret hX dX3_share_14 h
set_option maxRecDepth 100000 in
set_option maxHeartbeats 4000000 in
theorem sn_X3_share {l : Launch} {G : q_G} (a0 : Int32)  (mem : q_Mem) (Q : Int32 → q_Mem → Prop) (h : wp_X3_share a0 mem Q) : q_MI l G yX3_share cX3_share 3 (some .int) rm_X3_share [.ref (q_ad G 72), .int a0] mem Q := by
  refine q_metI 1 (by decide +kernel) (Nat.le_of_ble_eq_true rfl) rfl (fun X hl hX => ?_)
  subst hl
  exact sn_X3_share_0 hX a0  Q mem h

-- X3_steady
def wp_X3_steady_138  (a0 : Int32) (x2 : Int32) (mem : q_Mem) (Q : Int32 → q_Mem → Prop) : Prop := Q x2 mem
def wp_X3_steady_134 (K34 : Int32 → q_Mem → Prop) (a0 : Int32) (x2 : Int32) (x3 : Int32) (mem : q_Mem) (Q : Int32 → q_Mem → Prop) : Prop := ((x3 = 0) → ∀ x2_2 : Int32, x2_2 = (x2 + (1 : Int32)) → K34 x2_2 mem) ∧ ((¬ x3 = 0) → wp_X3_steady_138  a0 x2 mem Q)
def wp_X3_steady_127 (K34 : Int32 → q_Mem → Prop) (K92 : Int32 → Int32 → q_Mem → Prop) (a0 : Int32) (x2 : Int32) (x4 : Int32) (s1 : Int32) (mem : q_Mem) (Q : Int32 → q_Mem → Prop) : Prop := ∀ x4_2 : Int32, x4_2 = (x4 + (1 : Int32)) → K92 s1 x4_2 mem
def wp_X3_steady_126 (K34 : Int32 → q_Mem → Prop) (K92 : Int32 → Int32 → q_Mem → Prop) (a0 : Int32) (x2 : Int32) (x4 : Int32) (mem : q_Mem) (Q : Int32 → q_Mem → Prop) : Prop := wp_X3_steady_127 K34 K92 a0 x2 x4 (0 : Int32) mem Q
def wp_X3_steady_92_b (K34 : Int32 → q_Mem → Prop) (K92 : Int32 → Int32 → q_Mem → Prop) (a0 : Int32) (x2 : Int32) (x3 : Int32) (x4 : Int32) (mem : q_Mem) (Q : Int32 → q_Mem → Prop) : Prop := (((mem 72 0) ≤ x4) → wp_X3_steady_134 K34 a0 x2 x3 mem Q) ∧ ((¬ (mem 72 0) ≤ x4) → ((x3 = 0) → wp_X3_steady_126 K34 K92 a0 x2 x4 mem Q) ∧ ((¬ x3 = 0) → vp_in x4 (q_al 84) ∧ (vp_in x4 (q_al 77) ∧ (((¬ (mem 84 x4.toNatClampNeg) = (mem 77 x4.toNatClampNeg)) → wp_X3_steady_126 K34 K92 a0 x2 x4 mem Q) ∧ (((mem 84 x4.toNatClampNeg) = (mem 77 x4.toNatClampNeg)) → wp_X3_steady_127 K34 K92 a0 x2 x4 (1 : Int32) mem Q)))))
def wp_X3_steady_92 (K34 : Int32 → q_Mem → Prop) (a0 : Int32) (x2 : Int32) (x3 : Int32) (x4 : Int32) (mem : q_Mem) (Q : Int32 → q_Mem → Prop) : Prop := ∃ I : Nat → Int32 → Int32 → q_Mem → Prop, (∃ n, I n x3 x4 mem) ∧ ∀ (n : Nat) (yx3 : Int32) (yx4 : Int32) (ymem : q_Mem), I n yx3 yx4 ymem → wp_X3_steady_92_b K34 (fun (zx3 : Int32) (zx4 : Int32) (zmem : q_Mem) => ∃ n2, n2 < n ∧ I n2 zx3 zx4 zmem) a0 x2 yx3 yx4 ymem Q
def wp_X3_steady_87 (K34 : Int32 → q_Mem → Prop) (a0 : Int32) (x2 : Int32) (mem : q_Mem) (Q : Int32 → q_Mem → Prop) : Prop := wp_X3_steady_92 K34 a0 x2 (1 : Int32) (0 : Int32) mem Q
def wp_X3_steady_69_b (K34 : Int32 → q_Mem → Prop) (K69 : Int32 → q_Mem → Prop) (a0 : Int32) (x2 : Int32) (x3 : Int32) (mem : q_Mem) (Q : Int32 → q_Mem → Prop) : Prop := (((mem 72 11) ≤ x3) → wp_X3_steady_87 K34 a0 x2 mem Q) ∧ ((¬ (mem 72 11) ≤ x3) → wp_X3_goOn  mem (fun m_3 => ∀ x3_4 : Int32, x3_4 = (x3 + (1 : Int32)) → K69 x3_4 m_3))
def wp_X3_steady_69 (K34 : Int32 → q_Mem → Prop) (a0 : Int32) (x2 : Int32) (x3 : Int32) (mem : q_Mem) (Q : Int32 → q_Mem → Prop) : Prop := ∃ I : Nat → Int32 → q_Mem → Prop, (∃ n, I n x3 mem) ∧ ∀ (n : Nat) (yx3 : Int32) (ymem : q_Mem), I n yx3 ymem → wp_X3_steady_69_b K34 (fun (zx3 : Int32) (zmem : q_Mem) => ∃ n2, n2 < n ∧ I n2 zx3 zmem) a0 x2 yx3 ymem Q
def wp_X3_steady_67 (K34 : Int32 → q_Mem → Prop) (a0 : Int32) (x2 : Int32) (mem : q_Mem) (Q : Int32 → q_Mem → Prop) : Prop := wp_X3_steady_69 K34 a0 x2 (0 : Int32) mem Q
def wp_X3_steady_41_b (K34 : Int32 → q_Mem → Prop) (K41 : Int32 → q_Mem → Prop) (a0 : Int32) (x2 : Int32) (x3 : Int32) (mem : q_Mem) (Q : Int32 → q_Mem → Prop) : Prop := (((mem 72 0) ≤ x3) → wp_X3_steady_67 K34 a0 x2 mem Q) ∧ ((¬ (mem 72 0) ≤ x3) → vp_in x3 (q_al 77) ∧ (vp_in x3 (q_al 84) ∧ (∀ m_4 : q_Mem, m_4 = q_set mem 84 (upd (mem 84) x3.toNatClampNeg (mem 77 x3.toNatClampNeg)) → ∀ x3_5 : Int32, x3_5 = (x3 + (1 : Int32)) → K41 x3_5 m_4)))
def wp_X3_steady_41 (K34 : Int32 → q_Mem → Prop) (a0 : Int32) (x2 : Int32) (x3 : Int32) (mem : q_Mem) (Q : Int32 → q_Mem → Prop) : Prop := ∃ I : Nat → Int32 → q_Mem → Prop, (∃ n, I n x3 mem) ∧ ∀ (n : Nat) (yx3 : Int32) (ymem : q_Mem), I n yx3 ymem → wp_X3_steady_41_b K34 (fun (zx3 : Int32) (zmem : q_Mem) => ∃ n2, n2 < n ∧ I n2 zx3 zmem) a0 x2 yx3 ymem Q
def wp_X3_steady_34_b (K34 : Int32 → q_Mem → Prop) (a0 : Int32) (x2 : Int32) (mem : q_Mem) (Q : Int32 → q_Mem → Prop) : Prop := ((a0 < x2) → Q (-1 : Int32) mem) ∧ ((¬ a0 < x2) → wp_X3_steady_41 K34 a0 x2 (0 : Int32) mem Q)
def wp_X3_steady_34  (a0 : Int32) (x2 : Int32) (mem : q_Mem) (Q : Int32 → q_Mem → Prop) : Prop := ∃ I : Nat → Int32 → q_Mem → Prop, (∃ n, I n x2 mem) ∧ ∀ (n : Nat) (yx2 : Int32) (ymem : q_Mem), I n yx2 ymem → wp_X3_steady_34_b  (fun (zx2 : Int32) (zmem : q_Mem) => ∃ n2, n2 < n ∧ I n2 zx2 zmem) a0 yx2 ymem Q
def wp_X3_steady  (a0 : Int32)  (mem : q_Mem) (Q : Int32 → q_Mem → Prop) : Prop := wp_X3_in (a0.toInt64) (1 : Int64) (60 : Int64) mem (fun r_1 m_2 => ((¬ r_1 = 0) → wp_X3_mayGo  m_2 (fun r_4 m_5 => ((r_4 = 0) → Q (-103 : Int32) m_5) ∧ ((¬ r_4 = 0) → (((m_5 72 12) = 0) → wp_X3_steady_34  a0 (1 : Int32) m_5 Q) ∧ ((¬ (m_5 72 12) = 0) → Q (-103 : Int32) m_5)))) ∧ ((r_1 = 0) → Q (-102 : Int32) m_2))
set_option maxRecDepth 100000 in
set_option maxHeartbeats 4000000 in
theorem sn_X3_steady_138 {X : q_X} {G : q_G} (hX : q_C X cX3_steady 5 RX3 (some .int) 3 77) (a0 : Int32)  (x2 : Int32) (Q : Int32 → q_Mem → Prop)  (mem : q_Mem) (h : wp_X3_steady_138  a0 x2 mem Q) : q_J X G 5 (q_QI X G Q) 138 [some (.ref (q_ad G 72)), some (.int a0), some (.int x2), none, none] [] mem := by
  unfold wp_X3_steady_138 at h
  refine q_iload_n hX rfl dX3_steady_138 139 rfl ?_
  exact q_iret hX dX3_steady_139 h
set_option maxRecDepth 100000 in
set_option maxHeartbeats 4000000 in
theorem sn_X3_steady_134 {X : q_X} {G : q_G} (hX : q_C X cX3_steady 5 RX3 (some .int) 3 77) (a0 : Int32)  (x2 : Int32) (x3 : Int32) (Q : Int32 → q_Mem → Prop) (K34 : Int32 → q_Mem → Prop) (hK34 : ∀ (yx2 : Int32) (ymem : q_Mem), K34 yx2 ymem → q_J X G 5 (q_QI X G Q) 34 [some (.ref (q_ad G 72)), some (.int a0), some (.int yx2), none, none] [] ymem) (mem : q_Mem) (h : wp_X3_steady_134 K34 a0 x2 x3 mem Q) : q_J X G 5 (q_QI X G Q) 134 [some (.ref (q_ad G 72)), some (.int a0), some (.int x2), some (.int x3), none] [] mem := by
  unfold wp_X3_steady_134 at h
  refine q_iload_n hX rfl dX3_steady_134 135 rfl ?_
  refine q_if_eq hX dX3_steady_135 138 140 rfl (by decide) (fun c_1 => ?_) (fun c_1 => ?_)
  · replace h := h.1 c_1
    refine q_iinc hX (1 : Int32) q_ki_1 rfl dX3_steady_140 143 rfl (Nat.le_of_ble_eq_true rfl) rfl (fun y => [some (.ref (q_ad G 72)), some (.int a0), some (.int y), some (.int x3), none]) (fun _ => rfl) (fun x2_2 ex2_2 => ?_)
    replace h := h x2_2 ex2_2
    refine q_goto hX dX3_steady_143 34 (by decide) ?_
    exact q_weak [true, true, true, false, false] rfl (hK34 x2_2 mem h)
  · replace h := h.2 c_1
    exact q_weak [true, true, true, false, false] rfl (sn_X3_steady_138 hX  a0  x2 Q  mem h)
set_option maxRecDepth 100000 in
set_option maxHeartbeats 4000000 in
theorem sn_X3_steady_127 {X : q_X} {G : q_G} (hX : q_C X cX3_steady 5 RX3 (some .int) 3 77) (a0 : Int32)  (x2 : Int32) (x4 : Int32) (s1 : Int32) (Q : Int32 → q_Mem → Prop) (K34 : Int32 → q_Mem → Prop) (hK34 : ∀ (yx2 : Int32) (ymem : q_Mem), K34 yx2 ymem → q_J X G 5 (q_QI X G Q) 34 [some (.ref (q_ad G 72)), some (.int a0), some (.int yx2), none, none] [] ymem) (K92 : Int32 → Int32 → q_Mem → Prop) (hK92 : ∀ (yx3 : Int32) (yx4 : Int32) (ymem : q_Mem), K92 yx3 yx4 ymem → q_J X G 5 (q_QI X G Q) 92 [some (.ref (q_ad G 72)), some (.int a0), some (.int x2), some (.int yx3), some (.int yx4)] [] ymem) (mem : q_Mem) (h : wp_X3_steady_127 K34 K92 a0 x2 x4 s1 mem Q) : q_J X G 5 (q_QI X G Q) 127 [some (.ref (q_ad G 72)), some (.int a0), some (.int x2), none, some (.int x4)] [.int s1] mem := by
  unfold wp_X3_steady_127 at h
  refine q_istore_n hX dX3_steady_127 128 rfl (Nat.le_of_ble_eq_true rfl) rfl (fun y => [some (.ref (q_ad G 72)), some (.int a0), some (.int x2), some (.int y), some (.int x4)]) (fun _ => rfl) (fun x3_1 ex3_1 => ?_)
  replace ex3_1 := ex3_1.symm; subst ex3_1
  refine q_iinc hX (1 : Int32) q_ki_1 rfl dX3_steady_128 131 rfl (Nat.le_of_ble_eq_true rfl) rfl (fun y => [some (.ref (q_ad G 72)), some (.int a0), some (.int x2), some (.int s1), some (.int y)]) (fun _ => rfl) (fun x4_2 ex4_2 => ?_)
  replace h := h x4_2 ex4_2
  refine q_goto hX dX3_steady_131 92 (by decide) ?_
  exact q_weak [true, true, true, true, true] rfl (hK92 s1 x4_2 mem h)
set_option maxRecDepth 100000 in
set_option maxHeartbeats 4000000 in
theorem sn_X3_steady_126 {X : q_X} {G : q_G} (hX : q_C X cX3_steady 5 RX3 (some .int) 3 77) (a0 : Int32)  (x2 : Int32) (x4 : Int32) (Q : Int32 → q_Mem → Prop) (K34 : Int32 → q_Mem → Prop) (hK34 : ∀ (yx2 : Int32) (ymem : q_Mem), K34 yx2 ymem → q_J X G 5 (q_QI X G Q) 34 [some (.ref (q_ad G 72)), some (.int a0), some (.int yx2), none, none] [] ymem) (K92 : Int32 → Int32 → q_Mem → Prop) (hK92 : ∀ (yx3 : Int32) (yx4 : Int32) (ymem : q_Mem), K92 yx3 yx4 ymem → q_J X G 5 (q_QI X G Q) 92 [some (.ref (q_ad G 72)), some (.int a0), some (.int x2), some (.int yx3), some (.int yx4)] [] ymem) (mem : q_Mem) (h : wp_X3_steady_126 K34 K92 a0 x2 x4 mem Q) : q_J X G 5 (q_QI X G Q) 126 [some (.ref (q_ad G 72)), some (.int a0), some (.int x2), none, some (.int x4)] [] mem := by
  unfold wp_X3_steady_126 at h
  refine q_iconst hX (0 : Int32) q_ki_0 dX3_steady_126 127 rfl ?_
  exact q_weak [true, true, true, false, true] rfl (sn_X3_steady_127 hX  a0  x2 x4 (0 : Int32) Q K34 hK34 K92 hK92 mem h)
set_option maxRecDepth 100000 in
set_option maxHeartbeats 4000000 in
theorem sn_X3_steady_92_b {X : q_X} {G : q_G} (hX : q_C X cX3_steady 5 RX3 (some .int) 3 77) (a0 : Int32)  (x2 : Int32) (x3 : Int32) (x4 : Int32) (Q : Int32 → q_Mem → Prop) (K34 : Int32 → q_Mem → Prop) (hK34 : ∀ (yx2 : Int32) (ymem : q_Mem), K34 yx2 ymem → q_J X G 5 (q_QI X G Q) 34 [some (.ref (q_ad G 72)), some (.int a0), some (.int yx2), none, none] [] ymem) (K92 : Int32 → Int32 → q_Mem → Prop) (hK92 : ∀ (yx3 : Int32) (yx4 : Int32) (ymem : q_Mem), K92 yx3 yx4 ymem → q_J X G 5 (q_QI X G Q) 92 [some (.ref (q_ad G 72)), some (.int a0), some (.int x2), some (.int yx3), some (.int yx4)] [] ymem) (mem : q_Mem) (h : wp_X3_steady_92_b K34 K92 a0 x2 x3 x4 mem Q) : q_J X G 5 (q_QI X G Q) 92 [some (.ref (q_ad G 72)), some (.int a0), some (.int x2), some (.int x3), some (.int x4)] [] mem := by
  unfold wp_X3_steady_92_b at h
  refine q_iload hX rfl dX3_steady_92 94 rfl ?_
  refine q_aload_n hX rfl dX3_steady_94 95 rfl ?_
  refine gf_X3_74 hX dX3_steady_95 98 rfl ?_
  refine q_icmp_ge hX dX3_steady_98 101 134 rfl (by decide) (fun c_1 => ?_) (fun c_1 => ?_)
  · replace h := h.1 c_1
    exact q_weak [true, true, true, true, false] rfl (sn_X3_steady_134 hX  a0  x2 x3 Q K34 hK34 mem h)
  · replace h := h.2 c_1
    refine q_iload_n hX rfl dX3_steady_101 102 rfl ?_
    refine q_if_eq hX dX3_steady_102 105 126 rfl (by decide) (fun c_2 => ?_) (fun c_2 => ?_)
    · replace h := h.1 c_2
      exact q_weak [true, true, true, false, true] rfl (sn_X3_steady_126 hX  a0  x2 x4 Q K34 hK34 K92 hK92 mem h)
    · replace h := h.2 c_2
      refine q_aload_n hX rfl dX3_steady_105 106 rfl ?_
      refine gf_X3_43 hX dX3_steady_106 109 rfl ?_
      refine q_iload hX rfl dX3_steady_109 111 rfl ?_
      obtain ⟨g_3, h⟩ := h
      refine q_iald hX g_3 dX3_steady_111 112 rfl ?_
      refine q_aload_n hX rfl dX3_steady_112 113 rfl ?_
      refine gf_X3_22 hX dX3_steady_113 116 rfl ?_
      refine q_iload hX rfl dX3_steady_116 118 rfl ?_
      obtain ⟨g_4, h⟩ := h
      refine q_iald hX g_4 dX3_steady_118 119 rfl ?_
      refine q_icmp_ne hX dX3_steady_119 122 126 rfl (by decide) (fun c_5 => ?_) (fun c_5 => ?_)
      · replace h := h.1 c_5
        exact q_weak [true, true, true, false, true] rfl (sn_X3_steady_126 hX  a0  x2 x4 Q K34 hK34 K92 hK92 mem h)
      · replace h := h.2 c_5
        refine q_iconst hX (1 : Int32) q_ki_1 dX3_steady_122 123 rfl ?_
        refine q_goto hX dX3_steady_123 127 (by decide) ?_
        exact q_weak [true, true, true, false, true] rfl (sn_X3_steady_127 hX  a0  x2 x4 (1 : Int32) Q K34 hK34 K92 hK92 mem h)
set_option maxRecDepth 100000 in
set_option maxHeartbeats 4000000 in
theorem sn_X3_steady_92 {X : q_X} {G : q_G} (hX : q_C X cX3_steady 5 RX3 (some .int) 3 77) (a0 : Int32)  (x2 : Int32) (x3 : Int32) (x4 : Int32) (Q : Int32 → q_Mem → Prop) (K34 : Int32 → q_Mem → Prop) (hK34 : ∀ (yx2 : Int32) (ymem : q_Mem), K34 yx2 ymem → q_J X G 5 (q_QI X G Q) 34 [some (.ref (q_ad G 72)), some (.int a0), some (.int yx2), none, none] [] ymem) (mem : q_Mem) (h : wp_X3_steady_92 K34 a0 x2 x3 x4 mem Q) : q_J X G 5 (q_QI X G Q) 92 [some (.ref (q_ad G 72)), some (.int a0), some (.int x2), some (.int x3), some (.int x4)] [] mem := by
  obtain ⟨I, ⟨n, h0⟩, hs⟩ := h
  have key : ∀ (n : Nat) (yx3 : Int32) (yx4 : Int32) (ymem : q_Mem), I n yx3 yx4 ymem → q_J X G 5 (q_QI X G Q) 92 [some (.ref (q_ad G 72)), some (.int a0), some (.int x2), some (.int yx3), some (.int yx4)] [] ymem := by
    intro n
    induction n using Nat.strongRecOn with
    | ind n ih =>
      intro yx3 yx4 ymem hI
      exact sn_X3_steady_92_b hX  a0  x2 yx3 yx4 Q K34 hK34 (fun (zx3 : Int32) (zx4 : Int32) (zmem : q_Mem) => ∃ n2, n2 < n ∧ I n2 zx3 zx4 zmem) (fun zx3 zx4 zmem hz => by obtain ⟨n2, h1, h2⟩ := hz; exact ih n2 h1 zx3 zx4 zmem h2) ymem (hs n yx3 yx4 ymem hI)
  exact key n x3 x4 mem h0
set_option maxRecDepth 100000 in
set_option maxHeartbeats 4000000 in
theorem sn_X3_steady_87 {X : q_X} {G : q_G} (hX : q_C X cX3_steady 5 RX3 (some .int) 3 77) (a0 : Int32)  (x2 : Int32) (Q : Int32 → q_Mem → Prop) (K34 : Int32 → q_Mem → Prop) (hK34 : ∀ (yx2 : Int32) (ymem : q_Mem), K34 yx2 ymem → q_J X G 5 (q_QI X G Q) 34 [some (.ref (q_ad G 72)), some (.int a0), some (.int yx2), none, none] [] ymem) (mem : q_Mem) (h : wp_X3_steady_87 K34 a0 x2 mem Q) : q_J X G 5 (q_QI X G Q) 87 [some (.ref (q_ad G 72)), some (.int a0), some (.int x2), none, none] [] mem := by
  unfold wp_X3_steady_87 at h
  refine q_iconst hX (1 : Int32) q_ki_1 dX3_steady_87 88 rfl ?_
  refine q_istore_n hX dX3_steady_88 89 rfl (Nat.le_of_ble_eq_true rfl) rfl (fun y => [some (.ref (q_ad G 72)), some (.int a0), some (.int x2), some (.int y), none]) (fun _ => rfl) (fun x3_1 ex3_1 => ?_)
  replace ex3_1 := ex3_1.symm; subst ex3_1
  refine q_iconst hX (0 : Int32) q_ki_0 dX3_steady_89 90 rfl ?_
  refine q_istore hX dX3_steady_90 92 rfl (Nat.le_of_ble_eq_true rfl) rfl (fun y => [some (.ref (q_ad G 72)), some (.int a0), some (.int x2), some (.int (1 : Int32)), some (.int y)]) (fun _ => rfl) (fun x4_2 ex4_2 => ?_)
  replace ex4_2 := ex4_2.symm; subst ex4_2
  exact q_weak [true, true, true, true, true] rfl (sn_X3_steady_92 hX  a0  x2 (1 : Int32) (0 : Int32) Q K34 hK34 mem h)
set_option maxRecDepth 100000 in
set_option maxHeartbeats 4000000 in
theorem sn_X3_steady_69_b {X : q_X} {G : q_G} (hX : q_C X cX3_steady 5 RX3 (some .int) 3 77) (a0 : Int32)  (x2 : Int32) (x3 : Int32) (Q : Int32 → q_Mem → Prop) (K34 : Int32 → q_Mem → Prop) (hK34 : ∀ (yx2 : Int32) (ymem : q_Mem), K34 yx2 ymem → q_J X G 5 (q_QI X G Q) 34 [some (.ref (q_ad G 72)), some (.int a0), some (.int yx2), none, none] [] ymem) (K69 : Int32 → q_Mem → Prop) (hK69 : ∀ (yx3 : Int32) (ymem : q_Mem), K69 yx3 ymem → q_J X G 5 (q_QI X G Q) 69 [some (.ref (q_ad G 72)), some (.int a0), some (.int x2), some (.int yx3), none] [] ymem) (mem : q_Mem) (h : wp_X3_steady_69_b K34 K69 a0 x2 x3 mem Q) : q_J X G 5 (q_QI X G Q) 69 [some (.ref (q_ad G 72)), some (.int a0), some (.int x2), some (.int x3), none] [] mem := by
  unfold wp_X3_steady_69_b at h
  refine q_iload_n hX rfl dX3_steady_69 70 rfl ?_
  refine q_aload_n hX rfl dX3_steady_70 71 rfl ?_
  refine gf_X3_108 hX dX3_steady_71 74 rfl ?_
  refine q_icmp_ge hX dX3_steady_74 77 87 rfl (by decide) (fun c_1 => ?_) (fun c_1 => ?_)
  · replace h := h.1 c_1
    exact q_weak [true, true, true, false, false] rfl (sn_X3_steady_87 hX  a0  x2 Q K34 hK34 mem h)
  · replace h := h.2 c_1
    refine q_aload_n hX rfl dX3_steady_77 78 rfl ?_
    refine cl_X3_132 hX  ⟨Nat.le_of_ble_eq_true rfl, Nat.le_of_ble_eq_true rfl⟩ (Nat.le_of_ble_eq_true rfl) dX3_steady_78 81 rfl (sn_X3_goOn   mem _ h) (fun m_3 h => ?_)
    refine q_iinc hX (1 : Int32) q_ki_1 rfl dX3_steady_81 84 rfl (Nat.le_of_ble_eq_true rfl) rfl (fun y => [some (.ref (q_ad G 72)), some (.int a0), some (.int x2), some (.int y), none]) (fun _ => rfl) (fun x3_4 ex3_4 => ?_)
    replace h := h x3_4 ex3_4
    refine q_goto hX dX3_steady_84 69 (by decide) ?_
    exact q_weak [true, true, true, true, false] rfl (hK69 x3_4 m_3 h)
set_option maxRecDepth 100000 in
set_option maxHeartbeats 4000000 in
theorem sn_X3_steady_69 {X : q_X} {G : q_G} (hX : q_C X cX3_steady 5 RX3 (some .int) 3 77) (a0 : Int32)  (x2 : Int32) (x3 : Int32) (Q : Int32 → q_Mem → Prop) (K34 : Int32 → q_Mem → Prop) (hK34 : ∀ (yx2 : Int32) (ymem : q_Mem), K34 yx2 ymem → q_J X G 5 (q_QI X G Q) 34 [some (.ref (q_ad G 72)), some (.int a0), some (.int yx2), none, none] [] ymem) (mem : q_Mem) (h : wp_X3_steady_69 K34 a0 x2 x3 mem Q) : q_J X G 5 (q_QI X G Q) 69 [some (.ref (q_ad G 72)), some (.int a0), some (.int x2), some (.int x3), none] [] mem := by
  obtain ⟨I, ⟨n, h0⟩, hs⟩ := h
  have key : ∀ (n : Nat) (yx3 : Int32) (ymem : q_Mem), I n yx3 ymem → q_J X G 5 (q_QI X G Q) 69 [some (.ref (q_ad G 72)), some (.int a0), some (.int x2), some (.int yx3), none] [] ymem := by
    intro n
    induction n using Nat.strongRecOn with
    | ind n ih =>
      intro yx3 ymem hI
      exact sn_X3_steady_69_b hX  a0  x2 yx3 Q K34 hK34 (fun (zx3 : Int32) (zmem : q_Mem) => ∃ n2, n2 < n ∧ I n2 zx3 zmem) (fun zx3 zmem hz => by obtain ⟨n2, h1, h2⟩ := hz; exact ih n2 h1 zx3 zmem h2) ymem (hs n yx3 ymem hI)
  exact key n x3 mem h0
set_option maxRecDepth 100000 in
set_option maxHeartbeats 4000000 in
theorem sn_X3_steady_67 {X : q_X} {G : q_G} (hX : q_C X cX3_steady 5 RX3 (some .int) 3 77) (a0 : Int32)  (x2 : Int32) (Q : Int32 → q_Mem → Prop) (K34 : Int32 → q_Mem → Prop) (hK34 : ∀ (yx2 : Int32) (ymem : q_Mem), K34 yx2 ymem → q_J X G 5 (q_QI X G Q) 34 [some (.ref (q_ad G 72)), some (.int a0), some (.int yx2), none, none] [] ymem) (mem : q_Mem) (h : wp_X3_steady_67 K34 a0 x2 mem Q) : q_J X G 5 (q_QI X G Q) 67 [some (.ref (q_ad G 72)), some (.int a0), some (.int x2), none, none] [] mem := by
  unfold wp_X3_steady_67 at h
  refine q_iconst hX (0 : Int32) q_ki_0 dX3_steady_67 68 rfl ?_
  refine q_istore_n hX dX3_steady_68 69 rfl (Nat.le_of_ble_eq_true rfl) rfl (fun y => [some (.ref (q_ad G 72)), some (.int a0), some (.int x2), some (.int y), none]) (fun _ => rfl) (fun x3_1 ex3_1 => ?_)
  replace ex3_1 := ex3_1.symm; subst ex3_1
  exact q_weak [true, true, true, true, false] rfl (sn_X3_steady_69 hX  a0  x2 (0 : Int32) Q K34 hK34 mem h)
set_option maxRecDepth 100000 in
set_option maxHeartbeats 4000000 in
theorem sn_X3_steady_41_b {X : q_X} {G : q_G} (hX : q_C X cX3_steady 5 RX3 (some .int) 3 77) (a0 : Int32)  (x2 : Int32) (x3 : Int32) (Q : Int32 → q_Mem → Prop) (K34 : Int32 → q_Mem → Prop) (hK34 : ∀ (yx2 : Int32) (ymem : q_Mem), K34 yx2 ymem → q_J X G 5 (q_QI X G Q) 34 [some (.ref (q_ad G 72)), some (.int a0), some (.int yx2), none, none] [] ymem) (K41 : Int32 → q_Mem → Prop) (hK41 : ∀ (yx3 : Int32) (ymem : q_Mem), K41 yx3 ymem → q_J X G 5 (q_QI X G Q) 41 [some (.ref (q_ad G 72)), some (.int a0), some (.int x2), some (.int yx3), none] [] ymem) (mem : q_Mem) (h : wp_X3_steady_41_b K34 K41 a0 x2 x3 mem Q) : q_J X G 5 (q_QI X G Q) 41 [some (.ref (q_ad G 72)), some (.int a0), some (.int x2), some (.int x3), none] [] mem := by
  unfold wp_X3_steady_41_b at h
  refine q_iload_n hX rfl dX3_steady_41 42 rfl ?_
  refine q_aload_n hX rfl dX3_steady_42 43 rfl ?_
  refine gf_X3_74 hX dX3_steady_43 46 rfl ?_
  refine q_icmp_ge hX dX3_steady_46 49 67 rfl (by decide) (fun c_1 => ?_) (fun c_1 => ?_)
  · replace h := h.1 c_1
    exact q_weak [true, true, true, false, false] rfl (sn_X3_steady_67 hX  a0  x2 Q K34 hK34 mem h)
  · replace h := h.2 c_1
    refine q_aload_n hX rfl dX3_steady_49 50 rfl ?_
    refine gf_X3_43 hX dX3_steady_50 53 rfl ?_
    refine q_iload_n hX rfl dX3_steady_53 54 rfl ?_
    refine q_aload_n hX rfl dX3_steady_54 55 rfl ?_
    refine gf_X3_22 hX dX3_steady_55 58 rfl ?_
    refine q_iload_n hX rfl dX3_steady_58 59 rfl ?_
    obtain ⟨g_2, h⟩ := h
    refine q_iald hX g_2 dX3_steady_59 60 rfl ?_
    obtain ⟨g_3, h⟩ := h
    refine q_iast hX g_3 dX3_steady_60 61 rfl (fun m_4 em_4 => ?_)
    replace h := h m_4 em_4
    refine q_iinc hX (1 : Int32) q_ki_1 rfl dX3_steady_61 64 rfl (Nat.le_of_ble_eq_true rfl) rfl (fun y => [some (.ref (q_ad G 72)), some (.int a0), some (.int x2), some (.int y), none]) (fun _ => rfl) (fun x3_5 ex3_5 => ?_)
    replace h := h x3_5 ex3_5
    refine q_goto hX dX3_steady_64 41 (by decide) ?_
    exact q_weak [true, true, true, true, false] rfl (hK41 x3_5 m_4 h)
set_option maxRecDepth 100000 in
set_option maxHeartbeats 4000000 in
theorem sn_X3_steady_41 {X : q_X} {G : q_G} (hX : q_C X cX3_steady 5 RX3 (some .int) 3 77) (a0 : Int32)  (x2 : Int32) (x3 : Int32) (Q : Int32 → q_Mem → Prop) (K34 : Int32 → q_Mem → Prop) (hK34 : ∀ (yx2 : Int32) (ymem : q_Mem), K34 yx2 ymem → q_J X G 5 (q_QI X G Q) 34 [some (.ref (q_ad G 72)), some (.int a0), some (.int yx2), none, none] [] ymem) (mem : q_Mem) (h : wp_X3_steady_41 K34 a0 x2 x3 mem Q) : q_J X G 5 (q_QI X G Q) 41 [some (.ref (q_ad G 72)), some (.int a0), some (.int x2), some (.int x3), none] [] mem := by
  obtain ⟨I, ⟨n, h0⟩, hs⟩ := h
  have key : ∀ (n : Nat) (yx3 : Int32) (ymem : q_Mem), I n yx3 ymem → q_J X G 5 (q_QI X G Q) 41 [some (.ref (q_ad G 72)), some (.int a0), some (.int x2), some (.int yx3), none] [] ymem := by
    intro n
    induction n using Nat.strongRecOn with
    | ind n ih =>
      intro yx3 ymem hI
      exact sn_X3_steady_41_b hX  a0  x2 yx3 Q K34 hK34 (fun (zx3 : Int32) (zmem : q_Mem) => ∃ n2, n2 < n ∧ I n2 zx3 zmem) (fun zx3 zmem hz => by obtain ⟨n2, h1, h2⟩ := hz; exact ih n2 h1 zx3 zmem h2) ymem (hs n yx3 ymem hI)
  exact key n x3 mem h0
set_option maxRecDepth 100000 in
set_option maxHeartbeats 4000000 in
theorem sn_X3_steady_34_b {X : q_X} {G : q_G} (hX : q_C X cX3_steady 5 RX3 (some .int) 3 77) (a0 : Int32)  (x2 : Int32) (Q : Int32 → q_Mem → Prop) (K34 : Int32 → q_Mem → Prop) (hK34 : ∀ (yx2 : Int32) (ymem : q_Mem), K34 yx2 ymem → q_J X G 5 (q_QI X G Q) 34 [some (.ref (q_ad G 72)), some (.int a0), some (.int yx2), none, none] [] ymem) (mem : q_Mem) (h : wp_X3_steady_34_b K34 a0 x2 mem Q) : q_J X G 5 (q_QI X G Q) 34 [some (.ref (q_ad G 72)), some (.int a0), some (.int x2), none, none] [] mem := by
  unfold wp_X3_steady_34_b at h
  refine q_iload_n hX rfl dX3_steady_34 35 rfl ?_
  refine q_iload_n hX rfl dX3_steady_35 36 rfl ?_
  refine q_icmp_gt hX dX3_steady_36 39 146 rfl (by decide) (fun c_1 => ?_) (fun c_1 => ?_)
  · replace h := h.1 c_1
    refine q_iconst hX (-1 : Int32) q_ki_m1 dX3_steady_146 147 rfl ?_
    exact q_iret hX dX3_steady_147 h
  · replace h := h.2 c_1
    refine q_iconst hX (0 : Int32) q_ki_0 dX3_steady_39 40 rfl ?_
    refine q_istore_n hX dX3_steady_40 41 rfl (Nat.le_of_ble_eq_true rfl) rfl (fun y => [some (.ref (q_ad G 72)), some (.int a0), some (.int x2), some (.int y), none]) (fun _ => rfl) (fun x3_2 ex3_2 => ?_)
    replace ex3_2 := ex3_2.symm; subst ex3_2
    exact q_weak [true, true, true, true, false] rfl (sn_X3_steady_41 hX  a0  x2 (0 : Int32) Q K34 hK34 mem h)
set_option maxRecDepth 100000 in
set_option maxHeartbeats 4000000 in
theorem sn_X3_steady_34 {X : q_X} {G : q_G} (hX : q_C X cX3_steady 5 RX3 (some .int) 3 77) (a0 : Int32)  (x2 : Int32) (Q : Int32 → q_Mem → Prop)  (mem : q_Mem) (h : wp_X3_steady_34  a0 x2 mem Q) : q_J X G 5 (q_QI X G Q) 34 [some (.ref (q_ad G 72)), some (.int a0), some (.int x2), none, none] [] mem := by
  obtain ⟨I, ⟨n, h0⟩, hs⟩ := h
  have key : ∀ (n : Nat) (yx2 : Int32) (ymem : q_Mem), I n yx2 ymem → q_J X G 5 (q_QI X G Q) 34 [some (.ref (q_ad G 72)), some (.int a0), some (.int yx2), none, none] [] ymem := by
    intro n
    induction n using Nat.strongRecOn with
    | ind n ih =>
      intro yx2 ymem hI
      exact sn_X3_steady_34_b hX  a0  yx2 Q  (fun (zx2 : Int32) (zmem : q_Mem) => ∃ n2, n2 < n ∧ I n2 zx2 zmem) (fun zx2 zmem hz => by obtain ⟨n2, h1, h2⟩ := hz; exact ih n2 h1 zx2 zmem h2) ymem (hs n yx2 ymem hI)
  exact key n x2 mem h0
set_option maxRecDepth 100000 in
set_option maxHeartbeats 4000000 in
theorem sn_X3_steady_0 {X : q_X} {G : q_G} (hX : q_C X cX3_steady 5 RX3 (some .int) 3 77) (a0 : Int32)   (Q : Int32 → q_Mem → Prop)  (mem : q_Mem) (h : wp_X3_steady  a0  mem Q) : q_J X G 5 (q_QI X G Q) 0 [some (.ref (q_ad G 72)), some (.int a0), none, none, none] [] mem := by
  unfold wp_X3_steady at h
  refine q_iload_n hX rfl dX3_steady_0 1 rfl ?_
  refine q_i2l hX dX3_steady_1 2 rfl ?_
  refine q_lconst hX (1 : Int64) rfl dX3_steady_2 3 rfl ?_
  refine q_ldc2 hX tw_645 dX3_steady_3 6 rfl ?_
  refine cl_X3_77 hX  ⟨Nat.le_of_ble_eq_true rfl, Nat.le_of_ble_eq_true rfl⟩ (Nat.le_of_ble_eq_true rfl) dX3_steady_6 9 rfl (sn_X3_in (a0.toInt64) (1 : Int64) (60 : Int64)  mem _ h) (fun r_1 m_2 h => ?_)
  refine q_if_ne hX dX3_steady_9 12 15 rfl (by decide) (fun c_3 => ?_) (fun c_3 => ?_)
  · replace h := h.1 c_3
    refine q_aload_n hX rfl dX3_steady_15 16 rfl ?_
    refine cl_X3_128 hX  ⟨Nat.le_of_ble_eq_true rfl, Nat.le_of_ble_eq_true rfl⟩ (Nat.le_of_ble_eq_true rfl) dX3_steady_16 19 rfl (sn_X3_mayGo   m_2 _ h) (fun r_4 m_5 h => ?_)
    refine q_if_eq hX dX3_steady_19 22 29 rfl (by decide) (fun c_6 => ?_) (fun c_6 => ?_)
    · replace h := h.1 c_6
      refine q_bipush hX (-103 : Int32) q_kb_m103 dX3_steady_29 31 rfl ?_
      exact q_iret hX dX3_steady_31 h
    · replace h := h.2 c_6
      refine q_aload_n hX rfl dX3_steady_22 23 rfl ?_
      refine gf_X3_111 hX dX3_steady_23 26 rfl ?_
      refine q_if_eq hX dX3_steady_26 29 32 rfl (by decide) (fun c_7 => ?_) (fun c_7 => ?_)
      · replace h := h.1 c_7
        refine q_iconst hX (1 : Int32) q_ki_1 dX3_steady_32 33 rfl ?_
        refine q_istore_n hX dX3_steady_33 34 rfl (Nat.le_of_ble_eq_true rfl) rfl (fun y => [some (.ref (q_ad G 72)), some (.int a0), some (.int y), none, none]) (fun _ => rfl) (fun x2_8 ex2_8 => ?_)
        replace ex2_8 := ex2_8.symm; subst ex2_8
        exact q_weak [true, true, true, false, false] rfl (sn_X3_steady_34 hX  a0  (1 : Int32) Q  m_5 h)
      · replace h := h.2 c_7
        refine q_bipush hX (-103 : Int32) q_kb_m103 dX3_steady_29 31 rfl ?_
        exact q_iret hX dX3_steady_31 h
  · replace h := h.2 c_3
    refine q_bipush hX (-102 : Int32) q_kb_m102 dX3_steady_12 14 rfl ?_
    exact q_iret hX dX3_steady_14 h
set_option maxRecDepth 100000 in
set_option maxHeartbeats 4000000 in
theorem sn_X3_steady {l : Launch} {G : q_G} (a0 : Int32)  (mem : q_Mem) (Q : Int32 → q_Mem → Prop) (h : wp_X3_steady a0 mem Q) : q_MI l G yX3_steady cX3_steady 5 (some .int) rm_X3_steady [.ref (q_ad G 72), .int a0] mem Q := by
  refine q_metI 3 (by decide +kernel) (Nat.le_of_ble_eq_true rfl) rfl (fun X hl hX => ?_)
  subst hl
  exact sn_X3_steady_0 hX a0  Q mem h

-- X3_sum
def wp_X3_sum  (a0 : Int32)  (mem : q_Mem) (Q : Int32 → q_Mem → Prop) : Prop := wp_X3_in (a0.toInt64) (0 : Int64) (4 : Int64) mem (fun r_1 m_2 => ((r_1 = 0) → Q (-1000000001 : Int32) m_2) ∧ ((¬ r_1 = 0) → vp_in a0 (q_al 82) ∧ (Q (m_2 82 a0.toNatClampNeg) m_2)))
set_option maxRecDepth 100000 in
set_option maxHeartbeats 4000000 in
theorem sn_X3_sum_0 {X : q_X} {G : q_G} (hX : q_C X cX3_sum 2 RX3 (some .int) 1 25) (a0 : Int32)   (Q : Int32 → q_Mem → Prop)  (mem : q_Mem) (h : wp_X3_sum  a0  mem Q) : q_J X G 2 (q_QI X G Q) 0 [some (.ref (q_ad G 72)), some (.int a0)] [] mem := by
  unfold wp_X3_sum at h
  refine q_iload_n hX rfl dX3_sum_0 1 rfl ?_
  refine q_i2l hX dX3_sum_1 2 rfl ?_
  refine q_lconst hX (0 : Int64) rfl dX3_sum_2 3 rfl ?_
  refine q_ldc2 hX tw_581 dX3_sum_3 6 rfl ?_
  refine cl_X3_77 hX  ⟨Nat.le_of_ble_eq_true rfl, Nat.le_of_ble_eq_true rfl⟩ (Nat.le_of_ble_eq_true rfl) dX3_sum_6 9 rfl (sn_X3_in (a0.toInt64) (0 : Int64) (4 : Int64)  mem _ h) (fun r_1 m_2 h => ?_)
  refine q_if_eq hX dX3_sum_9 12 21 rfl (by decide) (fun c_3 => ?_) (fun c_3 => ?_)
  · replace h := h.1 c_3
    refine q_ldc hX tw_650 dX3_sum_21 23 rfl ?_
    exact q_iret hX dX3_sum_23 h
  · replace h := h.2 c_3
    refine q_aload_n hX rfl dX3_sum_12 13 rfl ?_
    refine gf_X3_37 hX dX3_sum_13 16 rfl ?_
    refine q_iload_n hX rfl dX3_sum_16 17 rfl ?_
    obtain ⟨g_4, h⟩ := h
    refine q_iald hX g_4 dX3_sum_17 18 rfl ?_
    refine q_goto hX dX3_sum_18 23 (by decide) ?_
    exact q_iret hX dX3_sum_23 h
set_option maxRecDepth 100000 in
set_option maxHeartbeats 4000000 in
theorem sn_X3_sum {l : Launch} {G : q_G} (a0 : Int32)  (mem : q_Mem) (Q : Int32 → q_Mem → Prop) (h : wp_X3_sum a0 mem Q) : q_MI l G yX3_sum cX3_sum 2 (some .int) rm_X3_sum [.ref (q_ad G 72), .int a0] mem Q := by
  refine q_metI 0 (by decide +kernel) (Nat.le_of_ble_eq_true rfl) rfl (fun X hl hX => ?_)
  subst hl
  exact sn_X3_sum_0 hX a0  Q mem h

-- X3_warmth
def wp_X3_warmth_24  (a0 : Int32) (a1 : Int32) (x3 : Int32) (mem : q_Mem) (Q : Int32 → q_Mem → Prop) : Prop := ((¬ x3 = (-103 : Int32)) → Q (-10101 : Int32) mem) ∧ ((x3 = (-103 : Int32)) → Q (-10103 : Int32) mem)
def wp_X3_warmth  (a0 : Int32) (a1 : Int32)  (mem : q_Mem) (Q : Int32 → q_Mem → Prop) : Prop := wp_X3_refusal a0 mem (fun r_1 m_2 => ((¬ r_1 = 0) → wp_X3_warmth_24  a0 a1 r_1 m_2 Q) ∧ ((r_1 = 0) → wp_X3_in (a1.toInt64) (0 : Int64) ((m_2 72 0).toInt64) m_2 (fun r_5 m_6 => ((¬ r_5 = 0) → wp_X3_plain  m_6 (fun m_9 => wp_X3_warmthOf a0 a1 m_9 (fun r_10 m_11 => Q r_10 m_11))) ∧ ((r_5 = 0) → wp_X3_warmth_24  a0 a1 r_1 m_6 Q))))
set_option maxRecDepth 100000 in
set_option maxHeartbeats 4000000 in
theorem sn_X3_warmth_24 {X : q_X} {G : q_G} (hX : q_C X cX3_warmth 4 RX3 (some .int) 3 72) (a0 : Int32) (a1 : Int32)  (x3 : Int32) (Q : Int32 → q_Mem → Prop)  (mem : q_Mem) (h : wp_X3_warmth_24  a0 a1 x3 mem Q) : q_J X G 4 (q_QI X G Q) 24 [some (.ref (q_ad G 72)), some (.int a0), some (.int a1), some (.int x3)] [] mem := by
  unfold wp_X3_warmth_24 at h
  refine q_iload_n hX rfl dX3_warmth_24 25 rfl ?_
  refine q_bipush hX (-103 : Int32) q_kb_m103 dX3_warmth_25 27 rfl ?_
  refine q_icmp_ne hX dX3_warmth_27 30 36 rfl (by decide) (fun c_1 => ?_) (fun c_1 => ?_)
  · replace h := h.1 c_1
    refine q_sipush hX (-10101 : Int32) q_ks_m10101 dX3_warmth_36 39 rfl ?_
    exact q_iret hX dX3_warmth_39 h
  · replace h := h.2 c_1
    refine q_sipush hX (-10103 : Int32) q_ks_m10103 dX3_warmth_30 33 rfl ?_
    refine q_goto hX dX3_warmth_33 39 (by decide) ?_
    exact q_iret hX dX3_warmth_39 h
set_option maxRecDepth 100000 in
set_option maxHeartbeats 4000000 in
theorem sn_X3_warmth_0 {X : q_X} {G : q_G} (hX : q_C X cX3_warmth 4 RX3 (some .int) 3 72) (a0 : Int32) (a1 : Int32)   (Q : Int32 → q_Mem → Prop)  (mem : q_Mem) (h : wp_X3_warmth  a0 a1  mem Q) : q_J X G 4 (q_QI X G Q) 0 [some (.ref (q_ad G 72)), some (.int a0), some (.int a1), none] [] mem := by
  unfold wp_X3_warmth at h
  refine q_aload_n hX rfl dX3_warmth_0 1 rfl ?_
  refine q_iload_n hX rfl dX3_warmth_1 2 rfl ?_
  refine cl_X3_154 hX  ⟨Nat.le_of_ble_eq_true rfl, Nat.le_of_ble_eq_true rfl⟩ (Nat.le_of_ble_eq_true rfl) dX3_warmth_2 5 rfl (sn_X3_refusal a0  mem _ h) (fun r_1 m_2 h => ?_)
  refine q_istore_n hX dX3_warmth_5 6 rfl (Nat.le_of_ble_eq_true rfl) rfl (fun y => [some (.ref (q_ad G 72)), some (.int a0), some (.int a1), some (.int y)]) (fun _ => rfl) (fun x3_3 ex3_3 => ?_)
  replace ex3_3 := ex3_3.symm; subst ex3_3
  refine q_iload_n hX rfl dX3_warmth_6 7 rfl ?_
  refine q_if_ne hX dX3_warmth_7 10 24 rfl (by decide) (fun c_4 => ?_) (fun c_4 => ?_)
  · replace h := h.1 c_4
    exact q_weak [true, true, true, true] rfl (sn_X3_warmth_24 hX  a0 a1  r_1 Q  m_2 h)
  · replace h := h.2 c_4
    refine q_iload_n hX rfl dX3_warmth_10 11 rfl ?_
    refine q_i2l hX dX3_warmth_11 12 rfl ?_
    refine q_lconst hX (0 : Int64) rfl dX3_warmth_12 13 rfl ?_
    refine q_aload_n hX rfl dX3_warmth_13 14 rfl ?_
    refine gf_X3_74 hX dX3_warmth_14 17 rfl ?_
    refine q_i2l hX dX3_warmth_17 18 rfl ?_
    refine cl_X3_77 hX  ⟨Nat.le_of_ble_eq_true rfl, Nat.le_of_ble_eq_true rfl⟩ (Nat.le_of_ble_eq_true rfl) dX3_warmth_18 21 rfl (sn_X3_in (a1.toInt64) (0 : Int64) ((m_2 72 0).toInt64)  m_2 _ h) (fun r_5 m_6 h => ?_)
    refine q_if_ne hX dX3_warmth_21 24 40 rfl (by decide) (fun c_7 => ?_) (fun c_7 => ?_)
    · replace h := h.1 c_7
      refine q_aload_n hX rfl dX3_warmth_40 41 rfl ?_
      refine cl_X3_157 hX  ⟨Nat.le_of_ble_eq_true rfl, Nat.le_of_ble_eq_true rfl⟩ (Nat.le_of_ble_eq_true rfl) dX3_warmth_41 44 rfl (sn_X3_plain   m_6 _ h) (fun m_9 h => ?_)
      refine q_aload_n hX rfl dX3_warmth_44 45 rfl ?_
      refine q_iload_n hX rfl dX3_warmth_45 46 rfl ?_
      refine q_iload_n hX rfl dX3_warmth_46 47 rfl ?_
      refine cl_X3_148 hX  ⟨Nat.le_of_ble_eq_true rfl, Nat.le_of_ble_eq_true rfl⟩ (Nat.le_of_ble_eq_true rfl) dX3_warmth_47 50 rfl (sn_X3_warmthOf a0 a1  m_9 _ h) (fun r_10 m_11 h => ?_)
      exact q_iret hX dX3_warmth_50 h
    · replace h := h.2 c_7
      exact q_weak [true, true, true, true] rfl (sn_X3_warmth_24 hX  a0 a1  r_1 Q  m_6 h)
set_option maxRecDepth 100000 in
set_option maxHeartbeats 4000000 in
theorem sn_X3_warmth {l : Launch} {G : q_G} (a0 : Int32) (a1 : Int32)  (mem : q_Mem) (Q : Int32 → q_Mem → Prop) (h : wp_X3_warmth a0 a1 mem Q) : q_MI l G yX3_warmth cX3_warmth 4 (some .int) rm_X3_warmth [.ref (q_ad G 72), .int a0, .int a1] mem Q := by
  refine q_metI 1 (by decide +kernel) (Nat.le_of_ble_eq_true rfl) rfl (fun X hl hX => ?_)
  subst hl
  exact sn_X3_warmth_0 hX a0 a1  Q mem h

-- X3_water
def wp_X3_water  (a0 : Int32) (a1 : Int32)  (mem : q_Mem) (Q : Int32 → q_Mem → Prop) : Prop := wp_X3_isLayer a0 mem (fun r_1 m_2 => ((¬ r_1 = 0) → vp_in a0 (q_al 73) ∧ (wp_X3_in (a1.toInt64) (0 : Int64) ((m_2 73 a0.toNatClampNeg).toInt64) m_2 (fun r_5 m_6 => ((¬ r_5 = 0) → vp_in a0 (q_al 77) ∧ (∀ x3_9 : Int32, x3_9 = (m_6 77 a0.toNatClampNeg) → vp_in a0 (q_al 77) ∧ (∀ m_11 : q_Mem, m_11 = q_set m_6 77 (upd (m_6 77) a0.toNatClampNeg a1) → vp_in (4 : Int32) (q_al 82) ∧ (vp_in (4 : Int32) (q_al 82) ∧ (∀ m_14 : q_Mem, m_14 = q_set m_11 82 (upd (m_11 82) (4 : Int32).toNatClampNeg ((m_11 82 (4 : Int32).toNatClampNeg) + (a1 - x3_9))) → Q x3_9 m_14))))) ∧ ((r_5 = 0) → Q (-102 : Int32) m_6)))) ∧ ((r_1 = 0) → Q (-101 : Int32) m_2))
set_option maxRecDepth 100000 in
set_option maxHeartbeats 4000000 in
theorem sn_X3_water_0 {X : q_X} {G : q_G} (hX : q_C X cX3_water 4 RX3 (some .int) 2 46) (a0 : Int32) (a1 : Int32)   (Q : Int32 → q_Mem → Prop)  (mem : q_Mem) (h : wp_X3_water  a0 a1  mem Q) : q_J X G 4 (q_QI X G Q) 0 [some (.ref (q_ad G 72)), some (.int a0), some (.int a1), none] [] mem := by
  unfold wp_X3_water at h
  refine q_aload_n hX rfl dX3_water_0 1 rfl ?_
  refine q_iload_n hX rfl dX3_water_1 2 rfl ?_
  refine cl_X3_92 hX  ⟨Nat.le_of_ble_eq_true rfl, Nat.le_of_ble_eq_true rfl⟩ (Nat.le_of_ble_eq_true rfl) dX3_water_2 5 rfl (sn_X3_isLayer a0  mem _ h) (fun r_1 m_2 h => ?_)
  refine q_if_ne hX dX3_water_5 8 11 rfl (by decide) (fun c_3 => ?_) (fun c_3 => ?_)
  · replace h := h.1 c_3
    refine q_iload_n hX rfl dX3_water_11 12 rfl ?_
    refine q_i2l hX dX3_water_12 13 rfl ?_
    refine q_lconst hX (0 : Int64) rfl dX3_water_13 14 rfl ?_
    refine q_aload_n hX rfl dX3_water_14 15 rfl ?_
    refine gf_X3_7 hX dX3_water_15 18 rfl ?_
    refine q_iload_n hX rfl dX3_water_18 19 rfl ?_
    obtain ⟨g_4, h⟩ := h
    refine q_iald hX g_4 dX3_water_19 20 rfl ?_
    refine q_i2l hX dX3_water_20 21 rfl ?_
    refine cl_X3_77 hX  ⟨Nat.le_of_ble_eq_true rfl, Nat.le_of_ble_eq_true rfl⟩ (Nat.le_of_ble_eq_true rfl) dX3_water_21 24 rfl (sn_X3_in (a1.toInt64) (0 : Int64) ((m_2 73 a0.toNatClampNeg).toInt64)  m_2 _ h) (fun r_5 m_6 h => ?_)
    refine q_if_ne hX dX3_water_24 27 30 rfl (by decide) (fun c_7 => ?_) (fun c_7 => ?_)
    · replace h := h.1 c_7
      refine q_aload_n hX rfl dX3_water_30 31 rfl ?_
      refine gf_X3_22 hX dX3_water_31 34 rfl ?_
      refine q_iload_n hX rfl dX3_water_34 35 rfl ?_
      obtain ⟨g_8, h⟩ := h
      refine q_iald hX g_8 dX3_water_35 36 rfl ?_
      refine q_istore_n hX dX3_water_36 37 rfl (Nat.le_of_ble_eq_true rfl) rfl (fun y => [some (.ref (q_ad G 72)), some (.int a0), some (.int a1), some (.int y)]) (fun _ => rfl) (fun x3_9 ex3_9 => ?_)
      replace h := h x3_9 ex3_9
      refine q_aload_n hX rfl dX3_water_37 38 rfl ?_
      refine gf_X3_22 hX dX3_water_38 41 rfl ?_
      refine q_iload_n hX rfl dX3_water_41 42 rfl ?_
      refine q_iload_n hX rfl dX3_water_42 43 rfl ?_
      obtain ⟨g_10, h⟩ := h
      refine q_iast hX g_10 dX3_water_43 44 rfl (fun m_11 em_11 => ?_)
      replace h := h m_11 em_11
      refine q_aload_n hX rfl dX3_water_44 45 rfl ?_
      refine gf_X3_37 hX dX3_water_45 48 rfl ?_
      refine q_iconst hX (4 : Int32) q_ki_4 dX3_water_48 49 rfl ?_
      refine q_dup2 hX rfl rfl dX3_water_49 50 rfl ?_
      obtain ⟨g_12, h⟩ := h
      refine q_iald hX g_12 dX3_water_50 51 rfl ?_
      refine q_iload_n hX rfl dX3_water_51 52 rfl ?_
      refine q_iload_n hX rfl dX3_water_52 53 rfl ?_
      refine q_isub hX dX3_water_53 54 rfl ?_
      refine q_iadd hX dX3_water_54 55 rfl ?_
      obtain ⟨g_13, h⟩ := h
      refine q_iast hX g_13 dX3_water_55 56 rfl (fun m_14 em_14 => ?_)
      replace h := h m_14 em_14
      refine q_iload_n hX rfl dX3_water_56 57 rfl ?_
      exact q_iret hX dX3_water_57 h
    · replace h := h.2 c_7
      refine q_bipush hX (-102 : Int32) q_kb_m102 dX3_water_27 29 rfl ?_
      exact q_iret hX dX3_water_29 h
  · replace h := h.2 c_3
    refine q_bipush hX (-101 : Int32) q_kb_m101 dX3_water_8 10 rfl ?_
    exact q_iret hX dX3_water_10 h
set_option maxRecDepth 100000 in
set_option maxHeartbeats 4000000 in
theorem sn_X3_water {l : Launch} {G : q_G} (a0 : Int32) (a1 : Int32)  (mem : q_Mem) (Q : Int32 → q_Mem → Prop) (h : wp_X3_water a0 a1 mem Q) : q_MI l G yX3_water cX3_water 4 (some .int) rm_X3_water [.ref (q_ad G 72), .int a0, .int a1] mem Q := by
  refine q_metI 1 (by decide +kernel) (Nat.le_of_ble_eq_true rfl) rfl (fun X hl hX => ?_)
  subst hl
  exact sn_X3_water_0 hX a0 a1  Q mem h

-- X3_excess
def wp_X3_excess  (a0 : Int32) (a1 : Int32)  (mem : q_Mem) (Q : Int32 → q_Mem → Prop) : Prop := wp_X3_refusal a0 mem (fun r_1 m_2 => ((r_1 = 0) → wp_X3_in (a1.toInt64) (1 : Int64) (((m_2 72 0) - (1 : Int32)).toInt64) m_2 (fun r_5 m_6 => ((¬ r_5 = 0) → wp_X3_plain  m_6 (fun m_9 => wp_X3_excessOf a0 a1 m_9 (fun r_10 m_11 => Q r_10 m_11))) ∧ ((r_5 = 0) → Q (-101 : Int32) m_6))) ∧ ((¬ r_1 = 0) → Q r_1 m_2))
set_option maxRecDepth 100000 in
set_option maxHeartbeats 4000000 in
theorem sn_X3_excess_0 {X : q_X} {G : q_G} (hX : q_C X cX3_excess 4 RX3 (some .int) 4 97) (a0 : Int32) (a1 : Int32)   (Q : Int32 → q_Mem → Prop)  (mem : q_Mem) (h : wp_X3_excess  a0 a1  mem Q) : q_J X G 4 (q_QI X G Q) 0 [some (.ref (q_ad G 72)), some (.int a0), some (.int a1), none] [] mem := by
  unfold wp_X3_excess at h
  refine q_aload_n hX rfl dX3_excess_0 1 rfl ?_
  refine q_iload_n hX rfl dX3_excess_1 2 rfl ?_
  refine cl_X3_154 hX  ⟨Nat.le_of_ble_eq_true rfl, Nat.le_of_ble_eq_true rfl⟩ (Nat.le_of_ble_eq_true rfl) dX3_excess_2 5 rfl (sn_X3_refusal a0  mem _ h) (fun r_1 m_2 h => ?_)
  refine q_istore_n hX dX3_excess_5 6 rfl (Nat.le_of_ble_eq_true rfl) rfl (fun y => [some (.ref (q_ad G 72)), some (.int a0), some (.int a1), some (.int y)]) (fun _ => rfl) (fun x3_3 ex3_3 => ?_)
  replace ex3_3 := ex3_3.symm; subst ex3_3
  refine q_iload_n hX rfl dX3_excess_6 7 rfl ?_
  refine q_if_eq hX dX3_excess_7 10 12 rfl (by decide) (fun c_4 => ?_) (fun c_4 => ?_)
  · replace h := h.1 c_4
    refine q_iload_n hX rfl dX3_excess_12 13 rfl ?_
    refine q_i2l hX dX3_excess_13 14 rfl ?_
    refine q_lconst hX (1 : Int64) rfl dX3_excess_14 15 rfl ?_
    refine q_aload_n hX rfl dX3_excess_15 16 rfl ?_
    refine gf_X3_74 hX dX3_excess_16 19 rfl ?_
    refine q_iconst hX (1 : Int32) q_ki_1 dX3_excess_19 20 rfl ?_
    refine q_isub hX dX3_excess_20 21 rfl ?_
    refine q_i2l hX dX3_excess_21 22 rfl ?_
    refine cl_X3_77 hX  ⟨Nat.le_of_ble_eq_true rfl, Nat.le_of_ble_eq_true rfl⟩ (Nat.le_of_ble_eq_true rfl) dX3_excess_22 25 rfl (sn_X3_in (a1.toInt64) (1 : Int64) (((m_2 72 0) - (1 : Int32)).toInt64)  m_2 _ h) (fun r_5 m_6 h => ?_)
    refine q_if_ne hX dX3_excess_25 28 31 rfl (by decide) (fun c_7 => ?_) (fun c_7 => ?_)
    · replace h := h.1 c_7
      refine q_aload_n hX rfl dX3_excess_31 32 rfl ?_
      refine cl_X3_157 hX  ⟨Nat.le_of_ble_eq_true rfl, Nat.le_of_ble_eq_true rfl⟩ (Nat.le_of_ble_eq_true rfl) dX3_excess_32 35 rfl (sn_X3_plain   m_6 _ h) (fun m_9 h => ?_)
      refine q_aload_n hX rfl dX3_excess_35 36 rfl ?_
      refine q_iload_n hX rfl dX3_excess_36 37 rfl ?_
      refine q_iload_n hX rfl dX3_excess_37 38 rfl ?_
      refine cl_X3_160 hX  ⟨Nat.le_of_ble_eq_true rfl, Nat.le_of_ble_eq_true rfl⟩ (Nat.le_of_ble_eq_true rfl) dX3_excess_38 41 rfl (sn_X3_excessOf a0 a1  m_9 _ h) (fun r_10 m_11 h => ?_)
      exact q_iret hX dX3_excess_41 h
    · replace h := h.2 c_7
      refine q_bipush hX (-101 : Int32) q_kb_m101 dX3_excess_28 30 rfl ?_
      exact q_iret hX dX3_excess_30 h
  · replace h := h.2 c_4
    refine q_iload_n hX rfl dX3_excess_10 11 rfl ?_
    exact q_iret hX dX3_excess_11 h
set_option maxRecDepth 100000 in
set_option maxHeartbeats 4000000 in
theorem sn_X3_excess {l : Launch} {G : q_G} (a0 : Int32) (a1 : Int32)  (mem : q_Mem) (Q : Int32 → q_Mem → Prop) (h : wp_X3_excess a0 a1 mem Q) : q_MI l G yX3_excess cX3_excess 4 (some .int) rm_X3_excess [.ref (q_ad G 72), .int a0, .int a1] mem Q := by
  refine q_metI 1 (by decide +kernel) (Nat.le_of_ble_eq_true rfl) rfl (fun X hl hX => ?_)
  subst hl
  exact sn_X3_excess_0 hX a0 a1  Q mem h

-- X3_fair
def wp_X3_fair    (mem : q_Mem) (Q : Int32 → q_Mem → Prop) : Prop := ∀ x1_1 : Int32, x1_1 = (mem 72 11) → ∀ m_2 : q_Mem, m_2 = q_set mem 72 (upd (mem 72) 11 (0 : Int32)) → ∀ m_3 : q_Mem, m_3 = q_set m_2 72 (upd (m_2 72) 12 (0 : Int32)) → Q x1_1 m_3
set_option maxRecDepth 100000 in
set_option maxHeartbeats 4000000 in
theorem sn_X3_fair_0 {X : q_X} {G : q_G} (hX : q_C X cX3_fair 2 RX3 (some .int) 0 0)    (Q : Int32 → q_Mem → Prop)  (mem : q_Mem) (h : wp_X3_fair    mem Q) : q_J X G 2 (q_QI X G Q) 0 [some (.ref (q_ad G 72)), none] [] mem := by
  unfold wp_X3_fair at h
  refine q_aload_n hX rfl dX3_fair_0 1 rfl ?_
  refine gf_X3_108 hX dX3_fair_1 4 rfl ?_
  refine q_istore_n hX dX3_fair_4 5 rfl (Nat.le_of_ble_eq_true rfl) rfl (fun y => [some (.ref (q_ad G 72)), some (.int y)]) (fun _ => rfl) (fun x1_1 ex1_1 => ?_)
  replace h := h x1_1 ex1_1
  refine q_aload_n hX rfl dX3_fair_5 6 rfl ?_
  refine q_iconst hX (0 : Int32) q_ki_0 dX3_fair_6 7 rfl ?_
  refine pf_X3_108 hX dX3_fair_7 10 rfl (fun m_2 em_2 => ?_)
  replace h := h m_2 em_2
  refine q_aload_n hX rfl dX3_fair_10 11 rfl ?_
  refine q_iconst hX (0 : Int32) q_ki_0 dX3_fair_11 12 rfl ?_
  refine pf_X3_111 hX dX3_fair_12 15 rfl (fun m_3 em_3 => ?_)
  replace h := h m_3 em_3
  refine q_iload_n hX rfl dX3_fair_15 16 rfl ?_
  exact q_iret hX dX3_fair_16 h
set_option maxRecDepth 100000 in
set_option maxHeartbeats 4000000 in
theorem sn_X3_fair {l : Launch} {G : q_G}   (mem : q_Mem) (Q : Int32 → q_Mem → Prop) (h : wp_X3_fair  mem Q) : q_MI l G yX3_fair cX3_fair 2 (some .int) rm_X3_fair [.ref (q_ad G 72)] mem Q := by
  refine q_metI 1 (by decide +kernel) (Nat.le_of_ble_eq_true rfl) rfl (fun X hl hX => ?_)
  subst hl
  exact sn_X3_fair_0 hX   Q mem h

-- X3_heatOf
def wp_X3_heatOf_24  (a0 : Int32) (x2 : Int32) (mem : q_Mem) (Q : Int32 → q_Mem → Prop) : Prop := Q x2 mem
def wp_X3_heatOf_4_b (K4 : Int32 → Int32 → q_Mem → Prop) (a0 : Int32) (x2 : Int32) (x3 : Int32) (mem : q_Mem) (Q : Int32 → q_Mem → Prop) : Prop := ((a0 ≤ x3) → wp_X3_heatOf_24  a0 x2 mem Q) ∧ ((¬ a0 ≤ x3) → vp_in x3 (q_al 75) ∧ (∀ x2_3 : Int32, x2_3 = (x2 + (mem 75 x3.toNatClampNeg)) → ∀ x3_4 : Int32, x3_4 = (x3 + (1 : Int32)) → K4 x2_3 x3_4 mem))
def wp_X3_heatOf_4  (a0 : Int32) (x2 : Int32) (x3 : Int32) (mem : q_Mem) (Q : Int32 → q_Mem → Prop) : Prop := ∃ I : Nat → Int32 → Int32 → q_Mem → Prop, (∃ n, I n x2 x3 mem) ∧ ∀ (n : Nat) (yx2 : Int32) (yx3 : Int32) (ymem : q_Mem), I n yx2 yx3 ymem → wp_X3_heatOf_4_b  (fun (zx2 : Int32) (zx3 : Int32) (zmem : q_Mem) => ∃ n2, n2 < n ∧ I n2 zx2 zx3 zmem) a0 yx2 yx3 ymem Q
def wp_X3_heatOf  (a0 : Int32)  (mem : q_Mem) (Q : Int32 → q_Mem → Prop) : Prop := wp_X3_heatOf_4  a0 (0 : Int32) (0 : Int32) mem Q
set_option maxRecDepth 100000 in
set_option maxHeartbeats 4000000 in
theorem sn_X3_heatOf_24 {X : q_X} {G : q_G} (hX : q_C X cX3_heatOf 4 RX3 (some .int) 0 0) (a0 : Int32)  (x2 : Int32) (Q : Int32 → q_Mem → Prop)  (mem : q_Mem) (h : wp_X3_heatOf_24  a0 x2 mem Q) : q_J X G 4 (q_QI X G Q) 24 [some (.ref (q_ad G 72)), some (.int a0), some (.int x2), none] [] mem := by
  unfold wp_X3_heatOf_24 at h
  refine q_iload_n hX rfl dX3_heatOf_24 25 rfl ?_
  exact q_iret hX dX3_heatOf_25 h
set_option maxRecDepth 100000 in
set_option maxHeartbeats 4000000 in
theorem sn_X3_heatOf_4_b {X : q_X} {G : q_G} (hX : q_C X cX3_heatOf 4 RX3 (some .int) 0 0) (a0 : Int32)  (x2 : Int32) (x3 : Int32) (Q : Int32 → q_Mem → Prop) (K4 : Int32 → Int32 → q_Mem → Prop) (hK4 : ∀ (yx2 : Int32) (yx3 : Int32) (ymem : q_Mem), K4 yx2 yx3 ymem → q_J X G 4 (q_QI X G Q) 4 [some (.ref (q_ad G 72)), some (.int a0), some (.int yx2), some (.int yx3)] [] ymem) (mem : q_Mem) (h : wp_X3_heatOf_4_b K4 a0 x2 x3 mem Q) : q_J X G 4 (q_QI X G Q) 4 [some (.ref (q_ad G 72)), some (.int a0), some (.int x2), some (.int x3)] [] mem := by
  unfold wp_X3_heatOf_4_b at h
  refine q_iload_n hX rfl dX3_heatOf_4 5 rfl ?_
  refine q_iload_n hX rfl dX3_heatOf_5 6 rfl ?_
  refine q_icmp_ge hX dX3_heatOf_6 9 24 rfl (by decide) (fun c_1 => ?_) (fun c_1 => ?_)
  · replace h := h.1 c_1
    exact q_weak [true, true, true, false] rfl (sn_X3_heatOf_24 hX  a0  x2 Q  mem h)
  · replace h := h.2 c_1
    refine q_iload_n hX rfl dX3_heatOf_9 10 rfl ?_
    refine q_aload_n hX rfl dX3_heatOf_10 11 rfl ?_
    refine gf_X3_16 hX dX3_heatOf_11 14 rfl ?_
    refine q_iload_n hX rfl dX3_heatOf_14 15 rfl ?_
    obtain ⟨g_2, h⟩ := h
    refine q_iald hX g_2 dX3_heatOf_15 16 rfl ?_
    refine q_iadd hX dX3_heatOf_16 17 rfl ?_
    refine q_istore_n hX dX3_heatOf_17 18 rfl (Nat.le_of_ble_eq_true rfl) rfl (fun y => [some (.ref (q_ad G 72)), some (.int a0), some (.int y), some (.int x3)]) (fun _ => rfl) (fun x2_3 ex2_3 => ?_)
    replace h := h x2_3 ex2_3
    refine q_iinc hX (1 : Int32) q_ki_1 rfl dX3_heatOf_18 21 rfl (Nat.le_of_ble_eq_true rfl) rfl (fun y => [some (.ref (q_ad G 72)), some (.int a0), some (.int x2_3), some (.int y)]) (fun _ => rfl) (fun x3_4 ex3_4 => ?_)
    replace h := h x3_4 ex3_4
    refine q_goto hX dX3_heatOf_21 4 (by decide) ?_
    exact q_weak [true, true, true, true] rfl (hK4 x2_3 x3_4 mem h)
set_option maxRecDepth 100000 in
set_option maxHeartbeats 4000000 in
theorem sn_X3_heatOf_4 {X : q_X} {G : q_G} (hX : q_C X cX3_heatOf 4 RX3 (some .int) 0 0) (a0 : Int32)  (x2 : Int32) (x3 : Int32) (Q : Int32 → q_Mem → Prop)  (mem : q_Mem) (h : wp_X3_heatOf_4  a0 x2 x3 mem Q) : q_J X G 4 (q_QI X G Q) 4 [some (.ref (q_ad G 72)), some (.int a0), some (.int x2), some (.int x3)] [] mem := by
  obtain ⟨I, ⟨n, h0⟩, hs⟩ := h
  have key : ∀ (n : Nat) (yx2 : Int32) (yx3 : Int32) (ymem : q_Mem), I n yx2 yx3 ymem → q_J X G 4 (q_QI X G Q) 4 [some (.ref (q_ad G 72)), some (.int a0), some (.int yx2), some (.int yx3)] [] ymem := by
    intro n
    induction n using Nat.strongRecOn with
    | ind n ih =>
      intro yx2 yx3 ymem hI
      exact sn_X3_heatOf_4_b hX  a0  yx2 yx3 Q  (fun (zx2 : Int32) (zx3 : Int32) (zmem : q_Mem) => ∃ n2, n2 < n ∧ I n2 zx2 zx3 zmem) (fun zx2 zx3 zmem hz => by obtain ⟨n2, h1, h2⟩ := hz; exact ih n2 h1 zx2 zx3 zmem h2) ymem (hs n yx2 yx3 ymem hI)
  exact key n x2 x3 mem h0
set_option maxRecDepth 100000 in
set_option maxHeartbeats 4000000 in
theorem sn_X3_heatOf_0 {X : q_X} {G : q_G} (hX : q_C X cX3_heatOf 4 RX3 (some .int) 0 0) (a0 : Int32)   (Q : Int32 → q_Mem → Prop)  (mem : q_Mem) (h : wp_X3_heatOf  a0  mem Q) : q_J X G 4 (q_QI X G Q) 0 [some (.ref (q_ad G 72)), some (.int a0), none, none] [] mem := by
  unfold wp_X3_heatOf at h
  refine q_iconst hX (0 : Int32) q_ki_0 dX3_heatOf_0 1 rfl ?_
  refine q_istore_n hX dX3_heatOf_1 2 rfl (Nat.le_of_ble_eq_true rfl) rfl (fun y => [some (.ref (q_ad G 72)), some (.int a0), some (.int y), none]) (fun _ => rfl) (fun x2_1 ex2_1 => ?_)
  replace ex2_1 := ex2_1.symm; subst ex2_1
  refine q_iconst hX (0 : Int32) q_ki_0 dX3_heatOf_2 3 rfl ?_
  refine q_istore_n hX dX3_heatOf_3 4 rfl (Nat.le_of_ble_eq_true rfl) rfl (fun y => [some (.ref (q_ad G 72)), some (.int a0), some (.int (0 : Int32)), some (.int y)]) (fun _ => rfl) (fun x3_2 ex3_2 => ?_)
  replace ex3_2 := ex3_2.symm; subst ex3_2
  exact q_weak [true, true, true, true] rfl (sn_X3_heatOf_4 hX  a0  (0 : Int32) (0 : Int32) Q  mem h)
set_option maxRecDepth 100000 in
set_option maxHeartbeats 4000000 in
theorem sn_X3_heatOf {l : Launch} {G : q_G} (a0 : Int32)  (mem : q_Mem) (Q : Int32 → q_Mem → Prop) (h : wp_X3_heatOf a0 mem Q) : q_MI l G yX3_heatOf cX3_heatOf 4 (some .int) rm_X3_heatOf [.ref (q_ad G 72), .int a0] mem Q := by
  refine q_metI 2 (by decide +kernel) (Nat.le_of_ble_eq_true rfl) rfl (fun X hl hX => ?_)
  subst hl
  exact sn_X3_heatOf_0 hX a0  Q mem h

-- X3_goOn
def wp_X3_goOn_352    (mem : q_Mem) (Q : q_Mem → Prop) : Prop := (¬ (mem 72 11) = 0) ∧ (∀ m_2 : q_Mem, m_2 = q_set mem 72 (upd (mem 72) 12 (((mem 72 12) + (1 : Int32)) - ((mem 72 12) + (1 : Int32)) / (mem 72 11) * (mem 72 11))) → Q m_2)
def wp_X3_goOn_345 (K153 : Int32 → q_Mem → Prop)  (x4 : Int32) (x5 : Int32) (x6 : Int32) (x7 : Int32) (s3 : Int32) (s2 : Int32) (mem : q_Mem) (Q : q_Mem → Prop) : Prop := vp_in s2 (q_al 79) ∧ (∀ m_2 : q_Mem, m_2 = q_set mem 79 (upd (mem 79) s2.toNatClampNeg s3) → ∀ x7_3 : Int32, x7_3 = (x7 + (1 : Int32)) → K153 x7_3 m_2)
def wp_X3_goOn_297 (K153 : Int32 → q_Mem → Prop)  (x4 : Int32) (x5 : Int32) (x6 : Int32) (x7 : Int32) (s4 : Int32) (s3 : Int32) (s2 : Int32) (mem : q_Mem) (Q : q_Mem → Prop) : Prop := vp_in s2 (q_al 79) ∧ (∀ m_2 : q_Mem, m_2 = q_set mem 79 (upd (mem 79) s2.toNatClampNeg (s3 + s4)) → vp_in x7 (q_al 79) ∧ (((0 ≤ (m_2 79 x7.toNatClampNeg)) → vp_in x7 (q_al 79) ∧ ((((m_2 79 x7.toNatClampNeg) ≤ (1000 : Int32)) → vp_in x7 (q_al 79) ∧ (wp_X3_goOn_345 K153  x4 x5 x6 x7 (m_2 79 x7.toNatClampNeg) x7 m_2 Q)) ∧ ((¬ (m_2 79 x7.toNatClampNeg) ≤ (1000 : Int32)) → wp_X3_goOn_345 K153  x4 x5 x6 x7 (1000 : Int32) x7 m_2 Q))) ∧ ((¬ 0 ≤ (m_2 79 x7.toNatClampNeg)) → wp_X3_goOn_345 K153  x4 x5 x6 x7 (0 : Int32) x7 m_2 Q)))
def wp_X3_goOn_277 (K153 : Int32 → q_Mem → Prop)  (x4 : Int32) (x5 : Int32) (x6 : Int32) (x7 : Int32) (s1 : Int32) (mem : q_Mem) (Q : q_Mem → Prop) : Prop := vp_in x7 (q_al 79) ∧ (((s1 = 0) → wp_X3_goOn_297 K153  x4 x5 x6 x7 (-1 : Int32) (mem 79 x7.toNatClampNeg) x7 mem Q) ∧ ((¬ s1 = 0) → wp_X3_goOn_297 K153  x4 x5 x6 x7 (1 : Int32) (mem 79 x7.toNatClampNeg) x7 mem Q))
def wp_X3_goOn_276 (K153 : Int32 → q_Mem → Prop)  (x4 : Int32) (x5 : Int32) (x6 : Int32) (x7 : Int32) (mem : q_Mem) (Q : q_Mem → Prop) : Prop := wp_X3_goOn_277 K153  x4 x5 x6 x7 (0 : Int32) mem Q
def wp_X3_goOn_247 (K153 : Int32 → q_Mem → Prop)  (x4 : Int32) (x5 : Int32) (x6 : Int32) (x7 : Int32) (s4 : Int32) (s3 : Int32) (s2 : Int32) (mem : q_Mem) (Q : q_Mem → Prop) : Prop := vp_in s2 (q_al 78) ∧ (∀ m_2 : q_Mem, m_2 = q_set mem 78 (upd (mem 78) s2.toNatClampNeg (s3 + s4)) → wp_X3_damp x7 m_2 (fun r_3 m_4 => ((r_3 < (800 : Int32)) → wp_X3_goOn_276 K153  x4 x5 x6 x7 m_4 Q) ∧ ((¬ r_3 < (800 : Int32)) → vp_in x7 (q_al 80) ∧ ((((m_4 80 x7.toNatClampNeg) < (5 : Int32)) → wp_X3_goOn_276 K153  x4 x5 x6 x7 m_4 Q) ∧ ((¬ (m_4 80 x7.toNatClampNeg) < (5 : Int32)) → wp_X3_goOn_277 K153  x4 x5 x6 x7 (1 : Int32) m_4 Q)))))
def wp_X3_goOn_246 (K153 : Int32 → q_Mem → Prop)  (x4 : Int32) (x5 : Int32) (x6 : Int32) (x7 : Int32) (s3 : Int32) (s2 : Int32) (mem : q_Mem) (Q : q_Mem → Prop) : Prop := wp_X3_goOn_247 K153  x4 x5 x6 x7 (0 : Int32) s3 s2 mem Q
def wp_X3_goOn_153_b (K153 : Int32 → q_Mem → Prop)  (x4 : Int32) (x5 : Int32) (x6 : Int32) (x7 : Int32) (mem : q_Mem) (Q : q_Mem → Prop) : Prop := (((mem 72 0) ≤ x7) → wp_X3_goOn_352    mem Q) ∧ ((¬ (mem 72 0) ≤ x7) → wp_X3_heatOf x7 mem (fun r_2 m_3 => vp_in x7 (q_al 75) ∧ (wp_X3_floor ((x5 - x4) * (((2 : Int32) + ((2 : Int32) * r_2)) + (m_3 75 x7.toNatClampNeg))) x6 m_3 (fun r_5 m_6 => vp_in x7 (q_al 80) ∧ (∀ m_8 : q_Mem, m_8 = q_set m_6 80 (upd (m_6 80) x7.toNatClampNeg (x4 + r_5)) → vp_in x7 (q_al 78) ∧ (vp_in x7 (q_al 80) ∧ (((0 ≤ (m_8 80 x7.toNatClampNeg)) → wp_X3_goOn_246 K153  x4 x5 x6 x7 (m_8 78 x7.toNatClampNeg) x7 m_8 Q) ∧ ((¬ 0 ≤ (m_8 80 x7.toNatClampNeg)) → vp_in x7 (q_al 77) ∧ (vp_in x7 (q_al 73) ∧ (((((10 : Int32) * (m_8 77 x7.toNatClampNeg)) ≤ ((9 : Int32) * (m_8 73 x7.toNatClampNeg))) → wp_X3_goOn_246 K153  x4 x5 x6 x7 (m_8 78 x7.toNatClampNeg) x7 m_8 Q) ∧ ((¬ ((10 : Int32) * (m_8 77 x7.toNatClampNeg)) ≤ ((9 : Int32) * (m_8 73 x7.toNatClampNeg))) → wp_X3_goOn_247 K153  x4 x5 x6 x7 (1 : Int32) (m_8 78 x7.toNatClampNeg) x7 m_8 Q)))))))))))
def wp_X3_goOn_153   (x4 : Int32) (x5 : Int32) (x6 : Int32) (x7 : Int32) (mem : q_Mem) (Q : q_Mem → Prop) : Prop := ∃ I : Nat → Int32 → q_Mem → Prop, (∃ n, I n x7 mem) ∧ ∀ (n : Nat) (yx7 : Int32) (ymem : q_Mem), I n yx7 ymem → wp_X3_goOn_153_b  (fun (zx7 : Int32) (zmem : q_Mem) => ∃ n2, n2 < n ∧ I n2 zx7 zmem)  x4 x5 x6 yx7 ymem Q
def wp_X3_goOn_116   (x1 : Int32) (mem : q_Mem) (Q : q_Mem → Prop) : Prop := vp_in (x1 + (1 : Int32)) (q_al 83) ∧ (∀ x4_2 : Int32, x4_2 = (mem 83 (x1 + (1 : Int32)).toNatClampNeg) → vp_in (x1 + (4 : Int32)) (q_al 83) ∧ (∀ x5_4 : Int32, x5_4 = (mem 83 (x1 + (4 : Int32)).toNatClampNeg) → wp_X3_heatOf (mem 72 0) mem (fun r_5 m_6 => ∀ x6_7 : Int32, x6_7 = ((4 : Int32) + ((2 : Int32) * r_5)) → wp_X3_goOn_153   x4_2 x5_4 x6_7 (0 : Int32) m_6 Q)))
def wp_X3_goOn_94_b (K94 : Int32 → q_Mem → Prop)  (x1 : Int32) (x4 : Int32) (mem : q_Mem) (Q : q_Mem → Prop) : Prop := (((mem 72 0) < x4) → wp_X3_goOn_116   x1 mem Q) ∧ ((¬ (mem 72 0) < x4) → wp_X3_cross x4 x1 mem (fun m_3 => ∀ x4_4 : Int32, x4_4 = (x4 + (1 : Int32)) → K94 x4_4 m_3))
def wp_X3_goOn_94   (x1 : Int32) (x4 : Int32) (mem : q_Mem) (Q : q_Mem → Prop) : Prop := ∃ I : Nat → Int32 → q_Mem → Prop, (∃ n, I n x4 mem) ∧ ∀ (n : Nat) (yx4 : Int32) (ymem : q_Mem), I n yx4 ymem → wp_X3_goOn_94_b  (fun (zx4 : Int32) (zmem : q_Mem) => ∃ n2, n2 < n ∧ I n2 zx4 zmem)  x1 yx4 ymem Q
def wp_X3_goOn_58   (x1 : Int32) (x2 : Int32) (s1 : Int32) (mem : q_Mem) (Q : q_Mem → Prop) : Prop := vp_in (0 : Int32) (q_al 77) ∧ (vp_in (0 : Int32) (q_al 77) ∧ (∀ m_4 : q_Mem, m_4 = q_set mem 77 (upd (mem 77) (0 : Int32).toNatClampNeg ((mem 77 (0 : Int32).toNatClampNeg) + s1)) → vp_in (0 : Int32) (q_al 82) ∧ (vp_in (0 : Int32) (q_al 82) ∧ (∀ m_7 : q_Mem, m_7 = q_set m_4 82 (upd (m_4 82) (0 : Int32).toNatClampNeg ((m_4 82 (0 : Int32).toNatClampNeg) + s1)) → vp_in (1 : Int32) (q_al 82) ∧ (vp_in (1 : Int32) (q_al 82) ∧ (∀ m_10 : q_Mem, m_10 = q_set m_7 82 (upd (m_7 82) (1 : Int32).toNatClampNeg ((m_7 82 (1 : Int32).toNatClampNeg) + (x2 - s1))) → wp_X3_goOn_94   x1 (0 : Int32) m_10 Q))))))
def wp_X3_goOn    (mem : q_Mem) (Q : q_Mem → Prop) : Prop := ∀ x1_1 : Int32, x1_1 = ((5 : Int32) * (mem 72 12)) → vp_in (x1_1 + (2 : Int32)) (q_al 83) ∧ (∀ x2_3 : Int32, x2_3 = (((mem 83 (x1_1 + (2 : Int32)).toNatClampNeg) * (mem 72 13)) / (10 : Int32)) → vp_in (0 : Int32) (q_al 73) ∧ (vp_in (0 : Int32) (q_al 77) ∧ (((x2_3 ≤ ((mem 73 (0 : Int32).toNatClampNeg) - (mem 77 (0 : Int32).toNatClampNeg))) → wp_X3_goOn_58   x1_1 x2_3 x2_3 mem Q) ∧ ((¬ x2_3 ≤ ((mem 73 (0 : Int32).toNatClampNeg) - (mem 77 (0 : Int32).toNatClampNeg))) → vp_in (0 : Int32) (q_al 73) ∧ (vp_in (0 : Int32) (q_al 77) ∧ (wp_X3_goOn_58   x1_1 x2_3 ((mem 73 (0 : Int32).toNatClampNeg) - (mem 77 (0 : Int32).toNatClampNeg)) mem Q))))))
set_option maxRecDepth 100000 in
set_option maxHeartbeats 4000000 in
theorem sn_X3_goOn_352 {X : q_X} {G : q_G} (hX : q_C X cX3_goOn 9 RX3 none 2 49)    (Q : q_Mem → Prop)  (mem : q_Mem) (h : wp_X3_goOn_352    mem Q) : q_J X G 9 (q_QV X G Q) 352 [some (.ref (q_ad G 72)), none, none, none, none, none, none, none, none] [] mem := by
  unfold wp_X3_goOn_352 at h
  refine q_aload_n hX rfl dX3_goOn_352 353 rfl ?_
  refine q_aload_n hX rfl dX3_goOn_353 354 rfl ?_
  refine gf_X3_111 hX dX3_goOn_354 357 rfl ?_
  refine q_iconst hX (1 : Int32) q_ki_1 dX3_goOn_357 358 rfl ?_
  refine q_iadd hX dX3_goOn_358 359 rfl ?_
  refine q_aload_n hX rfl dX3_goOn_359 360 rfl ?_
  refine gf_X3_108 hX dX3_goOn_360 363 rfl ?_
  obtain ⟨g_1, h⟩ := h
  refine q_irem hX g_1 dX3_goOn_363 364 rfl ?_
  refine pf_X3_111 hX dX3_goOn_364 367 rfl (fun m_2 em_2 => ?_)
  replace h := h m_2 em_2
  exact q_vret hX dX3_goOn_367 h
set_option maxRecDepth 100000 in
set_option maxHeartbeats 4000000 in
theorem sn_X3_goOn_345 {X : q_X} {G : q_G} (hX : q_C X cX3_goOn 9 RX3 none 2 49)   (x4 : Int32) (x5 : Int32) (x6 : Int32) (x7 : Int32) (s3 : Int32) (s2 : Int32) (Q : q_Mem → Prop) (K153 : Int32 → q_Mem → Prop) (hK153 : ∀ (yx7 : Int32) (ymem : q_Mem), K153 yx7 ymem → q_J X G 9 (q_QV X G Q) 153 [some (.ref (q_ad G 72)), none, none, none, some (.int x4), some (.int x5), some (.int x6), some (.int yx7), none] [] ymem) (mem : q_Mem) (h : wp_X3_goOn_345 K153  x4 x5 x6 x7 s3 s2 mem Q) : q_J X G 9 (q_QV X G Q) 345 [some (.ref (q_ad G 72)), none, none, none, some (.int x4), some (.int x5), some (.int x6), some (.int x7), none] [.int s3, .int s2, .ref (q_ad G 79)] mem := by
  unfold wp_X3_goOn_345 at h
  obtain ⟨g_1, h⟩ := h
  refine q_iast hX g_1 dX3_goOn_345 346 rfl (fun m_2 em_2 => ?_)
  replace h := h m_2 em_2
  refine q_iinc hX (1 : Int32) q_ki_1 rfl dX3_goOn_346 349 rfl (Nat.le_of_ble_eq_true rfl) rfl (fun y => [some (.ref (q_ad G 72)), none, none, none, some (.int x4), some (.int x5), some (.int x6), some (.int y), none]) (fun _ => rfl) (fun x7_3 ex7_3 => ?_)
  replace h := h x7_3 ex7_3
  refine q_goto hX dX3_goOn_349 153 (by decide) ?_
  exact q_weak [true, false, false, false, true, true, true, true, false] rfl (hK153 x7_3 m_2 h)
set_option maxRecDepth 100000 in
set_option maxHeartbeats 4000000 in
theorem sn_X3_goOn_297 {X : q_X} {G : q_G} (hX : q_C X cX3_goOn 9 RX3 none 2 49)   (x4 : Int32) (x5 : Int32) (x6 : Int32) (x7 : Int32) (s4 : Int32) (s3 : Int32) (s2 : Int32) (Q : q_Mem → Prop) (K153 : Int32 → q_Mem → Prop) (hK153 : ∀ (yx7 : Int32) (ymem : q_Mem), K153 yx7 ymem → q_J X G 9 (q_QV X G Q) 153 [some (.ref (q_ad G 72)), none, none, none, some (.int x4), some (.int x5), some (.int x6), some (.int yx7), none] [] ymem) (mem : q_Mem) (h : wp_X3_goOn_297 K153  x4 x5 x6 x7 s4 s3 s2 mem Q) : q_J X G 9 (q_QV X G Q) 297 [some (.ref (q_ad G 72)), none, none, none, some (.int x4), some (.int x5), some (.int x6), some (.int x7), none] [.int s4, .int s3, .int s2, .ref (q_ad G 79)] mem := by
  unfold wp_X3_goOn_297 at h
  refine q_iadd hX dX3_goOn_297 298 rfl ?_
  obtain ⟨g_1, h⟩ := h
  refine q_iast hX g_1 dX3_goOn_298 299 rfl (fun m_2 em_2 => ?_)
  replace h := h m_2 em_2
  refine q_aload_n hX rfl dX3_goOn_299 300 rfl ?_
  refine gf_X3_28 hX dX3_goOn_300 303 rfl ?_
  refine q_iload hX rfl dX3_goOn_303 305 rfl ?_
  refine q_aload_n hX rfl dX3_goOn_305 306 rfl ?_
  refine gf_X3_28 hX dX3_goOn_306 309 rfl ?_
  refine q_iload hX rfl dX3_goOn_309 311 rfl ?_
  obtain ⟨g_3, h⟩ := h
  refine q_iald hX g_3 dX3_goOn_311 312 rfl ?_
  refine q_if_ge hX dX3_goOn_312 315 319 rfl (by decide) (fun c_4 => ?_) (fun c_4 => ?_)
  · replace h := h.1 c_4
    refine q_aload_n hX rfl dX3_goOn_319 320 rfl ?_
    refine gf_X3_28 hX dX3_goOn_320 323 rfl ?_
    refine q_iload hX rfl dX3_goOn_323 325 rfl ?_
    obtain ⟨g_5, h⟩ := h
    refine q_iald hX g_5 dX3_goOn_325 326 rfl ?_
    refine q_sipush hX (1000 : Int32) q_ks_1000 dX3_goOn_326 329 rfl ?_
    refine q_icmp_le hX dX3_goOn_329 332 338 rfl (by decide) (fun c_6 => ?_) (fun c_6 => ?_)
    · replace h := h.1 c_6
      refine q_aload_n hX rfl dX3_goOn_338 339 rfl ?_
      refine gf_X3_28 hX dX3_goOn_339 342 rfl ?_
      refine q_iload hX rfl dX3_goOn_342 344 rfl ?_
      obtain ⟨g_7, h⟩ := h
      refine q_iald hX g_7 dX3_goOn_344 345 rfl ?_
      exact q_weak [true, false, false, false, true, true, true, true, false] rfl (sn_X3_goOn_345 hX    x4 x5 x6 x7 (m_2 79 x7.toNatClampNeg) x7 Q K153 hK153 m_2 h)
    · replace h := h.2 c_6
      refine q_sipush hX (1000 : Int32) q_ks_1000 dX3_goOn_332 335 rfl ?_
      refine q_goto hX dX3_goOn_335 345 (by decide) ?_
      exact q_weak [true, false, false, false, true, true, true, true, false] rfl (sn_X3_goOn_345 hX    x4 x5 x6 x7 (1000 : Int32) x7 Q K153 hK153 m_2 h)
  · replace h := h.2 c_4
    refine q_iconst hX (0 : Int32) q_ki_0 dX3_goOn_315 316 rfl ?_
    refine q_goto hX dX3_goOn_316 345 (by decide) ?_
    exact q_weak [true, false, false, false, true, true, true, true, false] rfl (sn_X3_goOn_345 hX    x4 x5 x6 x7 (0 : Int32) x7 Q K153 hK153 m_2 h)
set_option maxRecDepth 100000 in
set_option maxHeartbeats 4000000 in
theorem sn_X3_goOn_277 {X : q_X} {G : q_G} (hX : q_C X cX3_goOn 9 RX3 none 2 49)   (x4 : Int32) (x5 : Int32) (x6 : Int32) (x7 : Int32) (s1 : Int32) (Q : q_Mem → Prop) (K153 : Int32 → q_Mem → Prop) (hK153 : ∀ (yx7 : Int32) (ymem : q_Mem), K153 yx7 ymem → q_J X G 9 (q_QV X G Q) 153 [some (.ref (q_ad G 72)), none, none, none, some (.int x4), some (.int x5), some (.int x6), some (.int yx7), none] [] ymem) (mem : q_Mem) (h : wp_X3_goOn_277 K153  x4 x5 x6 x7 s1 mem Q) : q_J X G 9 (q_QV X G Q) 277 [some (.ref (q_ad G 72)), none, none, none, some (.int x4), some (.int x5), some (.int x6), some (.int x7), none] [.int s1] mem := by
  unfold wp_X3_goOn_277 at h
  refine q_istore hX dX3_goOn_277 279 rfl (Nat.le_of_ble_eq_true rfl) rfl (fun y => [some (.ref (q_ad G 72)), none, none, none, some (.int x4), some (.int x5), some (.int x6), some (.int x7), some (.int y)]) (fun _ => rfl) (fun x8_1 ex8_1 => ?_)
  replace ex8_1 := ex8_1.symm; subst ex8_1
  refine q_aload_n hX rfl dX3_goOn_279 280 rfl ?_
  refine gf_X3_28 hX dX3_goOn_280 283 rfl ?_
  refine q_iload hX rfl dX3_goOn_283 285 rfl ?_
  refine q_dup2 hX rfl rfl dX3_goOn_285 286 rfl ?_
  obtain ⟨g_2, h⟩ := h
  refine q_iald hX g_2 dX3_goOn_286 287 rfl ?_
  refine q_iload hX rfl dX3_goOn_287 289 rfl ?_
  refine q_if_eq hX dX3_goOn_289 292 296 rfl (by decide) (fun c_3 => ?_) (fun c_3 => ?_)
  · replace h := h.1 c_3
    refine q_iconst hX (-1 : Int32) q_ki_m1 dX3_goOn_296 297 rfl ?_
    exact q_weak [true, false, false, false, true, true, true, true, false] rfl (sn_X3_goOn_297 hX    x4 x5 x6 x7 (-1 : Int32) (mem 79 x7.toNatClampNeg) x7 Q K153 hK153 mem h)
  · replace h := h.2 c_3
    refine q_iconst hX (1 : Int32) q_ki_1 dX3_goOn_292 293 rfl ?_
    refine q_goto hX dX3_goOn_293 297 (by decide) ?_
    exact q_weak [true, false, false, false, true, true, true, true, false] rfl (sn_X3_goOn_297 hX    x4 x5 x6 x7 (1 : Int32) (mem 79 x7.toNatClampNeg) x7 Q K153 hK153 mem h)
set_option maxRecDepth 100000 in
set_option maxHeartbeats 4000000 in
theorem sn_X3_goOn_276 {X : q_X} {G : q_G} (hX : q_C X cX3_goOn 9 RX3 none 2 49)   (x4 : Int32) (x5 : Int32) (x6 : Int32) (x7 : Int32) (Q : q_Mem → Prop) (K153 : Int32 → q_Mem → Prop) (hK153 : ∀ (yx7 : Int32) (ymem : q_Mem), K153 yx7 ymem → q_J X G 9 (q_QV X G Q) 153 [some (.ref (q_ad G 72)), none, none, none, some (.int x4), some (.int x5), some (.int x6), some (.int yx7), none] [] ymem) (mem : q_Mem) (h : wp_X3_goOn_276 K153  x4 x5 x6 x7 mem Q) : q_J X G 9 (q_QV X G Q) 276 [some (.ref (q_ad G 72)), none, none, none, some (.int x4), some (.int x5), some (.int x6), some (.int x7), none] [] mem := by
  unfold wp_X3_goOn_276 at h
  refine q_iconst hX (0 : Int32) q_ki_0 dX3_goOn_276 277 rfl ?_
  exact q_weak [true, false, false, false, true, true, true, true, false] rfl (sn_X3_goOn_277 hX    x4 x5 x6 x7 (0 : Int32) Q K153 hK153 mem h)
set_option maxRecDepth 100000 in
set_option maxHeartbeats 4000000 in
theorem sn_X3_goOn_247 {X : q_X} {G : q_G} (hX : q_C X cX3_goOn 9 RX3 none 2 49)   (x4 : Int32) (x5 : Int32) (x6 : Int32) (x7 : Int32) (s4 : Int32) (s3 : Int32) (s2 : Int32) (Q : q_Mem → Prop) (K153 : Int32 → q_Mem → Prop) (hK153 : ∀ (yx7 : Int32) (ymem : q_Mem), K153 yx7 ymem → q_J X G 9 (q_QV X G Q) 153 [some (.ref (q_ad G 72)), none, none, none, some (.int x4), some (.int x5), some (.int x6), some (.int yx7), none] [] ymem) (mem : q_Mem) (h : wp_X3_goOn_247 K153  x4 x5 x6 x7 s4 s3 s2 mem Q) : q_J X G 9 (q_QV X G Q) 247 [some (.ref (q_ad G 72)), none, none, none, some (.int x4), some (.int x5), some (.int x6), some (.int x7), none] [.int s4, .int s3, .int s2, .ref (q_ad G 78)] mem := by
  unfold wp_X3_goOn_247 at h
  refine q_iadd hX dX3_goOn_247 248 rfl ?_
  obtain ⟨g_1, h⟩ := h
  refine q_iast hX g_1 dX3_goOn_248 249 rfl (fun m_2 em_2 => ?_)
  replace h := h m_2 em_2
  refine q_aload_n hX rfl dX3_goOn_249 250 rfl ?_
  refine q_iload hX rfl dX3_goOn_250 252 rfl ?_
  refine cl_X3_96 hX  ⟨Nat.le_of_ble_eq_true rfl, Nat.le_of_ble_eq_true rfl⟩ (Nat.le_of_ble_eq_true rfl) dX3_goOn_252 255 rfl (sn_X3_damp x7  m_2 _ h) (fun r_3 m_4 h => ?_)
  refine q_sipush hX (800 : Int32) q_ks_800 dX3_goOn_255 258 rfl ?_
  refine q_icmp_lt hX dX3_goOn_258 261 276 rfl (by decide) (fun c_5 => ?_) (fun c_5 => ?_)
  · replace h := h.1 c_5
    exact q_weak [true, false, false, false, true, true, true, true, false] rfl (sn_X3_goOn_276 hX    x4 x5 x6 x7 Q K153 hK153 m_4 h)
  · replace h := h.2 c_5
    refine q_aload_n hX rfl dX3_goOn_261 262 rfl ?_
    refine gf_X3_31 hX dX3_goOn_262 265 rfl ?_
    refine q_iload hX rfl dX3_goOn_265 267 rfl ?_
    obtain ⟨g_6, h⟩ := h
    refine q_iald hX g_6 dX3_goOn_267 268 rfl ?_
    refine q_iconst hX (5 : Int32) q_ki_5 dX3_goOn_268 269 rfl ?_
    refine q_icmp_lt hX dX3_goOn_269 272 276 rfl (by decide) (fun c_7 => ?_) (fun c_7 => ?_)
    · replace h := h.1 c_7
      exact q_weak [true, false, false, false, true, true, true, true, false] rfl (sn_X3_goOn_276 hX    x4 x5 x6 x7 Q K153 hK153 m_4 h)
    · replace h := h.2 c_7
      refine q_iconst hX (1 : Int32) q_ki_1 dX3_goOn_272 273 rfl ?_
      refine q_goto hX dX3_goOn_273 277 (by decide) ?_
      exact q_weak [true, false, false, false, true, true, true, true, false] rfl (sn_X3_goOn_277 hX    x4 x5 x6 x7 (1 : Int32) Q K153 hK153 m_4 h)
set_option maxRecDepth 100000 in
set_option maxHeartbeats 4000000 in
theorem sn_X3_goOn_246 {X : q_X} {G : q_G} (hX : q_C X cX3_goOn 9 RX3 none 2 49)   (x4 : Int32) (x5 : Int32) (x6 : Int32) (x7 : Int32) (s3 : Int32) (s2 : Int32) (Q : q_Mem → Prop) (K153 : Int32 → q_Mem → Prop) (hK153 : ∀ (yx7 : Int32) (ymem : q_Mem), K153 yx7 ymem → q_J X G 9 (q_QV X G Q) 153 [some (.ref (q_ad G 72)), none, none, none, some (.int x4), some (.int x5), some (.int x6), some (.int yx7), none] [] ymem) (mem : q_Mem) (h : wp_X3_goOn_246 K153  x4 x5 x6 x7 s3 s2 mem Q) : q_J X G 9 (q_QV X G Q) 246 [some (.ref (q_ad G 72)), none, none, none, some (.int x4), some (.int x5), some (.int x6), some (.int x7), none] [.int s3, .int s2, .ref (q_ad G 78)] mem := by
  unfold wp_X3_goOn_246 at h
  refine q_iconst hX (0 : Int32) q_ki_0 dX3_goOn_246 247 rfl ?_
  exact q_weak [true, false, false, false, true, true, true, true, false] rfl (sn_X3_goOn_247 hX    x4 x5 x6 x7 (0 : Int32) s3 s2 Q K153 hK153 mem h)
set_option maxRecDepth 100000 in
set_option maxHeartbeats 4000000 in
theorem sn_X3_goOn_153_b {X : q_X} {G : q_G} (hX : q_C X cX3_goOn 9 RX3 none 2 49)   (x4 : Int32) (x5 : Int32) (x6 : Int32) (x7 : Int32) (Q : q_Mem → Prop) (K153 : Int32 → q_Mem → Prop) (hK153 : ∀ (yx7 : Int32) (ymem : q_Mem), K153 yx7 ymem → q_J X G 9 (q_QV X G Q) 153 [some (.ref (q_ad G 72)), none, none, none, some (.int x4), some (.int x5), some (.int x6), some (.int yx7), none] [] ymem) (mem : q_Mem) (h : wp_X3_goOn_153_b K153  x4 x5 x6 x7 mem Q) : q_J X G 9 (q_QV X G Q) 153 [some (.ref (q_ad G 72)), none, none, none, some (.int x4), some (.int x5), some (.int x6), some (.int x7), none] [] mem := by
  unfold wp_X3_goOn_153_b at h
  refine q_iload hX rfl dX3_goOn_153 155 rfl ?_
  refine q_aload_n hX rfl dX3_goOn_155 156 rfl ?_
  refine gf_X3_74 hX dX3_goOn_156 159 rfl ?_
  refine q_icmp_ge hX dX3_goOn_159 162 352 rfl (by decide) (fun c_1 => ?_) (fun c_1 => ?_)
  · replace h := h.1 c_1
    exact q_weak [true, false, false, false, false, false, false, false, false] rfl (sn_X3_goOn_352 hX     Q  mem h)
  · replace h := h.2 c_1
    refine q_aload_n hX rfl dX3_goOn_162 163 rfl ?_
    refine gf_X3_31 hX dX3_goOn_163 166 rfl ?_
    refine q_iload hX rfl dX3_goOn_166 168 rfl ?_
    refine q_iload hX rfl dX3_goOn_168 170 rfl ?_
    refine q_iload hX rfl dX3_goOn_170 172 rfl ?_
    refine q_iload hX rfl dX3_goOn_172 174 rfl ?_
    refine q_isub hX dX3_goOn_174 175 rfl ?_
    refine q_iconst hX (2 : Int32) q_ki_2 dX3_goOn_175 176 rfl ?_
    refine q_iconst hX (2 : Int32) q_ki_2 dX3_goOn_176 177 rfl ?_
    refine q_aload_n hX rfl dX3_goOn_177 178 rfl ?_
    refine q_iload hX rfl dX3_goOn_178 180 rfl ?_
    refine cl_X3_120 hX  ⟨Nat.le_of_ble_eq_true rfl, Nat.le_of_ble_eq_true rfl⟩ (Nat.le_of_ble_eq_true rfl) dX3_goOn_180 183 rfl (sn_X3_heatOf x7  mem _ h) (fun r_2 m_3 h => ?_)
    refine q_imul hX dX3_goOn_183 184 rfl ?_
    refine q_iadd hX dX3_goOn_184 185 rfl ?_
    refine q_aload_n hX rfl dX3_goOn_185 186 rfl ?_
    refine gf_X3_16 hX dX3_goOn_186 189 rfl ?_
    refine q_iload hX rfl dX3_goOn_189 191 rfl ?_
    obtain ⟨g_4, h⟩ := h
    refine q_iald hX g_4 dX3_goOn_191 192 rfl ?_
    refine q_iadd hX dX3_goOn_192 193 rfl ?_
    refine q_imul hX dX3_goOn_193 194 rfl ?_
    refine q_iload hX rfl dX3_goOn_194 196 rfl ?_
    refine cl_X3_123 hX  ⟨Nat.le_of_ble_eq_true rfl, Nat.le_of_ble_eq_true rfl⟩ (Nat.le_of_ble_eq_true rfl) dX3_goOn_196 199 rfl (sn_X3_floor ((x5 - x4) * (((2 : Int32) + ((2 : Int32) * r_2)) + (m_3 75 x7.toNatClampNeg))) x6  m_3 _ h) (fun r_5 m_6 h => ?_)
    refine q_iadd hX dX3_goOn_199 200 rfl ?_
    obtain ⟨g_7, h⟩ := h
    refine q_iast hX g_7 dX3_goOn_200 201 rfl (fun m_8 em_8 => ?_)
    replace h := h m_8 em_8
    refine q_aload_n hX rfl dX3_goOn_201 202 rfl ?_
    refine gf_X3_25 hX dX3_goOn_202 205 rfl ?_
    refine q_iload hX rfl dX3_goOn_205 207 rfl ?_
    refine q_dup2 hX rfl rfl dX3_goOn_207 208 rfl ?_
    obtain ⟨g_9, h⟩ := h
    refine q_iald hX g_9 dX3_goOn_208 209 rfl ?_
    refine q_aload_n hX rfl dX3_goOn_209 210 rfl ?_
    refine gf_X3_31 hX dX3_goOn_210 213 rfl ?_
    refine q_iload hX rfl dX3_goOn_213 215 rfl ?_
    obtain ⟨g_10, h⟩ := h
    refine q_iald hX g_10 dX3_goOn_215 216 rfl ?_
    refine q_if_ge hX dX3_goOn_216 219 246 rfl (by decide) (fun c_11 => ?_) (fun c_11 => ?_)
    · replace h := h.1 c_11
      exact q_weak [true, false, false, false, true, true, true, true, false] rfl (sn_X3_goOn_246 hX    x4 x5 x6 x7 (m_8 78 x7.toNatClampNeg) x7 Q K153 hK153 m_8 h)
    · replace h := h.2 c_11
      refine q_bipush hX (10 : Int32) q_kb_10 dX3_goOn_219 221 rfl ?_
      refine q_aload_n hX rfl dX3_goOn_221 222 rfl ?_
      refine gf_X3_22 hX dX3_goOn_222 225 rfl ?_
      refine q_iload hX rfl dX3_goOn_225 227 rfl ?_
      obtain ⟨g_12, h⟩ := h
      refine q_iald hX g_12 dX3_goOn_227 228 rfl ?_
      refine q_imul hX dX3_goOn_228 229 rfl ?_
      refine q_bipush hX (9 : Int32) q_kb_9 dX3_goOn_229 231 rfl ?_
      refine q_aload_n hX rfl dX3_goOn_231 232 rfl ?_
      refine gf_X3_7 hX dX3_goOn_232 235 rfl ?_
      refine q_iload hX rfl dX3_goOn_235 237 rfl ?_
      obtain ⟨g_13, h⟩ := h
      refine q_iald hX g_13 dX3_goOn_237 238 rfl ?_
      refine q_imul hX dX3_goOn_238 239 rfl ?_
      refine q_icmp_le hX dX3_goOn_239 242 246 rfl (by decide) (fun c_14 => ?_) (fun c_14 => ?_)
      · replace h := h.1 c_14
        exact q_weak [true, false, false, false, true, true, true, true, false] rfl (sn_X3_goOn_246 hX    x4 x5 x6 x7 (m_8 78 x7.toNatClampNeg) x7 Q K153 hK153 m_8 h)
      · replace h := h.2 c_14
        refine q_iconst hX (1 : Int32) q_ki_1 dX3_goOn_242 243 rfl ?_
        refine q_goto hX dX3_goOn_243 247 (by decide) ?_
        exact q_weak [true, false, false, false, true, true, true, true, false] rfl (sn_X3_goOn_247 hX    x4 x5 x6 x7 (1 : Int32) (m_8 78 x7.toNatClampNeg) x7 Q K153 hK153 m_8 h)
set_option maxRecDepth 100000 in
set_option maxHeartbeats 4000000 in
theorem sn_X3_goOn_153 {X : q_X} {G : q_G} (hX : q_C X cX3_goOn 9 RX3 none 2 49)   (x4 : Int32) (x5 : Int32) (x6 : Int32) (x7 : Int32) (Q : q_Mem → Prop)  (mem : q_Mem) (h : wp_X3_goOn_153   x4 x5 x6 x7 mem Q) : q_J X G 9 (q_QV X G Q) 153 [some (.ref (q_ad G 72)), none, none, none, some (.int x4), some (.int x5), some (.int x6), some (.int x7), none] [] mem := by
  obtain ⟨I, ⟨n, h0⟩, hs⟩ := h
  have key : ∀ (n : Nat) (yx7 : Int32) (ymem : q_Mem), I n yx7 ymem → q_J X G 9 (q_QV X G Q) 153 [some (.ref (q_ad G 72)), none, none, none, some (.int x4), some (.int x5), some (.int x6), some (.int yx7), none] [] ymem := by
    intro n
    induction n using Nat.strongRecOn with
    | ind n ih =>
      intro yx7 ymem hI
      exact sn_X3_goOn_153_b hX    x4 x5 x6 yx7 Q  (fun (zx7 : Int32) (zmem : q_Mem) => ∃ n2, n2 < n ∧ I n2 zx7 zmem) (fun zx7 zmem hz => by obtain ⟨n2, h1, h2⟩ := hz; exact ih n2 h1 zx7 zmem h2) ymem (hs n yx7 ymem hI)
  exact key n x7 mem h0
set_option maxRecDepth 100000 in
set_option maxHeartbeats 4000000 in
theorem sn_X3_goOn_116 {X : q_X} {G : q_G} (hX : q_C X cX3_goOn 9 RX3 none 2 49)   (x1 : Int32) (Q : q_Mem → Prop)  (mem : q_Mem) (h : wp_X3_goOn_116   x1 mem Q) : q_J X G 9 (q_QV X G Q) 116 [some (.ref (q_ad G 72)), some (.int x1), none, none, none, none, none, none, none] [] mem := by
  unfold wp_X3_goOn_116 at h
  refine q_aload_n hX rfl dX3_goOn_116 117 rfl ?_
  refine gf_X3_40 hX dX3_goOn_117 120 rfl ?_
  refine q_iload_n hX rfl dX3_goOn_120 121 rfl ?_
  refine q_iconst hX (1 : Int32) q_ki_1 dX3_goOn_121 122 rfl ?_
  refine q_iadd hX dX3_goOn_122 123 rfl ?_
  obtain ⟨g_1, h⟩ := h
  refine q_iald hX g_1 dX3_goOn_123 124 rfl ?_
  refine q_istore hX dX3_goOn_124 126 rfl (Nat.le_of_ble_eq_true rfl) rfl (fun y => [some (.ref (q_ad G 72)), some (.int x1), none, none, some (.int y), none, none, none, none]) (fun _ => rfl) (fun x4_2 ex4_2 => ?_)
  replace h := h x4_2 ex4_2
  refine q_aload_n hX rfl dX3_goOn_126 127 rfl ?_
  refine gf_X3_40 hX dX3_goOn_127 130 rfl ?_
  refine q_iload_n hX rfl dX3_goOn_130 131 rfl ?_
  refine q_iconst hX (4 : Int32) q_ki_4 dX3_goOn_131 132 rfl ?_
  refine q_iadd hX dX3_goOn_132 133 rfl ?_
  obtain ⟨g_3, h⟩ := h
  refine q_iald hX g_3 dX3_goOn_133 134 rfl ?_
  refine q_istore hX dX3_goOn_134 136 rfl (Nat.le_of_ble_eq_true rfl) rfl (fun y => [some (.ref (q_ad G 72)), some (.int x1), none, none, some (.int x4_2), some (.int y), none, none, none]) (fun _ => rfl) (fun x5_4 ex5_4 => ?_)
  replace h := h x5_4 ex5_4
  refine q_iconst hX (4 : Int32) q_ki_4 dX3_goOn_136 137 rfl ?_
  refine q_iconst hX (2 : Int32) q_ki_2 dX3_goOn_137 138 rfl ?_
  refine q_aload_n hX rfl dX3_goOn_138 139 rfl ?_
  refine q_aload_n hX rfl dX3_goOn_139 140 rfl ?_
  refine gf_X3_74 hX dX3_goOn_140 143 rfl ?_
  refine cl_X3_120 hX  ⟨Nat.le_of_ble_eq_true rfl, Nat.le_of_ble_eq_true rfl⟩ (Nat.le_of_ble_eq_true rfl) dX3_goOn_143 146 rfl (sn_X3_heatOf (mem 72 0)  mem _ h) (fun r_5 m_6 h => ?_)
  refine q_imul hX dX3_goOn_146 147 rfl ?_
  refine q_iadd hX dX3_goOn_147 148 rfl ?_
  refine q_istore hX dX3_goOn_148 150 rfl (Nat.le_of_ble_eq_true rfl) rfl (fun y => [some (.ref (q_ad G 72)), some (.int x1), none, none, some (.int x4_2), some (.int x5_4), some (.int y), none, none]) (fun _ => rfl) (fun x6_7 ex6_7 => ?_)
  replace h := h x6_7 ex6_7
  refine q_iconst hX (0 : Int32) q_ki_0 dX3_goOn_150 151 rfl ?_
  refine q_istore hX dX3_goOn_151 153 rfl (Nat.le_of_ble_eq_true rfl) rfl (fun y => [some (.ref (q_ad G 72)), some (.int x1), none, none, some (.int x4_2), some (.int x5_4), some (.int x6_7), some (.int y), none]) (fun _ => rfl) (fun x7_8 ex7_8 => ?_)
  replace ex7_8 := ex7_8.symm; subst ex7_8
  exact q_weak [true, false, false, false, true, true, true, true, false] rfl (sn_X3_goOn_153 hX    x4_2 x5_4 x6_7 (0 : Int32) Q  m_6 h)
set_option maxRecDepth 100000 in
set_option maxHeartbeats 4000000 in
theorem sn_X3_goOn_94_b {X : q_X} {G : q_G} (hX : q_C X cX3_goOn 9 RX3 none 2 49)   (x1 : Int32) (x4 : Int32) (Q : q_Mem → Prop) (K94 : Int32 → q_Mem → Prop) (hK94 : ∀ (yx4 : Int32) (ymem : q_Mem), K94 yx4 ymem → q_J X G 9 (q_QV X G Q) 94 [some (.ref (q_ad G 72)), some (.int x1), none, none, some (.int yx4), none, none, none, none] [] ymem) (mem : q_Mem) (h : wp_X3_goOn_94_b K94  x1 x4 mem Q) : q_J X G 9 (q_QV X G Q) 94 [some (.ref (q_ad G 72)), some (.int x1), none, none, some (.int x4), none, none, none, none] [] mem := by
  unfold wp_X3_goOn_94_b at h
  refine q_iload hX rfl dX3_goOn_94 96 rfl ?_
  refine q_aload_n hX rfl dX3_goOn_96 97 rfl ?_
  refine gf_X3_74 hX dX3_goOn_97 100 rfl ?_
  refine q_icmp_gt hX dX3_goOn_100 103 116 rfl (by decide) (fun c_1 => ?_) (fun c_1 => ?_)
  · replace h := h.1 c_1
    exact q_weak [true, true, false, false, false, false, false, false, false] rfl (sn_X3_goOn_116 hX    x1 Q  mem h)
  · replace h := h.2 c_1
    refine q_aload_n hX rfl dX3_goOn_103 104 rfl ?_
    refine q_iload hX rfl dX3_goOn_104 106 rfl ?_
    refine q_iload_n hX rfl dX3_goOn_106 107 rfl ?_
    refine cl_X3_116 hX  ⟨Nat.le_of_ble_eq_true rfl, Nat.le_of_ble_eq_true rfl⟩ (Nat.le_of_ble_eq_true rfl) dX3_goOn_107 110 rfl (sn_X3_cross x4 x1  mem _ h) (fun m_3 h => ?_)
    refine q_iinc hX (1 : Int32) q_ki_1 rfl dX3_goOn_110 113 rfl (Nat.le_of_ble_eq_true rfl) rfl (fun y => [some (.ref (q_ad G 72)), some (.int x1), none, none, some (.int y), none, none, none, none]) (fun _ => rfl) (fun x4_4 ex4_4 => ?_)
    replace h := h x4_4 ex4_4
    refine q_goto hX dX3_goOn_113 94 (by decide) ?_
    exact q_weak [true, true, false, false, true, false, false, false, false] rfl (hK94 x4_4 m_3 h)
set_option maxRecDepth 100000 in
set_option maxHeartbeats 4000000 in
theorem sn_X3_goOn_94 {X : q_X} {G : q_G} (hX : q_C X cX3_goOn 9 RX3 none 2 49)   (x1 : Int32) (x4 : Int32) (Q : q_Mem → Prop)  (mem : q_Mem) (h : wp_X3_goOn_94   x1 x4 mem Q) : q_J X G 9 (q_QV X G Q) 94 [some (.ref (q_ad G 72)), some (.int x1), none, none, some (.int x4), none, none, none, none] [] mem := by
  obtain ⟨I, ⟨n, h0⟩, hs⟩ := h
  have key : ∀ (n : Nat) (yx4 : Int32) (ymem : q_Mem), I n yx4 ymem → q_J X G 9 (q_QV X G Q) 94 [some (.ref (q_ad G 72)), some (.int x1), none, none, some (.int yx4), none, none, none, none] [] ymem := by
    intro n
    induction n using Nat.strongRecOn with
    | ind n ih =>
      intro yx4 ymem hI
      exact sn_X3_goOn_94_b hX    x1 yx4 Q  (fun (zx4 : Int32) (zmem : q_Mem) => ∃ n2, n2 < n ∧ I n2 zx4 zmem) (fun zx4 zmem hz => by obtain ⟨n2, h1, h2⟩ := hz; exact ih n2 h1 zx4 zmem h2) ymem (hs n yx4 ymem hI)
  exact key n x4 mem h0
set_option maxRecDepth 100000 in
set_option maxHeartbeats 4000000 in
theorem sn_X3_goOn_58 {X : q_X} {G : q_G} (hX : q_C X cX3_goOn 9 RX3 none 2 49)   (x1 : Int32) (x2 : Int32) (s1 : Int32) (Q : q_Mem → Prop)  (mem : q_Mem) (h : wp_X3_goOn_58   x1 x2 s1 mem Q) : q_J X G 9 (q_QV X G Q) 58 [some (.ref (q_ad G 72)), some (.int x1), some (.int x2), none, none, none, none, none, none] [.int s1] mem := by
  unfold wp_X3_goOn_58 at h
  refine q_istore_n hX dX3_goOn_58 59 rfl (Nat.le_of_ble_eq_true rfl) rfl (fun y => [some (.ref (q_ad G 72)), some (.int x1), some (.int x2), some (.int y), none, none, none, none, none]) (fun _ => rfl) (fun x3_1 ex3_1 => ?_)
  replace ex3_1 := ex3_1.symm; subst ex3_1
  refine q_aload_n hX rfl dX3_goOn_59 60 rfl ?_
  refine gf_X3_22 hX dX3_goOn_60 63 rfl ?_
  refine q_iconst hX (0 : Int32) q_ki_0 dX3_goOn_63 64 rfl ?_
  refine q_dup2 hX rfl rfl dX3_goOn_64 65 rfl ?_
  obtain ⟨g_2, h⟩ := h
  refine q_iald hX g_2 dX3_goOn_65 66 rfl ?_
  refine q_iload_n hX rfl dX3_goOn_66 67 rfl ?_
  refine q_iadd hX dX3_goOn_67 68 rfl ?_
  obtain ⟨g_3, h⟩ := h
  refine q_iast hX g_3 dX3_goOn_68 69 rfl (fun m_4 em_4 => ?_)
  replace h := h m_4 em_4
  refine q_aload_n hX rfl dX3_goOn_69 70 rfl ?_
  refine gf_X3_37 hX dX3_goOn_70 73 rfl ?_
  refine q_iconst hX (0 : Int32) q_ki_0 dX3_goOn_73 74 rfl ?_
  refine q_dup2 hX rfl rfl dX3_goOn_74 75 rfl ?_
  obtain ⟨g_5, h⟩ := h
  refine q_iald hX g_5 dX3_goOn_75 76 rfl ?_
  refine q_iload_n hX rfl dX3_goOn_76 77 rfl ?_
  refine q_iadd hX dX3_goOn_77 78 rfl ?_
  obtain ⟨g_6, h⟩ := h
  refine q_iast hX g_6 dX3_goOn_78 79 rfl (fun m_7 em_7 => ?_)
  replace h := h m_7 em_7
  refine q_aload_n hX rfl dX3_goOn_79 80 rfl ?_
  refine gf_X3_37 hX dX3_goOn_80 83 rfl ?_
  refine q_iconst hX (1 : Int32) q_ki_1 dX3_goOn_83 84 rfl ?_
  refine q_dup2 hX rfl rfl dX3_goOn_84 85 rfl ?_
  obtain ⟨g_8, h⟩ := h
  refine q_iald hX g_8 dX3_goOn_85 86 rfl ?_
  refine q_iload_n hX rfl dX3_goOn_86 87 rfl ?_
  refine q_iload_n hX rfl dX3_goOn_87 88 rfl ?_
  refine q_isub hX dX3_goOn_88 89 rfl ?_
  refine q_iadd hX dX3_goOn_89 90 rfl ?_
  obtain ⟨g_9, h⟩ := h
  refine q_iast hX g_9 dX3_goOn_90 91 rfl (fun m_10 em_10 => ?_)
  replace h := h m_10 em_10
  refine q_iconst hX (0 : Int32) q_ki_0 dX3_goOn_91 92 rfl ?_
  refine q_istore hX dX3_goOn_92 94 rfl (Nat.le_of_ble_eq_true rfl) rfl (fun y => [some (.ref (q_ad G 72)), some (.int x1), some (.int x2), some (.int s1), some (.int y), none, none, none, none]) (fun _ => rfl) (fun x4_11 ex4_11 => ?_)
  replace ex4_11 := ex4_11.symm; subst ex4_11
  exact q_weak [true, true, false, false, true, false, false, false, false] rfl (sn_X3_goOn_94 hX    x1 (0 : Int32) Q  m_10 h)
set_option maxRecDepth 100000 in
set_option maxHeartbeats 4000000 in
theorem sn_X3_goOn_0 {X : q_X} {G : q_G} (hX : q_C X cX3_goOn 9 RX3 none 2 49)    (Q : q_Mem → Prop)  (mem : q_Mem) (h : wp_X3_goOn    mem Q) : q_J X G 9 (q_QV X G Q) 0 [some (.ref (q_ad G 72)), none, none, none, none, none, none, none, none] [] mem := by
  unfold wp_X3_goOn at h
  refine q_iconst hX (5 : Int32) q_ki_5 dX3_goOn_0 1 rfl ?_
  refine q_aload_n hX rfl dX3_goOn_1 2 rfl ?_
  refine gf_X3_111 hX dX3_goOn_2 5 rfl ?_
  refine q_imul hX dX3_goOn_5 6 rfl ?_
  refine q_istore_n hX dX3_goOn_6 7 rfl (Nat.le_of_ble_eq_true rfl) rfl (fun y => [some (.ref (q_ad G 72)), some (.int y), none, none, none, none, none, none, none]) (fun _ => rfl) (fun x1_1 ex1_1 => ?_)
  replace h := h x1_1 ex1_1
  refine q_aload_n hX rfl dX3_goOn_7 8 rfl ?_
  refine gf_X3_40 hX dX3_goOn_8 11 rfl ?_
  refine q_iload_n hX rfl dX3_goOn_11 12 rfl ?_
  refine q_iconst hX (2 : Int32) q_ki_2 dX3_goOn_12 13 rfl ?_
  refine q_iadd hX dX3_goOn_13 14 rfl ?_
  obtain ⟨g_2, h⟩ := h
  refine q_iald hX g_2 dX3_goOn_14 15 rfl ?_
  refine q_aload_n hX rfl dX3_goOn_15 16 rfl ?_
  refine gf_X3_70 hX dX3_goOn_16 19 rfl ?_
  refine q_imul hX dX3_goOn_19 20 rfl ?_
  refine q_bipush hX (10 : Int32) q_kb_10 dX3_goOn_20 22 rfl ?_
  refine q_idiv hX (by decide) dX3_goOn_22 23 rfl ?_
  refine q_istore_n hX dX3_goOn_23 24 rfl (Nat.le_of_ble_eq_true rfl) rfl (fun y => [some (.ref (q_ad G 72)), some (.int x1_1), some (.int y), none, none, none, none, none, none]) (fun _ => rfl) (fun x2_3 ex2_3 => ?_)
  replace h := h x2_3 ex2_3
  refine q_iload_n hX rfl dX3_goOn_24 25 rfl ?_
  refine q_aload_n hX rfl dX3_goOn_25 26 rfl ?_
  refine gf_X3_7 hX dX3_goOn_26 29 rfl ?_
  refine q_iconst hX (0 : Int32) q_ki_0 dX3_goOn_29 30 rfl ?_
  obtain ⟨g_4, h⟩ := h
  refine q_iald hX g_4 dX3_goOn_30 31 rfl ?_
  refine q_aload_n hX rfl dX3_goOn_31 32 rfl ?_
  refine gf_X3_22 hX dX3_goOn_32 35 rfl ?_
  refine q_iconst hX (0 : Int32) q_ki_0 dX3_goOn_35 36 rfl ?_
  obtain ⟨g_5, h⟩ := h
  refine q_iald hX g_5 dX3_goOn_36 37 rfl ?_
  refine q_isub hX dX3_goOn_37 38 rfl ?_
  refine q_icmp_le hX dX3_goOn_38 41 57 rfl (by decide) (fun c_6 => ?_) (fun c_6 => ?_)
  · replace h := h.1 c_6
    refine q_iload_n hX rfl dX3_goOn_57 58 rfl ?_
    exact q_weak [true, true, true, false, false, false, false, false, false] rfl (sn_X3_goOn_58 hX    x1_1 x2_3 x2_3 Q  mem h)
  · replace h := h.2 c_6
    refine q_aload_n hX rfl dX3_goOn_41 42 rfl ?_
    refine gf_X3_7 hX dX3_goOn_42 45 rfl ?_
    refine q_iconst hX (0 : Int32) q_ki_0 dX3_goOn_45 46 rfl ?_
    obtain ⟨g_7, h⟩ := h
    refine q_iald hX g_7 dX3_goOn_46 47 rfl ?_
    refine q_aload_n hX rfl dX3_goOn_47 48 rfl ?_
    refine gf_X3_22 hX dX3_goOn_48 51 rfl ?_
    refine q_iconst hX (0 : Int32) q_ki_0 dX3_goOn_51 52 rfl ?_
    obtain ⟨g_8, h⟩ := h
    refine q_iald hX g_8 dX3_goOn_52 53 rfl ?_
    refine q_isub hX dX3_goOn_53 54 rfl ?_
    refine q_goto hX dX3_goOn_54 58 (by decide) ?_
    exact q_weak [true, true, true, false, false, false, false, false, false] rfl (sn_X3_goOn_58 hX    x1_1 x2_3 ((mem 73 (0 : Int32).toNatClampNeg) - (mem 77 (0 : Int32).toNatClampNeg)) Q  mem h)
set_option maxRecDepth 100000 in
set_option maxHeartbeats 4000000 in
theorem sn_X3_goOn {l : Launch} {G : q_G}   (mem : q_Mem) (Q : q_Mem → Prop) (h : wp_X3_goOn  mem Q) : q_MV l G yX3_goOn cX3_goOn 9 none rm_X3_goOn [.ref (q_ad G 72)] mem Q := by
  refine q_metV 8 (by decide +kernel) (Nat.le_of_ble_eq_true rfl) rfl (fun X hl hX => ?_)
  subst hl
  exact sn_X3_goOn_0 hX   Q mem h

-- X3_mayGo
def wp_X3_mayGo    (mem : q_Mem) (Q : Int32 → q_Mem → Prop) : Prop := (((mem 72 0) ≤ 0) → Q (0 : Int32) mem) ∧ ((¬ (mem 72 0) ≤ 0) → (((mem 72 11) ≤ 0) → Q (0 : Int32) mem) ∧ ((¬ (mem 72 11) ≤ 0) → Q (1 : Int32) mem))
set_option maxRecDepth 100000 in
set_option maxHeartbeats 4000000 in
theorem sn_X3_mayGo_0 {X : q_X} {G : q_G} (hX : q_C X cX3_mayGo 1 RX3 (some .boolean) 0 0)    (Q : Int32 → q_Mem → Prop)  (mem : q_Mem) (h : wp_X3_mayGo    mem Q) : q_J X G 1 (q_QI X G Q) 0 [some (.ref (q_ad G 72))] [] mem := by
  unfold wp_X3_mayGo at h
  refine q_aload_n hX rfl dX3_mayGo_0 1 rfl ?_
  refine gf_X3_74 hX dX3_mayGo_1 4 rfl ?_
  refine q_if_le hX dX3_mayGo_4 7 18 rfl (by decide) (fun c_1 => ?_) (fun c_1 => ?_)
  · replace h := h.1 c_1
    refine q_iconst hX (0 : Int32) q_ki_0 dX3_mayGo_18 19 rfl ?_
    exact q_zret hX dX3_mayGo_19 (by decide) h
  · replace h := h.2 c_1
    refine q_aload_n hX rfl dX3_mayGo_7 8 rfl ?_
    refine gf_X3_108 hX dX3_mayGo_8 11 rfl ?_
    refine q_if_le hX dX3_mayGo_11 14 18 rfl (by decide) (fun c_2 => ?_) (fun c_2 => ?_)
    · replace h := h.1 c_2
      refine q_iconst hX (0 : Int32) q_ki_0 dX3_mayGo_18 19 rfl ?_
      exact q_zret hX dX3_mayGo_19 (by decide) h
    · replace h := h.2 c_2
      refine q_iconst hX (1 : Int32) q_ki_1 dX3_mayGo_14 15 rfl ?_
      refine q_goto hX dX3_mayGo_15 19 (by decide) ?_
      exact q_zret hX dX3_mayGo_19 (by decide) h
set_option maxRecDepth 100000 in
set_option maxHeartbeats 4000000 in
theorem sn_X3_mayGo {l : Launch} {G : q_G}   (mem : q_Mem) (Q : Int32 → q_Mem → Prop) (h : wp_X3_mayGo  mem Q) : q_MI l G yX3_mayGo cX3_mayGo 1 (some .boolean) rm_X3_mayGo [.ref (q_ad G 72)] mem Q := by
  refine q_metI 0 (by decide +kernel) (Nat.le_of_ble_eq_true rfl) rfl (fun X hl hX => ?_)
  subst hl
  exact sn_X3_mayGo_0 hX   Q mem h

-- X3_fits
def wp_X3_fits_278   (x3 : Int32) (mem : q_Mem) (Q : Int32 → q_Mem → Prop) : Prop := Q x3 mem
def wp_X3_fits_252_b (K252 : Int32 → q_Mem → Prop)  (x3 : Int32) (x4 : Int32) (mem : q_Mem) (Q : Int32 → q_Mem → Prop) : Prop := (((5 : Int32) ≤ x4) → wp_X3_fits_278   x3 mem Q) ∧ ((¬ (5 : Int32) ≤ x4) → vp_in x4 (q_al 92) ∧ (vp_in x4 (q_al 82) ∧ (∀ m_4 : q_Mem, m_4 = q_set mem 82 (upd (mem 82) x4.toNatClampNeg (mem 92 x4.toNatClampNeg)) → ∀ x4_5 : Int32, x4_5 = (x4 + (1 : Int32)) → K252 x4_5 m_4)))
def wp_X3_fits_252   (x3 : Int32) (x4 : Int32) (mem : q_Mem) (Q : Int32 → q_Mem → Prop) : Prop := ∃ I : Nat → Int32 → q_Mem → Prop, (∃ n, I n x4 mem) ∧ ∀ (n : Nat) (yx4 : Int32) (ymem : q_Mem), I n yx4 ymem → wp_X3_fits_252_b  (fun (zx4 : Int32) (zmem : q_Mem) => ∃ n2, n2 < n ∧ I n2 zx4 zmem)  x3 yx4 ymem Q
def wp_X3_fits_244   (x1 : Int32) (x3 : Int32) (mem : q_Mem) (Q : Int32 → q_Mem → Prop) : Prop := ∀ m_1 : q_Mem, m_1 = q_set mem 72 (upd (mem 72) 13 x1) → wp_X3_fits_252   x3 (0 : Int32) m_1 Q
def wp_X3_fits_238 (K73 : Int32 → Int32 → q_Mem → Prop)  (x1 : Int32) (x2 : Int32) (x3 : Int32) (x4 : Int32) (mem : q_Mem) (Q : Int32 → q_Mem → Prop) : Prop := ∀ x4_1 : Int32, x4_1 = (x4 + (1 : Int32)) → K73 x3 x4_1 mem
def wp_X3_fits_217_b (K73 : Int32 → Int32 → q_Mem → Prop) (K217 : Int32 → q_Mem → Prop)  (x1 : Int32) (x2 : Int32) (x3 : Int32) (x4 : Int32) (x6 : Int32) (mem : q_Mem) (Q : Int32 → q_Mem → Prop) : Prop := (((6 : Int32) ≤ x6) → wp_X3_fits_238 K73  x1 x2 x3 x4 mem Q) ∧ ((¬ (6 : Int32) ≤ x6) → wp_X3_fetch x6 x6 mem (fun m_3 => ∀ x6_4 : Int32, x6_4 = (x6 + (1 : Int32)) → K217 x6_4 m_3))
def wp_X3_fits_217 (K73 : Int32 → Int32 → q_Mem → Prop)  (x1 : Int32) (x2 : Int32) (x3 : Int32) (x4 : Int32) (x6 : Int32) (mem : q_Mem) (Q : Int32 → q_Mem → Prop) : Prop := ∃ I : Nat → Int32 → q_Mem → Prop, (∃ n, I n x6 mem) ∧ ∀ (n : Nat) (yx6 : Int32) (ymem : q_Mem), I n yx6 ymem → wp_X3_fits_217_b K73 (fun (zx6 : Int32) (zmem : q_Mem) => ∃ n2, n2 < n ∧ I n2 zx6 zmem)  x1 x2 x3 x4 yx6 ymem Q
def wp_X3_fits_207 (K73 : Int32 → Int32 → q_Mem → Prop)  (x1 : Int32) (x2 : Int32) (x4 : Int32) (s2 : Int32) (s1 : Int32) (mem : q_Mem) (Q : Int32 → q_Mem → Prop) : Prop := ∀ x3_1 : Int32, x3_1 = (s1 ||| s2) → ∀ m_2 : q_Mem, m_2 = q_set mem 72 (upd (mem 72) 12 x2) → wp_X3_fits_217 K73  x1 x2 x3_1 x4 (0 : Int32) m_2 Q
def wp_X3_fits_193 (K73 : Int32 → Int32 → q_Mem → Prop)  (x1 : Int32) (x2 : Int32) (x3 : Int32) (x4 : Int32) (x5 : Int32) (mem : q_Mem) (Q : Int32 → q_Mem → Prop) : Prop := ((x5 = 0) → wp_X3_fits_207 K73  x1 x2 x4 (0 : Int32) x3 mem Q) ∧ ((¬ x5 = 0) → wp_X3_fits_207 K73  x1 x2 x4 ((1 : Int32) <<< (x4 &&& 31)) x3 mem Q)
def wp_X3_fits_187 (K73 : Int32 → Int32 → q_Mem → Prop) (K92 : Int32 → Int32 → q_Mem → Prop)  (x1 : Int32) (x2 : Int32) (x3 : Int32) (x4 : Int32) (x5 : Int32) (x6 : Int32) (mem : q_Mem) (Q : Int32 → q_Mem → Prop) : Prop := ∀ x6_1 : Int32, x6_1 = (x6 + (1 : Int32)) → K92 x5 x6_1 mem
def wp_X3_fits_181 (K73 : Int32 → Int32 → q_Mem → Prop) (K92 : Int32 → Int32 → q_Mem → Prop) (K111 : Int32 → Int32 → q_Mem → Prop)  (x1 : Int32) (x2 : Int32) (x3 : Int32) (x4 : Int32) (x5 : Int32) (x6 : Int32) (x7 : Int32) (mem : q_Mem) (Q : Int32 → q_Mem → Prop) : Prop := ∀ x7_1 : Int32, x7_1 = (x7 + (1 : Int32)) → K111 x5 x7_1 mem
def wp_X3_fits_179 (K73 : Int32 → Int32 → q_Mem → Prop) (K92 : Int32 → Int32 → q_Mem → Prop) (K111 : Int32 → Int32 → q_Mem → Prop)  (x1 : Int32) (x2 : Int32) (x3 : Int32) (x4 : Int32) (x6 : Int32) (x7 : Int32) (s1 : Int32) (mem : q_Mem) (Q : Int32 → q_Mem → Prop) : Prop := wp_X3_fits_181 K73 K92 K111  x1 x2 x3 x4 s1 x6 x7 mem Q
def wp_X3_fits_178 (K73 : Int32 → Int32 → q_Mem → Prop) (K92 : Int32 → Int32 → q_Mem → Prop) (K111 : Int32 → Int32 → q_Mem → Prop)  (x1 : Int32) (x2 : Int32) (x3 : Int32) (x4 : Int32) (x6 : Int32) (x7 : Int32) (mem : q_Mem) (Q : Int32 → q_Mem → Prop) : Prop := wp_X3_fits_179 K73 K92 K111  x1 x2 x3 x4 x6 x7 (0 : Int32) mem Q
def wp_X3_fits_111_b (K73 : Int32 → Int32 → q_Mem → Prop) (K92 : Int32 → Int32 → q_Mem → Prop) (K111 : Int32 → Int32 → q_Mem → Prop)  (x1 : Int32) (x2 : Int32) (x3 : Int32) (x4 : Int32) (x5 : Int32) (x6 : Int32) (x7 : Int32) (mem : q_Mem) (Q : Int32 → q_Mem → Prop) : Prop := (((mem 72 19) ≤ x7) → wp_X3_fits_187 K73 K92  x1 x2 x3 x4 x5 x6 mem Q) ∧ ((¬ (mem 72 19) ≤ x7) → vp_in x7 (q_al 89) ∧ (((¬ (mem 89 x7.toNatClampNeg) = x6) → wp_X3_fits_181 K73 K92 K111  x1 x2 x3 x4 x5 x6 x7 mem Q) ∧ (((mem 89 x7.toNatClampNeg) = x6) → vp_in x7 (q_al 88) ∧ (wp_X3_damp (mem 88 x7.toNatClampNeg) mem (fun r_5 m_6 => ((x5 = 0) → wp_X3_fits_178 K73 K92 K111  x1 x2 x3 x4 x6 x7 m_6 Q) ∧ ((¬ x5 = 0) → vp_in x7 (q_al 90) ∧ (((r_5 < (m_6 90 x7.toNatClampNeg)) → wp_X3_fits_178 K73 K92 K111  x1 x2 x3 x4 x6 x7 m_6 Q) ∧ ((¬ r_5 < (m_6 90 x7.toNatClampNeg)) → vp_in x7 (q_al 91) ∧ ((((m_6 91 x7.toNatClampNeg) < r_5) → wp_X3_fits_178 K73 K92 K111  x1 x2 x3 x4 x6 x7 m_6 Q) ∧ ((¬ (m_6 91 x7.toNatClampNeg) < r_5) → wp_X3_fits_179 K73 K92 K111  x1 x2 x3 x4 x6 x7 (1 : Int32) m_6 Q))))))))))
def wp_X3_fits_111 (K73 : Int32 → Int32 → q_Mem → Prop) (K92 : Int32 → Int32 → q_Mem → Prop)  (x1 : Int32) (x2 : Int32) (x3 : Int32) (x4 : Int32) (x5 : Int32) (x6 : Int32) (x7 : Int32) (mem : q_Mem) (Q : Int32 → q_Mem → Prop) : Prop := ∃ I : Nat → Int32 → Int32 → q_Mem → Prop, (∃ n, I n x5 x7 mem) ∧ ∀ (n : Nat) (yx5 : Int32) (yx7 : Int32) (ymem : q_Mem), I n yx5 yx7 ymem → wp_X3_fits_111_b K73 K92 (fun (zx5 : Int32) (zx7 : Int32) (zmem : q_Mem) => ∃ n2, n2 < n ∧ I n2 zx5 zx7 zmem)  x1 x2 x3 x4 yx5 x6 yx7 ymem Q
def wp_X3_fits_92_b (K73 : Int32 → Int32 → q_Mem → Prop) (K92 : Int32 → Int32 → q_Mem → Prop)  (x1 : Int32) (x2 : Int32) (x3 : Int32) (x4 : Int32) (x5 : Int32) (x6 : Int32) (mem : q_Mem) (Q : Int32 → q_Mem → Prop) : Prop := (((100 : Int32) < x6) → wp_X3_fits_193 K73  x1 x2 x3 x4 x5 mem Q) ∧ ((¬ (100 : Int32) < x6) → ((x5 = 0) → wp_X3_fits_193 K73  x1 x2 x3 x4 x5 mem Q) ∧ ((¬ x5 = 0) → wp_X3_goOn  mem (fun m_4 => wp_X3_fits_111 K73 K92  x1 x2 x3 x4 x5 x6 (0 : Int32) m_4 Q)))
def wp_X3_fits_92 (K73 : Int32 → Int32 → q_Mem → Prop)  (x1 : Int32) (x2 : Int32) (x3 : Int32) (x4 : Int32) (x5 : Int32) (x6 : Int32) (mem : q_Mem) (Q : Int32 → q_Mem → Prop) : Prop := ∃ I : Nat → Int32 → Int32 → q_Mem → Prop, (∃ n, I n x5 x6 mem) ∧ ∀ (n : Nat) (yx5 : Int32) (yx6 : Int32) (ymem : q_Mem), I n yx5 yx6 ymem → wp_X3_fits_92_b K73 (fun (zx5 : Int32) (zx6 : Int32) (zmem : q_Mem) => ∃ n2, n2 < n ∧ I n2 zx5 zx6 zmem)  x1 x2 x3 x4 yx5 yx6 ymem Q
def wp_X3_fits_73_b (K73 : Int32 → Int32 → q_Mem → Prop)  (x1 : Int32) (x2 : Int32) (x3 : Int32) (x4 : Int32) (mem : q_Mem) (Q : Int32 → q_Mem → Prop) : Prop := (((10 : Int32) < x4) → wp_X3_fits_244   x1 x3 mem Q) ∧ ((¬ (10 : Int32) < x4) → ∀ m_2 : q_Mem, m_2 = q_set mem 72 (upd (mem 72) 13 x4) → wp_X3_fits_92 K73  x1 x2 x3 x4 (1 : Int32) (1 : Int32) m_2 Q)
def wp_X3_fits_73   (x1 : Int32) (x2 : Int32) (x3 : Int32) (x4 : Int32) (mem : q_Mem) (Q : Int32 → q_Mem → Prop) : Prop := ∃ I : Nat → Int32 → Int32 → q_Mem → Prop, (∃ n, I n x3 x4 mem) ∧ ∀ (n : Nat) (yx3 : Int32) (yx4 : Int32) (ymem : q_Mem), I n yx3 yx4 ymem → wp_X3_fits_73_b  (fun (zx3 : Int32) (zx4 : Int32) (zmem : q_Mem) => ∃ n2, n2 < n ∧ I n2 zx3 zx4 zmem)  x1 x2 yx3 yx4 ymem Q
def wp_X3_fits_68   (x1 : Int32) (x2 : Int32) (mem : q_Mem) (Q : Int32 → q_Mem → Prop) : Prop := wp_X3_fits_73   x1 x2 (0 : Int32) (0 : Int32) mem Q
def wp_X3_fits_45_b (K45 : Int32 → q_Mem → Prop)  (x1 : Int32) (x2 : Int32) (x3 : Int32) (mem : q_Mem) (Q : Int32 → q_Mem → Prop) : Prop := (((5 : Int32) ≤ x3) → wp_X3_fits_68   x1 x2 mem Q) ∧ ((¬ (5 : Int32) ≤ x3) → vp_in x3 (q_al 82) ∧ (vp_in x3 (q_al 92) ∧ (∀ m_4 : q_Mem, m_4 = q_set mem 92 (upd (mem 92) x3.toNatClampNeg (mem 82 x3.toNatClampNeg)) → ∀ x3_5 : Int32, x3_5 = (x3 + (1 : Int32)) → K45 x3_5 m_4)))
def wp_X3_fits_45   (x1 : Int32) (x2 : Int32) (x3 : Int32) (mem : q_Mem) (Q : Int32 → q_Mem → Prop) : Prop := ∃ I : Nat → Int32 → q_Mem → Prop, (∃ n, I n x3 mem) ∧ ∀ (n : Nat) (yx3 : Int32) (ymem : q_Mem), I n yx3 ymem → wp_X3_fits_45_b  (fun (zx3 : Int32) (zmem : q_Mem) => ∃ n2, n2 < n ∧ I n2 zx3 zmem)  x1 x2 yx3 ymem Q
def wp_X3_fits    (mem : q_Mem) (Q : Int32 → q_Mem → Prop) : Prop := wp_X3_mayGo  mem (fun r_1 m_2 => ((r_1 = 0) → Q (-103 : Int32) m_2) ∧ ((¬ r_1 = 0) → ((¬ (m_2 72 24) = (30 : Int32)) → ∀ m_5 : q_Mem, m_5 = q_set m_2 72 (upd (m_2 72) 24 ((m_2 72 24) + (1 : Int32))) → ∀ x1_6 : Int32, x1_6 = (m_5 72 13) → ∀ x2_7 : Int32, x2_7 = (m_5 72 12) → wp_X3_layAside  m_5 (fun m_9 => wp_X3_fits_45   x1_6 x2_7 (0 : Int32) m_9 Q)) ∧ (((m_2 72 24) = (30 : Int32)) → Q (-103 : Int32) m_2)))
set_option maxRecDepth 100000 in
set_option maxHeartbeats 4000000 in
theorem sn_X3_fits_278 {X : q_X} {G : q_G} (hX : q_C X cX3_fits 9 RX3 (some .int) 3 77)   (x3 : Int32) (Q : Int32 → q_Mem → Prop)  (mem : q_Mem) (h : wp_X3_fits_278   x3 mem Q) : q_J X G 9 (q_QI X G Q) 278 [some (.ref (q_ad G 72)), none, none, some (.int x3), none, none, none, none, none] [] mem := by
  unfold wp_X3_fits_278 at h
  refine q_iload_n hX rfl dX3_fits_278 279 rfl ?_
  exact q_iret hX dX3_fits_279 h
set_option maxRecDepth 100000 in
set_option maxHeartbeats 4000000 in
theorem sn_X3_fits_252_b {X : q_X} {G : q_G} (hX : q_C X cX3_fits 9 RX3 (some .int) 3 77)   (x3 : Int32) (x4 : Int32) (Q : Int32 → q_Mem → Prop) (K252 : Int32 → q_Mem → Prop) (hK252 : ∀ (yx4 : Int32) (ymem : q_Mem), K252 yx4 ymem → q_J X G 9 (q_QI X G Q) 252 [some (.ref (q_ad G 72)), none, none, some (.int x3), some (.int yx4), none, none, none, none] [] ymem) (mem : q_Mem) (h : wp_X3_fits_252_b K252  x3 x4 mem Q) : q_J X G 9 (q_QI X G Q) 252 [some (.ref (q_ad G 72)), none, none, some (.int x3), some (.int x4), none, none, none, none] [] mem := by
  unfold wp_X3_fits_252_b at h
  refine q_iload hX rfl dX3_fits_252 254 rfl ?_
  refine q_iconst hX (5 : Int32) q_ki_5 dX3_fits_254 255 rfl ?_
  refine q_icmp_ge hX dX3_fits_255 258 278 rfl (by decide) (fun c_1 => ?_) (fun c_1 => ?_)
  · replace h := h.1 c_1
    exact q_weak [true, false, false, true, false, false, false, false, false] rfl (sn_X3_fits_278 hX    x3 Q  mem h)
  · replace h := h.2 c_1
    refine q_aload_n hX rfl dX3_fits_258 259 rfl ?_
    refine gf_X3_37 hX dX3_fits_259 262 rfl ?_
    refine q_iload hX rfl dX3_fits_262 264 rfl ?_
    refine q_aload_n hX rfl dX3_fits_264 265 rfl ?_
    refine gf_X3_67 hX dX3_fits_265 268 rfl ?_
    refine q_iload hX rfl dX3_fits_268 270 rfl ?_
    obtain ⟨g_2, h⟩ := h
    refine q_iald hX g_2 dX3_fits_270 271 rfl ?_
    obtain ⟨g_3, h⟩ := h
    refine q_iast hX g_3 dX3_fits_271 272 rfl (fun m_4 em_4 => ?_)
    replace h := h m_4 em_4
    refine q_iinc hX (1 : Int32) q_ki_1 rfl dX3_fits_272 275 rfl (Nat.le_of_ble_eq_true rfl) rfl (fun y => [some (.ref (q_ad G 72)), none, none, some (.int x3), some (.int y), none, none, none, none]) (fun _ => rfl) (fun x4_5 ex4_5 => ?_)
    replace h := h x4_5 ex4_5
    refine q_goto hX dX3_fits_275 252 (by decide) ?_
    exact q_weak [true, false, false, true, true, false, false, false, false] rfl (hK252 x4_5 m_4 h)
set_option maxRecDepth 100000 in
set_option maxHeartbeats 4000000 in
theorem sn_X3_fits_252 {X : q_X} {G : q_G} (hX : q_C X cX3_fits 9 RX3 (some .int) 3 77)   (x3 : Int32) (x4 : Int32) (Q : Int32 → q_Mem → Prop)  (mem : q_Mem) (h : wp_X3_fits_252   x3 x4 mem Q) : q_J X G 9 (q_QI X G Q) 252 [some (.ref (q_ad G 72)), none, none, some (.int x3), some (.int x4), none, none, none, none] [] mem := by
  obtain ⟨I, ⟨n, h0⟩, hs⟩ := h
  have key : ∀ (n : Nat) (yx4 : Int32) (ymem : q_Mem), I n yx4 ymem → q_J X G 9 (q_QI X G Q) 252 [some (.ref (q_ad G 72)), none, none, some (.int x3), some (.int yx4), none, none, none, none] [] ymem := by
    intro n
    induction n using Nat.strongRecOn with
    | ind n ih =>
      intro yx4 ymem hI
      exact sn_X3_fits_252_b hX    x3 yx4 Q  (fun (zx4 : Int32) (zmem : q_Mem) => ∃ n2, n2 < n ∧ I n2 zx4 zmem) (fun zx4 zmem hz => by obtain ⟨n2, h1, h2⟩ := hz; exact ih n2 h1 zx4 zmem h2) ymem (hs n yx4 ymem hI)
  exact key n x4 mem h0
set_option maxRecDepth 100000 in
set_option maxHeartbeats 4000000 in
theorem sn_X3_fits_244 {X : q_X} {G : q_G} (hX : q_C X cX3_fits 9 RX3 (some .int) 3 77)   (x1 : Int32) (x3 : Int32) (Q : Int32 → q_Mem → Prop)  (mem : q_Mem) (h : wp_X3_fits_244   x1 x3 mem Q) : q_J X G 9 (q_QI X G Q) 244 [some (.ref (q_ad G 72)), some (.int x1), none, some (.int x3), none, none, none, none, none] [] mem := by
  unfold wp_X3_fits_244 at h
  refine q_aload_n hX rfl dX3_fits_244 245 rfl ?_
  refine q_iload_n hX rfl dX3_fits_245 246 rfl ?_
  refine pf_X3_70 hX dX3_fits_246 249 rfl (fun m_1 em_1 => ?_)
  replace h := h m_1 em_1
  refine q_iconst hX (0 : Int32) q_ki_0 dX3_fits_249 250 rfl ?_
  refine q_istore hX dX3_fits_250 252 rfl (Nat.le_of_ble_eq_true rfl) rfl (fun y => [some (.ref (q_ad G 72)), some (.int x1), none, some (.int x3), some (.int y), none, none, none, none]) (fun _ => rfl) (fun x4_2 ex4_2 => ?_)
  replace ex4_2 := ex4_2.symm; subst ex4_2
  exact q_weak [true, false, false, true, true, false, false, false, false] rfl (sn_X3_fits_252 hX    x3 (0 : Int32) Q  m_1 h)
set_option maxRecDepth 100000 in
set_option maxHeartbeats 4000000 in
theorem sn_X3_fits_238 {X : q_X} {G : q_G} (hX : q_C X cX3_fits 9 RX3 (some .int) 3 77)   (x1 : Int32) (x2 : Int32) (x3 : Int32) (x4 : Int32) (Q : Int32 → q_Mem → Prop) (K73 : Int32 → Int32 → q_Mem → Prop) (hK73 : ∀ (yx3 : Int32) (yx4 : Int32) (ymem : q_Mem), K73 yx3 yx4 ymem → q_J X G 9 (q_QI X G Q) 73 [some (.ref (q_ad G 72)), some (.int x1), some (.int x2), some (.int yx3), some (.int yx4), none, none, none, none] [] ymem) (mem : q_Mem) (h : wp_X3_fits_238 K73  x1 x2 x3 x4 mem Q) : q_J X G 9 (q_QI X G Q) 238 [some (.ref (q_ad G 72)), some (.int x1), some (.int x2), some (.int x3), some (.int x4), none, none, none, none] [] mem := by
  unfold wp_X3_fits_238 at h
  refine q_iinc hX (1 : Int32) q_ki_1 rfl dX3_fits_238 241 rfl (Nat.le_of_ble_eq_true rfl) rfl (fun y => [some (.ref (q_ad G 72)), some (.int x1), some (.int x2), some (.int x3), some (.int y), none, none, none, none]) (fun _ => rfl) (fun x4_1 ex4_1 => ?_)
  replace h := h x4_1 ex4_1
  refine q_goto hX dX3_fits_241 73 (by decide) ?_
  exact q_weak [true, true, true, true, true, false, false, false, false] rfl (hK73 x3 x4_1 mem h)
set_option maxRecDepth 100000 in
set_option maxHeartbeats 4000000 in
theorem sn_X3_fits_217_b {X : q_X} {G : q_G} (hX : q_C X cX3_fits 9 RX3 (some .int) 3 77)   (x1 : Int32) (x2 : Int32) (x3 : Int32) (x4 : Int32) (x6 : Int32) (Q : Int32 → q_Mem → Prop) (K73 : Int32 → Int32 → q_Mem → Prop) (hK73 : ∀ (yx3 : Int32) (yx4 : Int32) (ymem : q_Mem), K73 yx3 yx4 ymem → q_J X G 9 (q_QI X G Q) 73 [some (.ref (q_ad G 72)), some (.int x1), some (.int x2), some (.int yx3), some (.int yx4), none, none, none, none] [] ymem) (K217 : Int32 → q_Mem → Prop) (hK217 : ∀ (yx6 : Int32) (ymem : q_Mem), K217 yx6 ymem → q_J X G 9 (q_QI X G Q) 217 [some (.ref (q_ad G 72)), some (.int x1), some (.int x2), some (.int x3), some (.int x4), none, some (.int yx6), none, none] [] ymem) (mem : q_Mem) (h : wp_X3_fits_217_b K73 K217  x1 x2 x3 x4 x6 mem Q) : q_J X G 9 (q_QI X G Q) 217 [some (.ref (q_ad G 72)), some (.int x1), some (.int x2), some (.int x3), some (.int x4), none, some (.int x6), none, none] [] mem := by
  unfold wp_X3_fits_217_b at h
  refine q_iload hX rfl dX3_fits_217 219 rfl ?_
  refine q_bipush hX (6 : Int32) q_kb_6 dX3_fits_219 221 rfl ?_
  refine q_icmp_ge hX dX3_fits_221 224 238 rfl (by decide) (fun c_1 => ?_) (fun c_1 => ?_)
  · replace h := h.1 c_1
    exact q_weak [true, true, true, true, true, false, false, false, false] rfl (sn_X3_fits_238 hX    x1 x2 x3 x4 Q K73 hK73 mem h)
  · replace h := h.2 c_1
    refine q_aload_n hX rfl dX3_fits_224 225 rfl ?_
    refine q_iload hX rfl dX3_fits_225 227 rfl ?_
    refine q_iload hX rfl dX3_fits_227 229 rfl ?_
    refine cl_X3_175 hX  ⟨Nat.le_of_ble_eq_true rfl, Nat.le_of_ble_eq_true rfl⟩ (Nat.le_of_ble_eq_true rfl) dX3_fits_229 232 rfl (sn_X3_fetch x6 x6  mem _ h) (fun m_3 h => ?_)
    refine q_iinc hX (1 : Int32) q_ki_1 rfl dX3_fits_232 235 rfl (Nat.le_of_ble_eq_true rfl) rfl (fun y => [some (.ref (q_ad G 72)), some (.int x1), some (.int x2), some (.int x3), some (.int x4), none, some (.int y), none, none]) (fun _ => rfl) (fun x6_4 ex6_4 => ?_)
    replace h := h x6_4 ex6_4
    refine q_goto hX dX3_fits_235 217 (by decide) ?_
    exact q_weak [true, true, true, true, true, false, true, false, false] rfl (hK217 x6_4 m_3 h)
set_option maxRecDepth 100000 in
set_option maxHeartbeats 4000000 in
theorem sn_X3_fits_217 {X : q_X} {G : q_G} (hX : q_C X cX3_fits 9 RX3 (some .int) 3 77)   (x1 : Int32) (x2 : Int32) (x3 : Int32) (x4 : Int32) (x6 : Int32) (Q : Int32 → q_Mem → Prop) (K73 : Int32 → Int32 → q_Mem → Prop) (hK73 : ∀ (yx3 : Int32) (yx4 : Int32) (ymem : q_Mem), K73 yx3 yx4 ymem → q_J X G 9 (q_QI X G Q) 73 [some (.ref (q_ad G 72)), some (.int x1), some (.int x2), some (.int yx3), some (.int yx4), none, none, none, none] [] ymem) (mem : q_Mem) (h : wp_X3_fits_217 K73  x1 x2 x3 x4 x6 mem Q) : q_J X G 9 (q_QI X G Q) 217 [some (.ref (q_ad G 72)), some (.int x1), some (.int x2), some (.int x3), some (.int x4), none, some (.int x6), none, none] [] mem := by
  obtain ⟨I, ⟨n, h0⟩, hs⟩ := h
  have key : ∀ (n : Nat) (yx6 : Int32) (ymem : q_Mem), I n yx6 ymem → q_J X G 9 (q_QI X G Q) 217 [some (.ref (q_ad G 72)), some (.int x1), some (.int x2), some (.int x3), some (.int x4), none, some (.int yx6), none, none] [] ymem := by
    intro n
    induction n using Nat.strongRecOn with
    | ind n ih =>
      intro yx6 ymem hI
      exact sn_X3_fits_217_b hX    x1 x2 x3 x4 yx6 Q K73 hK73 (fun (zx6 : Int32) (zmem : q_Mem) => ∃ n2, n2 < n ∧ I n2 zx6 zmem) (fun zx6 zmem hz => by obtain ⟨n2, h1, h2⟩ := hz; exact ih n2 h1 zx6 zmem h2) ymem (hs n yx6 ymem hI)
  exact key n x6 mem h0
set_option maxRecDepth 100000 in
set_option maxHeartbeats 4000000 in
theorem sn_X3_fits_207 {X : q_X} {G : q_G} (hX : q_C X cX3_fits 9 RX3 (some .int) 3 77)   (x1 : Int32) (x2 : Int32) (x4 : Int32) (s2 : Int32) (s1 : Int32) (Q : Int32 → q_Mem → Prop) (K73 : Int32 → Int32 → q_Mem → Prop) (hK73 : ∀ (yx3 : Int32) (yx4 : Int32) (ymem : q_Mem), K73 yx3 yx4 ymem → q_J X G 9 (q_QI X G Q) 73 [some (.ref (q_ad G 72)), some (.int x1), some (.int x2), some (.int yx3), some (.int yx4), none, none, none, none] [] ymem) (mem : q_Mem) (h : wp_X3_fits_207 K73  x1 x2 x4 s2 s1 mem Q) : q_J X G 9 (q_QI X G Q) 207 [some (.ref (q_ad G 72)), some (.int x1), some (.int x2), none, some (.int x4), none, none, none, none] [.int s2, .int s1] mem := by
  unfold wp_X3_fits_207 at h
  refine q_ior hX dX3_fits_207 208 rfl ?_
  refine q_istore_n hX dX3_fits_208 209 rfl (Nat.le_of_ble_eq_true rfl) rfl (fun y => [some (.ref (q_ad G 72)), some (.int x1), some (.int x2), some (.int y), some (.int x4), none, none, none, none]) (fun _ => rfl) (fun x3_1 ex3_1 => ?_)
  replace h := h x3_1 ex3_1
  refine q_aload_n hX rfl dX3_fits_209 210 rfl ?_
  refine q_iload_n hX rfl dX3_fits_210 211 rfl ?_
  refine pf_X3_111 hX dX3_fits_211 214 rfl (fun m_2 em_2 => ?_)
  replace h := h m_2 em_2
  refine q_iconst hX (0 : Int32) q_ki_0 dX3_fits_214 215 rfl ?_
  refine q_istore hX dX3_fits_215 217 rfl (Nat.le_of_ble_eq_true rfl) rfl (fun y => [some (.ref (q_ad G 72)), some (.int x1), some (.int x2), some (.int x3_1), some (.int x4), none, some (.int y), none, none]) (fun _ => rfl) (fun x6_3 ex6_3 => ?_)
  replace ex6_3 := ex6_3.symm; subst ex6_3
  exact q_weak [true, true, true, true, true, false, true, false, false] rfl (sn_X3_fits_217 hX    x1 x2 x3_1 x4 (0 : Int32) Q K73 hK73 m_2 h)
set_option maxRecDepth 100000 in
set_option maxHeartbeats 4000000 in
theorem sn_X3_fits_193 {X : q_X} {G : q_G} (hX : q_C X cX3_fits 9 RX3 (some .int) 3 77)   (x1 : Int32) (x2 : Int32) (x3 : Int32) (x4 : Int32) (x5 : Int32) (Q : Int32 → q_Mem → Prop) (K73 : Int32 → Int32 → q_Mem → Prop) (hK73 : ∀ (yx3 : Int32) (yx4 : Int32) (ymem : q_Mem), K73 yx3 yx4 ymem → q_J X G 9 (q_QI X G Q) 73 [some (.ref (q_ad G 72)), some (.int x1), some (.int x2), some (.int yx3), some (.int yx4), none, none, none, none] [] ymem) (mem : q_Mem) (h : wp_X3_fits_193 K73  x1 x2 x3 x4 x5 mem Q) : q_J X G 9 (q_QI X G Q) 193 [some (.ref (q_ad G 72)), some (.int x1), some (.int x2), some (.int x3), some (.int x4), some (.int x5), none, none, none] [] mem := by
  unfold wp_X3_fits_193 at h
  refine q_iload_n hX rfl dX3_fits_193 194 rfl ?_
  refine q_iload hX rfl dX3_fits_194 196 rfl ?_
  refine q_if_eq hX dX3_fits_196 199 206 rfl (by decide) (fun c_1 => ?_) (fun c_1 => ?_)
  · replace h := h.1 c_1
    refine q_iconst hX (0 : Int32) q_ki_0 dX3_fits_206 207 rfl ?_
    exact q_weak [true, true, true, false, true, false, false, false, false] rfl (sn_X3_fits_207 hX    x1 x2 x4 (0 : Int32) x3 Q K73 hK73 mem h)
  · replace h := h.2 c_1
    refine q_iconst hX (1 : Int32) q_ki_1 dX3_fits_199 200 rfl ?_
    refine q_iload hX rfl dX3_fits_200 202 rfl ?_
    refine q_ishl hX dX3_fits_202 203 rfl ?_
    refine q_goto hX dX3_fits_203 207 (by decide) ?_
    exact q_weak [true, true, true, false, true, false, false, false, false] rfl (sn_X3_fits_207 hX    x1 x2 x4 ((1 : Int32) <<< (x4 &&& 31)) x3 Q K73 hK73 mem h)
set_option maxRecDepth 100000 in
set_option maxHeartbeats 4000000 in
theorem sn_X3_fits_187 {X : q_X} {G : q_G} (hX : q_C X cX3_fits 9 RX3 (some .int) 3 77)   (x1 : Int32) (x2 : Int32) (x3 : Int32) (x4 : Int32) (x5 : Int32) (x6 : Int32) (Q : Int32 → q_Mem → Prop) (K73 : Int32 → Int32 → q_Mem → Prop) (hK73 : ∀ (yx3 : Int32) (yx4 : Int32) (ymem : q_Mem), K73 yx3 yx4 ymem → q_J X G 9 (q_QI X G Q) 73 [some (.ref (q_ad G 72)), some (.int x1), some (.int x2), some (.int yx3), some (.int yx4), none, none, none, none] [] ymem) (K92 : Int32 → Int32 → q_Mem → Prop) (hK92 : ∀ (yx5 : Int32) (yx6 : Int32) (ymem : q_Mem), K92 yx5 yx6 ymem → q_J X G 9 (q_QI X G Q) 92 [some (.ref (q_ad G 72)), some (.int x1), some (.int x2), some (.int x3), some (.int x4), some (.int yx5), some (.int yx6), none, none] [] ymem) (mem : q_Mem) (h : wp_X3_fits_187 K73 K92  x1 x2 x3 x4 x5 x6 mem Q) : q_J X G 9 (q_QI X G Q) 187 [some (.ref (q_ad G 72)), some (.int x1), some (.int x2), some (.int x3), some (.int x4), some (.int x5), some (.int x6), none, none] [] mem := by
  unfold wp_X3_fits_187 at h
  refine q_iinc hX (1 : Int32) q_ki_1 rfl dX3_fits_187 190 rfl (Nat.le_of_ble_eq_true rfl) rfl (fun y => [some (.ref (q_ad G 72)), some (.int x1), some (.int x2), some (.int x3), some (.int x4), some (.int x5), some (.int y), none, none]) (fun _ => rfl) (fun x6_1 ex6_1 => ?_)
  replace h := h x6_1 ex6_1
  refine q_goto hX dX3_fits_190 92 (by decide) ?_
  exact q_weak [true, true, true, true, true, true, true, false, false] rfl (hK92 x5 x6_1 mem h)
set_option maxRecDepth 100000 in
set_option maxHeartbeats 4000000 in
theorem sn_X3_fits_181 {X : q_X} {G : q_G} (hX : q_C X cX3_fits 9 RX3 (some .int) 3 77)   (x1 : Int32) (x2 : Int32) (x3 : Int32) (x4 : Int32) (x5 : Int32) (x6 : Int32) (x7 : Int32) (Q : Int32 → q_Mem → Prop) (K73 : Int32 → Int32 → q_Mem → Prop) (hK73 : ∀ (yx3 : Int32) (yx4 : Int32) (ymem : q_Mem), K73 yx3 yx4 ymem → q_J X G 9 (q_QI X G Q) 73 [some (.ref (q_ad G 72)), some (.int x1), some (.int x2), some (.int yx3), some (.int yx4), none, none, none, none] [] ymem) (K92 : Int32 → Int32 → q_Mem → Prop) (hK92 : ∀ (yx5 : Int32) (yx6 : Int32) (ymem : q_Mem), K92 yx5 yx6 ymem → q_J X G 9 (q_QI X G Q) 92 [some (.ref (q_ad G 72)), some (.int x1), some (.int x2), some (.int x3), some (.int x4), some (.int yx5), some (.int yx6), none, none] [] ymem) (K111 : Int32 → Int32 → q_Mem → Prop) (hK111 : ∀ (yx5 : Int32) (yx7 : Int32) (ymem : q_Mem), K111 yx5 yx7 ymem → q_J X G 9 (q_QI X G Q) 111 [some (.ref (q_ad G 72)), some (.int x1), some (.int x2), some (.int x3), some (.int x4), some (.int yx5), some (.int x6), some (.int yx7), none] [] ymem) (mem : q_Mem) (h : wp_X3_fits_181 K73 K92 K111  x1 x2 x3 x4 x5 x6 x7 mem Q) : q_J X G 9 (q_QI X G Q) 181 [some (.ref (q_ad G 72)), some (.int x1), some (.int x2), some (.int x3), some (.int x4), some (.int x5), some (.int x6), some (.int x7), none] [] mem := by
  unfold wp_X3_fits_181 at h
  refine q_iinc hX (1 : Int32) q_ki_1 rfl dX3_fits_181 184 rfl (Nat.le_of_ble_eq_true rfl) rfl (fun y => [some (.ref (q_ad G 72)), some (.int x1), some (.int x2), some (.int x3), some (.int x4), some (.int x5), some (.int x6), some (.int y), none]) (fun _ => rfl) (fun x7_1 ex7_1 => ?_)
  replace h := h x7_1 ex7_1
  refine q_goto hX dX3_fits_184 111 (by decide) ?_
  exact q_weak [true, true, true, true, true, true, true, true, false] rfl (hK111 x5 x7_1 mem h)
set_option maxRecDepth 100000 in
set_option maxHeartbeats 4000000 in
theorem sn_X3_fits_179 {X : q_X} {G : q_G} (hX : q_C X cX3_fits 9 RX3 (some .int) 3 77)   (x1 : Int32) (x2 : Int32) (x3 : Int32) (x4 : Int32) (x6 : Int32) (x7 : Int32) (s1 : Int32) (Q : Int32 → q_Mem → Prop) (K73 : Int32 → Int32 → q_Mem → Prop) (hK73 : ∀ (yx3 : Int32) (yx4 : Int32) (ymem : q_Mem), K73 yx3 yx4 ymem → q_J X G 9 (q_QI X G Q) 73 [some (.ref (q_ad G 72)), some (.int x1), some (.int x2), some (.int yx3), some (.int yx4), none, none, none, none] [] ymem) (K92 : Int32 → Int32 → q_Mem → Prop) (hK92 : ∀ (yx5 : Int32) (yx6 : Int32) (ymem : q_Mem), K92 yx5 yx6 ymem → q_J X G 9 (q_QI X G Q) 92 [some (.ref (q_ad G 72)), some (.int x1), some (.int x2), some (.int x3), some (.int x4), some (.int yx5), some (.int yx6), none, none] [] ymem) (K111 : Int32 → Int32 → q_Mem → Prop) (hK111 : ∀ (yx5 : Int32) (yx7 : Int32) (ymem : q_Mem), K111 yx5 yx7 ymem → q_J X G 9 (q_QI X G Q) 111 [some (.ref (q_ad G 72)), some (.int x1), some (.int x2), some (.int x3), some (.int x4), some (.int yx5), some (.int x6), some (.int yx7), none] [] ymem) (mem : q_Mem) (h : wp_X3_fits_179 K73 K92 K111  x1 x2 x3 x4 x6 x7 s1 mem Q) : q_J X G 9 (q_QI X G Q) 179 [some (.ref (q_ad G 72)), some (.int x1), some (.int x2), some (.int x3), some (.int x4), none, some (.int x6), some (.int x7), none] [.int s1] mem := by
  unfold wp_X3_fits_179 at h
  refine q_istore hX dX3_fits_179 181 rfl (Nat.le_of_ble_eq_true rfl) rfl (fun y => [some (.ref (q_ad G 72)), some (.int x1), some (.int x2), some (.int x3), some (.int x4), some (.int y), some (.int x6), some (.int x7), none]) (fun _ => rfl) (fun x5_1 ex5_1 => ?_)
  replace ex5_1 := ex5_1.symm; subst ex5_1
  exact q_weak [true, true, true, true, true, true, true, true, false] rfl (sn_X3_fits_181 hX    x1 x2 x3 x4 s1 x6 x7 Q K73 hK73 K92 hK92 K111 hK111 mem h)
set_option maxRecDepth 100000 in
set_option maxHeartbeats 4000000 in
theorem sn_X3_fits_178 {X : q_X} {G : q_G} (hX : q_C X cX3_fits 9 RX3 (some .int) 3 77)   (x1 : Int32) (x2 : Int32) (x3 : Int32) (x4 : Int32) (x6 : Int32) (x7 : Int32) (Q : Int32 → q_Mem → Prop) (K73 : Int32 → Int32 → q_Mem → Prop) (hK73 : ∀ (yx3 : Int32) (yx4 : Int32) (ymem : q_Mem), K73 yx3 yx4 ymem → q_J X G 9 (q_QI X G Q) 73 [some (.ref (q_ad G 72)), some (.int x1), some (.int x2), some (.int yx3), some (.int yx4), none, none, none, none] [] ymem) (K92 : Int32 → Int32 → q_Mem → Prop) (hK92 : ∀ (yx5 : Int32) (yx6 : Int32) (ymem : q_Mem), K92 yx5 yx6 ymem → q_J X G 9 (q_QI X G Q) 92 [some (.ref (q_ad G 72)), some (.int x1), some (.int x2), some (.int x3), some (.int x4), some (.int yx5), some (.int yx6), none, none] [] ymem) (K111 : Int32 → Int32 → q_Mem → Prop) (hK111 : ∀ (yx5 : Int32) (yx7 : Int32) (ymem : q_Mem), K111 yx5 yx7 ymem → q_J X G 9 (q_QI X G Q) 111 [some (.ref (q_ad G 72)), some (.int x1), some (.int x2), some (.int x3), some (.int x4), some (.int yx5), some (.int x6), some (.int yx7), none] [] ymem) (mem : q_Mem) (h : wp_X3_fits_178 K73 K92 K111  x1 x2 x3 x4 x6 x7 mem Q) : q_J X G 9 (q_QI X G Q) 178 [some (.ref (q_ad G 72)), some (.int x1), some (.int x2), some (.int x3), some (.int x4), none, some (.int x6), some (.int x7), none] [] mem := by
  unfold wp_X3_fits_178 at h
  refine q_iconst hX (0 : Int32) q_ki_0 dX3_fits_178 179 rfl ?_
  exact q_weak [true, true, true, true, true, false, true, true, false] rfl (sn_X3_fits_179 hX    x1 x2 x3 x4 x6 x7 (0 : Int32) Q K73 hK73 K92 hK92 K111 hK111 mem h)
set_option maxRecDepth 100000 in
set_option maxHeartbeats 4000000 in
theorem sn_X3_fits_111_b {X : q_X} {G : q_G} (hX : q_C X cX3_fits 9 RX3 (some .int) 3 77)   (x1 : Int32) (x2 : Int32) (x3 : Int32) (x4 : Int32) (x5 : Int32) (x6 : Int32) (x7 : Int32) (Q : Int32 → q_Mem → Prop) (K73 : Int32 → Int32 → q_Mem → Prop) (hK73 : ∀ (yx3 : Int32) (yx4 : Int32) (ymem : q_Mem), K73 yx3 yx4 ymem → q_J X G 9 (q_QI X G Q) 73 [some (.ref (q_ad G 72)), some (.int x1), some (.int x2), some (.int yx3), some (.int yx4), none, none, none, none] [] ymem) (K92 : Int32 → Int32 → q_Mem → Prop) (hK92 : ∀ (yx5 : Int32) (yx6 : Int32) (ymem : q_Mem), K92 yx5 yx6 ymem → q_J X G 9 (q_QI X G Q) 92 [some (.ref (q_ad G 72)), some (.int x1), some (.int x2), some (.int x3), some (.int x4), some (.int yx5), some (.int yx6), none, none] [] ymem) (K111 : Int32 → Int32 → q_Mem → Prop) (hK111 : ∀ (yx5 : Int32) (yx7 : Int32) (ymem : q_Mem), K111 yx5 yx7 ymem → q_J X G 9 (q_QI X G Q) 111 [some (.ref (q_ad G 72)), some (.int x1), some (.int x2), some (.int x3), some (.int x4), some (.int yx5), some (.int x6), some (.int yx7), none] [] ymem) (mem : q_Mem) (h : wp_X3_fits_111_b K73 K92 K111  x1 x2 x3 x4 x5 x6 x7 mem Q) : q_J X G 9 (q_QI X G Q) 111 [some (.ref (q_ad G 72)), some (.int x1), some (.int x2), some (.int x3), some (.int x4), some (.int x5), some (.int x6), some (.int x7), none] [] mem := by
  unfold wp_X3_fits_111_b at h
  refine q_iload hX rfl dX3_fits_111 113 rfl ?_
  refine q_aload_n hX rfl dX3_fits_113 114 rfl ?_
  refine gf_X3_87 hX dX3_fits_114 117 rfl ?_
  refine q_icmp_ge hX dX3_fits_117 120 187 rfl (by decide) (fun c_1 => ?_) (fun c_1 => ?_)
  · replace h := h.1 c_1
    exact q_weak [true, true, true, true, true, true, true, false, false] rfl (sn_X3_fits_187 hX    x1 x2 x3 x4 x5 x6 Q K73 hK73 K92 hK92 mem h)
  · replace h := h.2 c_1
    refine q_aload_n hX rfl dX3_fits_120 121 rfl ?_
    refine gf_X3_58 hX dX3_fits_121 124 rfl ?_
    refine q_iload hX rfl dX3_fits_124 126 rfl ?_
    obtain ⟨g_2, h⟩ := h
    refine q_iald hX g_2 dX3_fits_126 127 rfl ?_
    refine q_iload hX rfl dX3_fits_127 129 rfl ?_
    refine q_icmp_ne hX dX3_fits_129 132 181 rfl (by decide) (fun c_3 => ?_) (fun c_3 => ?_)
    · replace h := h.1 c_3
      exact q_weak [true, true, true, true, true, true, true, true, false] rfl (sn_X3_fits_181 hX    x1 x2 x3 x4 x5 x6 x7 Q K73 hK73 K92 hK92 K111 hK111 mem h)
    · replace h := h.2 c_3
      refine q_aload_n hX rfl dX3_fits_132 133 rfl ?_
      refine q_aload_n hX rfl dX3_fits_133 134 rfl ?_
      refine gf_X3_55 hX dX3_fits_134 137 rfl ?_
      refine q_iload hX rfl dX3_fits_137 139 rfl ?_
      obtain ⟨g_4, h⟩ := h
      refine q_iald hX g_4 dX3_fits_139 140 rfl ?_
      refine cl_X3_96 hX  ⟨Nat.le_of_ble_eq_true rfl, Nat.le_of_ble_eq_true rfl⟩ (Nat.le_of_ble_eq_true rfl) dX3_fits_140 143 rfl (sn_X3_damp (mem 88 x7.toNatClampNeg)  mem _ h) (fun r_5 m_6 h => ?_)
      refine q_istore hX dX3_fits_143 145 rfl (Nat.le_of_ble_eq_true rfl) rfl (fun y => [some (.ref (q_ad G 72)), some (.int x1), some (.int x2), some (.int x3), some (.int x4), some (.int x5), some (.int x6), some (.int x7), some (.int y)]) (fun _ => rfl) (fun x8_7 ex8_7 => ?_)
      replace ex8_7 := ex8_7.symm; subst ex8_7
      refine q_iload hX rfl dX3_fits_145 147 rfl ?_
      refine q_if_eq hX dX3_fits_147 150 178 rfl (by decide) (fun c_8 => ?_) (fun c_8 => ?_)
      · replace h := h.1 c_8
        exact q_weak [true, true, true, true, true, false, true, true, false] rfl (sn_X3_fits_178 hX    x1 x2 x3 x4 x6 x7 Q K73 hK73 K92 hK92 K111 hK111 m_6 h)
      · replace h := h.2 c_8
        refine q_iload hX rfl dX3_fits_150 152 rfl ?_
        refine q_aload_n hX rfl dX3_fits_152 153 rfl ?_
        refine gf_X3_61 hX dX3_fits_153 156 rfl ?_
        refine q_iload hX rfl dX3_fits_156 158 rfl ?_
        obtain ⟨g_9, h⟩ := h
        refine q_iald hX g_9 dX3_fits_158 159 rfl ?_
        refine q_icmp_lt hX dX3_fits_159 162 178 rfl (by decide) (fun c_10 => ?_) (fun c_10 => ?_)
        · replace h := h.1 c_10
          exact q_weak [true, true, true, true, true, false, true, true, false] rfl (sn_X3_fits_178 hX    x1 x2 x3 x4 x6 x7 Q K73 hK73 K92 hK92 K111 hK111 m_6 h)
        · replace h := h.2 c_10
          refine q_iload hX rfl dX3_fits_162 164 rfl ?_
          refine q_aload_n hX rfl dX3_fits_164 165 rfl ?_
          refine gf_X3_64 hX dX3_fits_165 168 rfl ?_
          refine q_iload hX rfl dX3_fits_168 170 rfl ?_
          obtain ⟨g_11, h⟩ := h
          refine q_iald hX g_11 dX3_fits_170 171 rfl ?_
          refine q_icmp_gt hX dX3_fits_171 174 178 rfl (by decide) (fun c_12 => ?_) (fun c_12 => ?_)
          · replace h := h.1 c_12
            exact q_weak [true, true, true, true, true, false, true, true, false] rfl (sn_X3_fits_178 hX    x1 x2 x3 x4 x6 x7 Q K73 hK73 K92 hK92 K111 hK111 m_6 h)
          · replace h := h.2 c_12
            refine q_iconst hX (1 : Int32) q_ki_1 dX3_fits_174 175 rfl ?_
            refine q_goto hX dX3_fits_175 179 (by decide) ?_
            exact q_weak [true, true, true, true, true, false, true, true, false] rfl (sn_X3_fits_179 hX    x1 x2 x3 x4 x6 x7 (1 : Int32) Q K73 hK73 K92 hK92 K111 hK111 m_6 h)
set_option maxRecDepth 100000 in
set_option maxHeartbeats 4000000 in
theorem sn_X3_fits_111 {X : q_X} {G : q_G} (hX : q_C X cX3_fits 9 RX3 (some .int) 3 77)   (x1 : Int32) (x2 : Int32) (x3 : Int32) (x4 : Int32) (x5 : Int32) (x6 : Int32) (x7 : Int32) (Q : Int32 → q_Mem → Prop) (K73 : Int32 → Int32 → q_Mem → Prop) (hK73 : ∀ (yx3 : Int32) (yx4 : Int32) (ymem : q_Mem), K73 yx3 yx4 ymem → q_J X G 9 (q_QI X G Q) 73 [some (.ref (q_ad G 72)), some (.int x1), some (.int x2), some (.int yx3), some (.int yx4), none, none, none, none] [] ymem) (K92 : Int32 → Int32 → q_Mem → Prop) (hK92 : ∀ (yx5 : Int32) (yx6 : Int32) (ymem : q_Mem), K92 yx5 yx6 ymem → q_J X G 9 (q_QI X G Q) 92 [some (.ref (q_ad G 72)), some (.int x1), some (.int x2), some (.int x3), some (.int x4), some (.int yx5), some (.int yx6), none, none] [] ymem) (mem : q_Mem) (h : wp_X3_fits_111 K73 K92  x1 x2 x3 x4 x5 x6 x7 mem Q) : q_J X G 9 (q_QI X G Q) 111 [some (.ref (q_ad G 72)), some (.int x1), some (.int x2), some (.int x3), some (.int x4), some (.int x5), some (.int x6), some (.int x7), none] [] mem := by
  obtain ⟨I, ⟨n, h0⟩, hs⟩ := h
  have key : ∀ (n : Nat) (yx5 : Int32) (yx7 : Int32) (ymem : q_Mem), I n yx5 yx7 ymem → q_J X G 9 (q_QI X G Q) 111 [some (.ref (q_ad G 72)), some (.int x1), some (.int x2), some (.int x3), some (.int x4), some (.int yx5), some (.int x6), some (.int yx7), none] [] ymem := by
    intro n
    induction n using Nat.strongRecOn with
    | ind n ih =>
      intro yx5 yx7 ymem hI
      exact sn_X3_fits_111_b hX    x1 x2 x3 x4 yx5 x6 yx7 Q K73 hK73 K92 hK92 (fun (zx5 : Int32) (zx7 : Int32) (zmem : q_Mem) => ∃ n2, n2 < n ∧ I n2 zx5 zx7 zmem) (fun zx5 zx7 zmem hz => by obtain ⟨n2, h1, h2⟩ := hz; exact ih n2 h1 zx5 zx7 zmem h2) ymem (hs n yx5 yx7 ymem hI)
  exact key n x5 x7 mem h0
set_option maxRecDepth 100000 in
set_option maxHeartbeats 4000000 in
theorem sn_X3_fits_92_b {X : q_X} {G : q_G} (hX : q_C X cX3_fits 9 RX3 (some .int) 3 77)   (x1 : Int32) (x2 : Int32) (x3 : Int32) (x4 : Int32) (x5 : Int32) (x6 : Int32) (Q : Int32 → q_Mem → Prop) (K73 : Int32 → Int32 → q_Mem → Prop) (hK73 : ∀ (yx3 : Int32) (yx4 : Int32) (ymem : q_Mem), K73 yx3 yx4 ymem → q_J X G 9 (q_QI X G Q) 73 [some (.ref (q_ad G 72)), some (.int x1), some (.int x2), some (.int yx3), some (.int yx4), none, none, none, none] [] ymem) (K92 : Int32 → Int32 → q_Mem → Prop) (hK92 : ∀ (yx5 : Int32) (yx6 : Int32) (ymem : q_Mem), K92 yx5 yx6 ymem → q_J X G 9 (q_QI X G Q) 92 [some (.ref (q_ad G 72)), some (.int x1), some (.int x2), some (.int x3), some (.int x4), some (.int yx5), some (.int yx6), none, none] [] ymem) (mem : q_Mem) (h : wp_X3_fits_92_b K73 K92  x1 x2 x3 x4 x5 x6 mem Q) : q_J X G 9 (q_QI X G Q) 92 [some (.ref (q_ad G 72)), some (.int x1), some (.int x2), some (.int x3), some (.int x4), some (.int x5), some (.int x6), none, none] [] mem := by
  unfold wp_X3_fits_92_b at h
  refine q_iload hX rfl dX3_fits_92 94 rfl ?_
  refine q_bipush hX (100 : Int32) q_kb_100 dX3_fits_94 96 rfl ?_
  refine q_icmp_gt hX dX3_fits_96 99 193 rfl (by decide) (fun c_1 => ?_) (fun c_1 => ?_)
  · replace h := h.1 c_1
    exact q_weak [true, true, true, true, true, true, false, false, false] rfl (sn_X3_fits_193 hX    x1 x2 x3 x4 x5 Q K73 hK73 mem h)
  · replace h := h.2 c_1
    refine q_iload hX rfl dX3_fits_99 101 rfl ?_
    refine q_if_eq hX dX3_fits_101 104 193 rfl (by decide) (fun c_2 => ?_) (fun c_2 => ?_)
    · replace h := h.1 c_2
      exact q_weak [true, true, true, true, true, true, false, false, false] rfl (sn_X3_fits_193 hX    x1 x2 x3 x4 x5 Q K73 hK73 mem h)
    · replace h := h.2 c_2
      refine q_aload_n hX rfl dX3_fits_104 105 rfl ?_
      refine cl_X3_132 hX  ⟨Nat.le_of_ble_eq_true rfl, Nat.le_of_ble_eq_true rfl⟩ (Nat.le_of_ble_eq_true rfl) dX3_fits_105 108 rfl (sn_X3_goOn   mem _ h) (fun m_4 h => ?_)
      refine q_iconst hX (0 : Int32) q_ki_0 dX3_fits_108 109 rfl ?_
      refine q_istore hX dX3_fits_109 111 rfl (Nat.le_of_ble_eq_true rfl) rfl (fun y => [some (.ref (q_ad G 72)), some (.int x1), some (.int x2), some (.int x3), some (.int x4), some (.int x5), some (.int x6), some (.int y), none]) (fun _ => rfl) (fun x7_5 ex7_5 => ?_)
      replace ex7_5 := ex7_5.symm; subst ex7_5
      exact q_weak [true, true, true, true, true, true, true, true, false] rfl (sn_X3_fits_111 hX    x1 x2 x3 x4 x5 x6 (0 : Int32) Q K73 hK73 K92 hK92 m_4 h)
set_option maxRecDepth 100000 in
set_option maxHeartbeats 4000000 in
theorem sn_X3_fits_92 {X : q_X} {G : q_G} (hX : q_C X cX3_fits 9 RX3 (some .int) 3 77)   (x1 : Int32) (x2 : Int32) (x3 : Int32) (x4 : Int32) (x5 : Int32) (x6 : Int32) (Q : Int32 → q_Mem → Prop) (K73 : Int32 → Int32 → q_Mem → Prop) (hK73 : ∀ (yx3 : Int32) (yx4 : Int32) (ymem : q_Mem), K73 yx3 yx4 ymem → q_J X G 9 (q_QI X G Q) 73 [some (.ref (q_ad G 72)), some (.int x1), some (.int x2), some (.int yx3), some (.int yx4), none, none, none, none] [] ymem) (mem : q_Mem) (h : wp_X3_fits_92 K73  x1 x2 x3 x4 x5 x6 mem Q) : q_J X G 9 (q_QI X G Q) 92 [some (.ref (q_ad G 72)), some (.int x1), some (.int x2), some (.int x3), some (.int x4), some (.int x5), some (.int x6), none, none] [] mem := by
  obtain ⟨I, ⟨n, h0⟩, hs⟩ := h
  have key : ∀ (n : Nat) (yx5 : Int32) (yx6 : Int32) (ymem : q_Mem), I n yx5 yx6 ymem → q_J X G 9 (q_QI X G Q) 92 [some (.ref (q_ad G 72)), some (.int x1), some (.int x2), some (.int x3), some (.int x4), some (.int yx5), some (.int yx6), none, none] [] ymem := by
    intro n
    induction n using Nat.strongRecOn with
    | ind n ih =>
      intro yx5 yx6 ymem hI
      exact sn_X3_fits_92_b hX    x1 x2 x3 x4 yx5 yx6 Q K73 hK73 (fun (zx5 : Int32) (zx6 : Int32) (zmem : q_Mem) => ∃ n2, n2 < n ∧ I n2 zx5 zx6 zmem) (fun zx5 zx6 zmem hz => by obtain ⟨n2, h1, h2⟩ := hz; exact ih n2 h1 zx5 zx6 zmem h2) ymem (hs n yx5 yx6 ymem hI)
  exact key n x5 x6 mem h0
set_option maxRecDepth 100000 in
set_option maxHeartbeats 4000000 in
theorem sn_X3_fits_73_b {X : q_X} {G : q_G} (hX : q_C X cX3_fits 9 RX3 (some .int) 3 77)   (x1 : Int32) (x2 : Int32) (x3 : Int32) (x4 : Int32) (Q : Int32 → q_Mem → Prop) (K73 : Int32 → Int32 → q_Mem → Prop) (hK73 : ∀ (yx3 : Int32) (yx4 : Int32) (ymem : q_Mem), K73 yx3 yx4 ymem → q_J X G 9 (q_QI X G Q) 73 [some (.ref (q_ad G 72)), some (.int x1), some (.int x2), some (.int yx3), some (.int yx4), none, none, none, none] [] ymem) (mem : q_Mem) (h : wp_X3_fits_73_b K73  x1 x2 x3 x4 mem Q) : q_J X G 9 (q_QI X G Q) 73 [some (.ref (q_ad G 72)), some (.int x1), some (.int x2), some (.int x3), some (.int x4), none, none, none, none] [] mem := by
  unfold wp_X3_fits_73_b at h
  refine q_iload hX rfl dX3_fits_73 75 rfl ?_
  refine q_bipush hX (10 : Int32) q_kb_10 dX3_fits_75 77 rfl ?_
  refine q_icmp_gt hX dX3_fits_77 80 244 rfl (by decide) (fun c_1 => ?_) (fun c_1 => ?_)
  · replace h := h.1 c_1
    exact q_weak [true, true, false, true, false, false, false, false, false] rfl (sn_X3_fits_244 hX    x1 x3 Q  mem h)
  · replace h := h.2 c_1
    refine q_aload_n hX rfl dX3_fits_80 81 rfl ?_
    refine q_iload hX rfl dX3_fits_81 83 rfl ?_
    refine pf_X3_70 hX dX3_fits_83 86 rfl (fun m_2 em_2 => ?_)
    replace h := h m_2 em_2
    refine q_iconst hX (1 : Int32) q_ki_1 dX3_fits_86 87 rfl ?_
    refine q_istore hX dX3_fits_87 89 rfl (Nat.le_of_ble_eq_true rfl) rfl (fun y => [some (.ref (q_ad G 72)), some (.int x1), some (.int x2), some (.int x3), some (.int x4), some (.int y), none, none, none]) (fun _ => rfl) (fun x5_3 ex5_3 => ?_)
    replace ex5_3 := ex5_3.symm; subst ex5_3
    refine q_iconst hX (1 : Int32) q_ki_1 dX3_fits_89 90 rfl ?_
    refine q_istore hX dX3_fits_90 92 rfl (Nat.le_of_ble_eq_true rfl) rfl (fun y => [some (.ref (q_ad G 72)), some (.int x1), some (.int x2), some (.int x3), some (.int x4), some (.int (1 : Int32)), some (.int y), none, none]) (fun _ => rfl) (fun x6_4 ex6_4 => ?_)
    replace ex6_4 := ex6_4.symm; subst ex6_4
    exact q_weak [true, true, true, true, true, true, true, false, false] rfl (sn_X3_fits_92 hX    x1 x2 x3 x4 (1 : Int32) (1 : Int32) Q K73 hK73 m_2 h)
set_option maxRecDepth 100000 in
set_option maxHeartbeats 4000000 in
theorem sn_X3_fits_73 {X : q_X} {G : q_G} (hX : q_C X cX3_fits 9 RX3 (some .int) 3 77)   (x1 : Int32) (x2 : Int32) (x3 : Int32) (x4 : Int32) (Q : Int32 → q_Mem → Prop)  (mem : q_Mem) (h : wp_X3_fits_73   x1 x2 x3 x4 mem Q) : q_J X G 9 (q_QI X G Q) 73 [some (.ref (q_ad G 72)), some (.int x1), some (.int x2), some (.int x3), some (.int x4), none, none, none, none] [] mem := by
  obtain ⟨I, ⟨n, h0⟩, hs⟩ := h
  have key : ∀ (n : Nat) (yx3 : Int32) (yx4 : Int32) (ymem : q_Mem), I n yx3 yx4 ymem → q_J X G 9 (q_QI X G Q) 73 [some (.ref (q_ad G 72)), some (.int x1), some (.int x2), some (.int yx3), some (.int yx4), none, none, none, none] [] ymem := by
    intro n
    induction n using Nat.strongRecOn with
    | ind n ih =>
      intro yx3 yx4 ymem hI
      exact sn_X3_fits_73_b hX    x1 x2 yx3 yx4 Q  (fun (zx3 : Int32) (zx4 : Int32) (zmem : q_Mem) => ∃ n2, n2 < n ∧ I n2 zx3 zx4 zmem) (fun zx3 zx4 zmem hz => by obtain ⟨n2, h1, h2⟩ := hz; exact ih n2 h1 zx3 zx4 zmem h2) ymem (hs n yx3 yx4 ymem hI)
  exact key n x3 x4 mem h0
set_option maxRecDepth 100000 in
set_option maxHeartbeats 4000000 in
theorem sn_X3_fits_68 {X : q_X} {G : q_G} (hX : q_C X cX3_fits 9 RX3 (some .int) 3 77)   (x1 : Int32) (x2 : Int32) (Q : Int32 → q_Mem → Prop)  (mem : q_Mem) (h : wp_X3_fits_68   x1 x2 mem Q) : q_J X G 9 (q_QI X G Q) 68 [some (.ref (q_ad G 72)), some (.int x1), some (.int x2), none, none, none, none, none, none] [] mem := by
  unfold wp_X3_fits_68 at h
  refine q_iconst hX (0 : Int32) q_ki_0 dX3_fits_68 69 rfl ?_
  refine q_istore_n hX dX3_fits_69 70 rfl (Nat.le_of_ble_eq_true rfl) rfl (fun y => [some (.ref (q_ad G 72)), some (.int x1), some (.int x2), some (.int y), none, none, none, none, none]) (fun _ => rfl) (fun x3_1 ex3_1 => ?_)
  replace ex3_1 := ex3_1.symm; subst ex3_1
  refine q_iconst hX (0 : Int32) q_ki_0 dX3_fits_70 71 rfl ?_
  refine q_istore hX dX3_fits_71 73 rfl (Nat.le_of_ble_eq_true rfl) rfl (fun y => [some (.ref (q_ad G 72)), some (.int x1), some (.int x2), some (.int (0 : Int32)), some (.int y), none, none, none, none]) (fun _ => rfl) (fun x4_2 ex4_2 => ?_)
  replace ex4_2 := ex4_2.symm; subst ex4_2
  exact q_weak [true, true, true, true, true, false, false, false, false] rfl (sn_X3_fits_73 hX    x1 x2 (0 : Int32) (0 : Int32) Q  mem h)
set_option maxRecDepth 100000 in
set_option maxHeartbeats 4000000 in
theorem sn_X3_fits_45_b {X : q_X} {G : q_G} (hX : q_C X cX3_fits 9 RX3 (some .int) 3 77)   (x1 : Int32) (x2 : Int32) (x3 : Int32) (Q : Int32 → q_Mem → Prop) (K45 : Int32 → q_Mem → Prop) (hK45 : ∀ (yx3 : Int32) (ymem : q_Mem), K45 yx3 ymem → q_J X G 9 (q_QI X G Q) 45 [some (.ref (q_ad G 72)), some (.int x1), some (.int x2), some (.int yx3), none, none, none, none, none] [] ymem) (mem : q_Mem) (h : wp_X3_fits_45_b K45  x1 x2 x3 mem Q) : q_J X G 9 (q_QI X G Q) 45 [some (.ref (q_ad G 72)), some (.int x1), some (.int x2), some (.int x3), none, none, none, none, none] [] mem := by
  unfold wp_X3_fits_45_b at h
  refine q_iload_n hX rfl dX3_fits_45 46 rfl ?_
  refine q_iconst hX (5 : Int32) q_ki_5 dX3_fits_46 47 rfl ?_
  refine q_icmp_ge hX dX3_fits_47 50 68 rfl (by decide) (fun c_1 => ?_) (fun c_1 => ?_)
  · replace h := h.1 c_1
    exact q_weak [true, true, true, false, false, false, false, false, false] rfl (sn_X3_fits_68 hX    x1 x2 Q  mem h)
  · replace h := h.2 c_1
    refine q_aload_n hX rfl dX3_fits_50 51 rfl ?_
    refine gf_X3_67 hX dX3_fits_51 54 rfl ?_
    refine q_iload_n hX rfl dX3_fits_54 55 rfl ?_
    refine q_aload_n hX rfl dX3_fits_55 56 rfl ?_
    refine gf_X3_37 hX dX3_fits_56 59 rfl ?_
    refine q_iload_n hX rfl dX3_fits_59 60 rfl ?_
    obtain ⟨g_2, h⟩ := h
    refine q_iald hX g_2 dX3_fits_60 61 rfl ?_
    obtain ⟨g_3, h⟩ := h
    refine q_iast hX g_3 dX3_fits_61 62 rfl (fun m_4 em_4 => ?_)
    replace h := h m_4 em_4
    refine q_iinc hX (1 : Int32) q_ki_1 rfl dX3_fits_62 65 rfl (Nat.le_of_ble_eq_true rfl) rfl (fun y => [some (.ref (q_ad G 72)), some (.int x1), some (.int x2), some (.int y), none, none, none, none, none]) (fun _ => rfl) (fun x3_5 ex3_5 => ?_)
    replace h := h x3_5 ex3_5
    refine q_goto hX dX3_fits_65 45 (by decide) ?_
    exact q_weak [true, true, true, true, false, false, false, false, false] rfl (hK45 x3_5 m_4 h)
set_option maxRecDepth 100000 in
set_option maxHeartbeats 4000000 in
theorem sn_X3_fits_45 {X : q_X} {G : q_G} (hX : q_C X cX3_fits 9 RX3 (some .int) 3 77)   (x1 : Int32) (x2 : Int32) (x3 : Int32) (Q : Int32 → q_Mem → Prop)  (mem : q_Mem) (h : wp_X3_fits_45   x1 x2 x3 mem Q) : q_J X G 9 (q_QI X G Q) 45 [some (.ref (q_ad G 72)), some (.int x1), some (.int x2), some (.int x3), none, none, none, none, none] [] mem := by
  obtain ⟨I, ⟨n, h0⟩, hs⟩ := h
  have key : ∀ (n : Nat) (yx3 : Int32) (ymem : q_Mem), I n yx3 ymem → q_J X G 9 (q_QI X G Q) 45 [some (.ref (q_ad G 72)), some (.int x1), some (.int x2), some (.int yx3), none, none, none, none, none] [] ymem := by
    intro n
    induction n using Nat.strongRecOn with
    | ind n ih =>
      intro yx3 ymem hI
      exact sn_X3_fits_45_b hX    x1 x2 yx3 Q  (fun (zx3 : Int32) (zmem : q_Mem) => ∃ n2, n2 < n ∧ I n2 zx3 zmem) (fun zx3 zmem hz => by obtain ⟨n2, h1, h2⟩ := hz; exact ih n2 h1 zx3 zmem h2) ymem (hs n yx3 ymem hI)
  exact key n x3 mem h0
set_option maxRecDepth 100000 in
set_option maxHeartbeats 4000000 in
theorem sn_X3_fits_0 {X : q_X} {G : q_G} (hX : q_C X cX3_fits 9 RX3 (some .int) 3 77)    (Q : Int32 → q_Mem → Prop)  (mem : q_Mem) (h : wp_X3_fits    mem Q) : q_J X G 9 (q_QI X G Q) 0 [some (.ref (q_ad G 72)), none, none, none, none, none, none, none, none] [] mem := by
  unfold wp_X3_fits at h
  refine q_aload_n hX rfl dX3_fits_0 1 rfl ?_
  refine cl_X3_128 hX  ⟨Nat.le_of_ble_eq_true rfl, Nat.le_of_ble_eq_true rfl⟩ (Nat.le_of_ble_eq_true rfl) dX3_fits_1 4 rfl (sn_X3_mayGo   mem _ h) (fun r_1 m_2 h => ?_)
  refine q_if_eq hX dX3_fits_4 7 16 rfl (by decide) (fun c_3 => ?_) (fun c_3 => ?_)
  · replace h := h.1 c_3
    refine q_bipush hX (-103 : Int32) q_kb_m103 dX3_fits_16 18 rfl ?_
    exact q_iret hX dX3_fits_18 h
  · replace h := h.2 c_3
    refine q_aload_n hX rfl dX3_fits_7 8 rfl ?_
    refine gf_X3_178 hX dX3_fits_8 11 rfl ?_
    refine q_bipush hX (30 : Int32) q_kb_30 dX3_fits_11 13 rfl ?_
    refine q_icmp_ne hX dX3_fits_13 16 19 rfl (by decide) (fun c_4 => ?_) (fun c_4 => ?_)
    · replace h := h.1 c_4
      refine q_aload_n hX rfl dX3_fits_19 20 rfl ?_
      refine q_dup hX rfl dX3_fits_20 21 rfl ?_
      refine gf_X3_178 hX dX3_fits_21 24 rfl ?_
      refine q_iconst hX (1 : Int32) q_ki_1 dX3_fits_24 25 rfl ?_
      refine q_iadd hX dX3_fits_25 26 rfl ?_
      refine pf_X3_178 hX dX3_fits_26 29 rfl (fun m_5 em_5 => ?_)
      replace h := h m_5 em_5
      refine q_aload_n hX rfl dX3_fits_29 30 rfl ?_
      refine gf_X3_70 hX dX3_fits_30 33 rfl ?_
      refine q_istore_n hX dX3_fits_33 34 rfl (Nat.le_of_ble_eq_true rfl) rfl (fun y => [some (.ref (q_ad G 72)), some (.int y), none, none, none, none, none, none, none]) (fun _ => rfl) (fun x1_6 ex1_6 => ?_)
      replace h := h x1_6 ex1_6
      refine q_aload_n hX rfl dX3_fits_34 35 rfl ?_
      refine gf_X3_111 hX dX3_fits_35 38 rfl ?_
      refine q_istore_n hX dX3_fits_38 39 rfl (Nat.le_of_ble_eq_true rfl) rfl (fun y => [some (.ref (q_ad G 72)), some (.int x1_6), some (.int y), none, none, none, none, none, none]) (fun _ => rfl) (fun x2_7 ex2_7 => ?_)
      replace h := h x2_7 ex2_7
      refine q_aload_n hX rfl dX3_fits_39 40 rfl ?_
      refine cl_X3_172 hX  ⟨Nat.le_of_ble_eq_true rfl, Nat.le_of_ble_eq_true rfl⟩ (Nat.le_of_ble_eq_true rfl) dX3_fits_40 43 rfl (sn_X3_layAside   m_5 _ h) (fun m_9 h => ?_)
      refine q_iconst hX (0 : Int32) q_ki_0 dX3_fits_43 44 rfl ?_
      refine q_istore_n hX dX3_fits_44 45 rfl (Nat.le_of_ble_eq_true rfl) rfl (fun y => [some (.ref (q_ad G 72)), some (.int x1_6), some (.int x2_7), some (.int y), none, none, none, none, none]) (fun _ => rfl) (fun x3_10 ex3_10 => ?_)
      replace ex3_10 := ex3_10.symm; subst ex3_10
      exact q_weak [true, true, true, true, false, false, false, false, false] rfl (sn_X3_fits_45 hX    x1_6 x2_7 (0 : Int32) Q  m_9 h)
    · replace h := h.2 c_4
      refine q_bipush hX (-103 : Int32) q_kb_m103 dX3_fits_16 18 rfl ?_
      exact q_iret hX dX3_fits_18 h
set_option maxRecDepth 100000 in
set_option maxHeartbeats 4000000 in
theorem sn_X3_fits {l : Launch} {G : q_G}   (mem : q_Mem) (Q : Int32 → q_Mem → Prop) (h : wp_X3_fits  mem Q) : q_MI l G yX3_fits cX3_fits 9 (some .int) rm_X3_fits [.ref (q_ad G 72)] mem Q := by
  refine q_metI 8 (by decide +kernel) (Nat.le_of_ble_eq_true rfl) rfl (fun X hl hX => ?_)
  subst hl
  exact sn_X3_fits_0 hX   Q mem h

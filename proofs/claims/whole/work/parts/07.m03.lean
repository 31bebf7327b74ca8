-- X2_nothingCanPass
def wp_X2_nothingCanPass_17    (mem : q_Mem) (Q : Int32 → q_Mem → Prop) : Prop := Q (1 : Int32) mem
def wp_X2_nothingCanPass    (mem : q_Mem) (Q : Int32 → q_Mem → Prop) : Prop := (((mem 1 11) = 0) → wp_X2_nothingCanPass_17    mem Q) ∧ ((¬ (mem 1 11) = 0) → ((¬ (mem 0 4) = 0) → Q (0 : Int32) mem) ∧ (((mem 0 4) = 0) → wp_X2_nothingCanPass_17    mem Q))
set_option maxRecDepth 100000 in
set_option maxHeartbeats 4000000 in
theorem sn_X2_nothingCanPass_17 {X : q_X} {G : q_G} (hX : q_C X cX2_nothingCanPass 1 RX2 (some .boolean) 0 0)    (Q : Int32 → q_Mem → Prop)  (mem : q_Mem) (h : wp_X2_nothingCanPass_17    mem Q) : q_J X G 1 (q_QI X G Q) 17 [some (.ref (q_ad G 0))] [] mem := by
  unfold wp_X2_nothingCanPass_17 at h
  refine q_iconst hX (1 : Int32) q_ki_1 dX2_nothingCanPass_17 18 rfl ?_
  refine q_goto hX dX2_nothingCanPass_18 22 (by decide) ?_
  exact q_zret hX dX2_nothingCanPass_22 (by decide) h
set_option maxRecDepth 100000 in
set_option maxHeartbeats 4000000 in
theorem sn_X2_nothingCanPass_0 {X : q_X} {G : q_G} (hX : q_C X cX2_nothingCanPass 1 RX2 (some .boolean) 0 0)    (Q : Int32 → q_Mem → Prop)  (mem : q_Mem) (h : wp_X2_nothingCanPass    mem Q) : q_J X G 1 (q_QI X G Q) 0 [some (.ref (q_ad G 0))] [] mem := by
  unfold wp_X2_nothingCanPass at h
  refine q_aload_n hX rfl dX2_nothingCanPass_0 1 rfl ?_
  refine gf_X2_10 hX dX2_nothingCanPass_1 4 rfl ?_
  refine gf_X2_54 hX (Or.inl rfl) dX2_nothingCanPass_4 7 rfl ?_
  refine q_if_eq hX dX2_nothingCanPass_7 10 17 rfl (by decide) (fun c_1 => ?_) (fun c_1 => ?_)
  · replace h := h.1 c_1
    exact q_weak [true] rfl (sn_X2_nothingCanPass_17 hX     Q  mem h)
  · replace h := h.2 c_1
    refine q_aload_n hX rfl dX2_nothingCanPass_10 11 rfl ?_
    refine gf_X2_31 hX dX2_nothingCanPass_11 14 rfl ?_
    refine q_if_ne hX dX2_nothingCanPass_14 17 21 rfl (by decide) (fun c_2 => ?_) (fun c_2 => ?_)
    · replace h := h.1 c_2
      refine q_iconst hX (0 : Int32) q_ki_0 dX2_nothingCanPass_21 22 rfl ?_
      exact q_zret hX dX2_nothingCanPass_22 (by decide) h
    · replace h := h.2 c_2
      exact q_weak [true] rfl (sn_X2_nothingCanPass_17 hX     Q  mem h)
set_option maxRecDepth 100000 in
set_option maxHeartbeats 4000000 in
theorem sn_X2_nothingCanPass {l : Launch} {G : q_G}   (mem : q_Mem) (Q : Int32 → q_Mem → Prop) (h : wp_X2_nothingCanPass  mem Q) : q_MI l G yX2_nothingCanPass cX2_nothingCanPass 1 (some .boolean) rm_X2_nothingCanPass [.ref (q_ad G 0)] mem Q := by
  refine q_metI 0 (by decide +kernel) (Nat.le_of_ble_eq_true rfl) rfl (fun X hl hX => ?_)
  subst hl
  exact sn_X2_nothingCanPass_0 hX   Q mem h

-- X2_hourBehind
def wp_X2_hourBehind  (a0 : Int32)  (mem : q_Mem) (Q : Int32 → q_Mem → Prop) : Prop := (((mem 0 4) ≤ (a0 + (1 : Int32))) → Q (0 : Int32) mem) ∧ ((¬ (mem 0 4) ≤ (a0 + (1 : Int32))) → Q (a0 + (1 : Int32)) mem)
set_option maxRecDepth 100000 in
set_option maxHeartbeats 4000000 in
theorem sn_X2_hourBehind_0 {X : q_X} {G : q_G} (hX : q_C X cX2_hourBehind 2 RX2 (some .int) 0 0) (a0 : Int32)   (Q : Int32 → q_Mem → Prop)  (mem : q_Mem) (h : wp_X2_hourBehind  a0  mem Q) : q_J X G 2 (q_QI X G Q) 0 [some (.ref (q_ad G 0)), some (.int a0)] [] mem := by
  unfold wp_X2_hourBehind at h
  refine q_iload_n hX rfl dX2_hourBehind_0 1 rfl ?_
  refine q_iconst hX (1 : Int32) q_ki_1 dX2_hourBehind_1 2 rfl ?_
  refine q_iadd hX dX2_hourBehind_2 3 rfl ?_
  refine q_aload_n hX rfl dX2_hourBehind_3 4 rfl ?_
  refine gf_X2_31 hX dX2_hourBehind_4 7 rfl ?_
  refine q_icmp_ge hX dX2_hourBehind_7 10 16 rfl (by decide) (fun c_1 => ?_) (fun c_1 => ?_)
  · replace h := h.1 c_1
    refine q_iconst hX (0 : Int32) q_ki_0 dX2_hourBehind_16 17 rfl ?_
    exact q_iret hX dX2_hourBehind_17 h
  · replace h := h.2 c_1
    refine q_iload_n hX rfl dX2_hourBehind_10 11 rfl ?_
    refine q_iconst hX (1 : Int32) q_ki_1 dX2_hourBehind_11 12 rfl ?_
    refine q_iadd hX dX2_hourBehind_12 13 rfl ?_
    refine q_goto hX dX2_hourBehind_13 17 (by decide) ?_
    exact q_iret hX dX2_hourBehind_17 h
set_option maxRecDepth 100000 in
set_option maxHeartbeats 4000000 in
theorem sn_X2_hourBehind {l : Launch} {G : q_G} (a0 : Int32)  (mem : q_Mem) (Q : Int32 → q_Mem → Prop) (h : wp_X2_hourBehind a0 mem Q) : q_MI l G yX2_hourBehind cX2_hourBehind 2 (some .int) rm_X2_hourBehind [.ref (q_ad G 0), .int a0] mem Q := by
  refine q_metI 0 (by decide +kernel) (Nat.le_of_ble_eq_true rfl) rfl (fun X hl hX => ?_)
  subst hl
  exact sn_X2_hourBehind_0 hX a0  Q mem h

-- X2_readingsHoldBehind
def wp_X2_readingsHoldBehind_48 (K2 : Int32 → q_Mem → Prop) (a0 : Int32) (x2 : Int32) (mem : q_Mem) (Q : Int32 → q_Mem → Prop) : Prop := ∀ x2_1 : Int32, x2_1 = (x2 + (1 : Int32)) → K2 x2_1 mem
def wp_X2_readingsHoldBehind_2_b (K2 : Int32 → q_Mem → Prop) (a0 : Int32) (x2 : Int32) (mem : q_Mem) (Q : Int32 → q_Mem → Prop) : Prop := (((mem 0 8) ≤ x2) → Q (1 : Int32) mem) ∧ ((¬ (mem 0 8) ≤ x2) → vp_in x2 12 ∧ (vp_in (1 : Int32) (q_al (60 + x2.toNatClampNeg)) ∧ (((¬ (mem (60 + x2.toNatClampNeg) (1 : Int32).toNatClampNeg) = a0) → wp_X2_readingsHoldBehind_48 K2 a0 x2 mem Q) ∧ (((mem (60 + x2.toNatClampNeg) (1 : Int32).toNatClampNeg) = a0) → vp_in (0 : Int32) (q_al (60 + x2.toNatClampNeg)) ∧ (wp_X1_dampOf 16 (mem (60 + x2.toNatClampNeg) (0 : Int32).toNatClampNeg) mem (fun r_7 m_8 => vp_in (2 : Int32) (q_al (60 + x2.toNatClampNeg)) ∧ (vp_in (3 : Int32) (q_al (60 + x2.toNatClampNeg)) ∧ (wp_X2_within r_7 (m_8 (60 + x2.toNatClampNeg) (2 : Int32).toNatClampNeg) (m_8 (60 + x2.toNatClampNeg) (3 : Int32).toNatClampNeg) m_8 (fun r_11 m_12 => ((¬ r_11 = 0) → wp_X2_readingsHoldBehind_48 K2 a0 x2 m_12 Q) ∧ ((r_11 = 0) → Q (0 : Int32) m_12))))))))))
def wp_X2_readingsHoldBehind_2  (a0 : Int32) (x2 : Int32) (mem : q_Mem) (Q : Int32 → q_Mem → Prop) : Prop := ∃ I : Nat → Int32 → q_Mem → Prop, (∃ n, I n x2 mem) ∧ ∀ (n : Nat) (yx2 : Int32) (ymem : q_Mem), I n yx2 ymem → wp_X2_readingsHoldBehind_2_b  (fun (zx2 : Int32) (zmem : q_Mem) => ∃ n2, n2 < n ∧ I n2 zx2 zmem) a0 yx2 ymem Q
def wp_X2_readingsHoldBehind  (a0 : Int32)  (mem : q_Mem) (Q : Int32 → q_Mem → Prop) : Prop := wp_X2_readingsHoldBehind_2  a0 (0 : Int32) mem Q
set_option maxRecDepth 100000 in
set_option maxHeartbeats 4000000 in
theorem sn_X2_readingsHoldBehind_48 {X : q_X} {G : q_G} (hX : q_C X cX2_readingsHoldBehind 4 RX2 (some .boolean) 2 45) (a0 : Int32)  (x2 : Int32) (Q : Int32 → q_Mem → Prop) (K2 : Int32 → q_Mem → Prop) (hK2 : ∀ (yx2 : Int32) (ymem : q_Mem), K2 yx2 ymem → q_J X G 4 (q_QI X G Q) 2 [some (.ref (q_ad G 0)), some (.int a0), some (.int yx2), none] [] ymem) (mem : q_Mem) (h : wp_X2_readingsHoldBehind_48 K2 a0 x2 mem Q) : q_J X G 4 (q_QI X G Q) 48 [some (.ref (q_ad G 0)), some (.int a0), some (.int x2), none] [] mem := by
  unfold wp_X2_readingsHoldBehind_48 at h
  refine q_iinc hX (1 : Int32) q_ki_1 rfl dX2_readingsHoldBehind_48 51 rfl (Nat.le_of_ble_eq_true rfl) rfl (fun y => [some (.ref (q_ad G 0)), some (.int a0), some (.int y), none]) (fun _ => rfl) (fun x2_1 ex2_1 => ?_)
  replace h := h x2_1 ex2_1
  refine q_goto hX dX2_readingsHoldBehind_51 2 (by decide) ?_
  exact q_weak [true, true, true, false] rfl (hK2 x2_1 mem h)
set_option maxRecDepth 100000 in
set_option maxHeartbeats 4000000 in
theorem sn_X2_readingsHoldBehind_2_b {X : q_X} {G : q_G} (hX : q_C X cX2_readingsHoldBehind 4 RX2 (some .boolean) 2 45) (a0 : Int32)  (x2 : Int32) (Q : Int32 → q_Mem → Prop) (K2 : Int32 → q_Mem → Prop) (hK2 : ∀ (yx2 : Int32) (ymem : q_Mem), K2 yx2 ymem → q_J X G 4 (q_QI X G Q) 2 [some (.ref (q_ad G 0)), some (.int a0), some (.int yx2), none] [] ymem) (mem : q_Mem) (h : wp_X2_readingsHoldBehind_2_b K2 a0 x2 mem Q) : q_J X G 4 (q_QI X G Q) 2 [some (.ref (q_ad G 0)), some (.int a0), some (.int x2), none] [] mem := by
  unfold wp_X2_readingsHoldBehind_2_b at h
  refine q_iload_n hX rfl dX2_readingsHoldBehind_2 3 rfl ?_
  refine q_aload_n hX rfl dX2_readingsHoldBehind_3 4 rfl ?_
  refine gf_X2_44 hX dX2_readingsHoldBehind_4 7 rfl ?_
  refine q_icmp_ge hX dX2_readingsHoldBehind_7 10 54 rfl (by decide) (fun c_1 => ?_) (fun c_1 => ?_)
  · replace h := h.1 c_1
    refine q_iconst hX (1 : Int32) q_ki_1 dX2_readingsHoldBehind_54 55 rfl ?_
    exact q_zret hX dX2_readingsHoldBehind_55 (by decide) h
  · replace h := h.2 c_1
    refine q_aload_n hX rfl dX2_readingsHoldBehind_10 11 rfl ?_
    refine gf_X2_41 hX dX2_readingsHoldBehind_11 14 rfl ?_
    refine q_iload_n hX rfl dX2_readingsHoldBehind_14 15 rfl ?_
    obtain ⟨g_2, h⟩ := h
    refine q_aald hX rfl g_2 dX2_readingsHoldBehind_15 16 rfl ?_
    refine q_astore_n hX dX2_readingsHoldBehind_16 17 rfl (Nat.le_of_ble_eq_true rfl) rfl (fun y => [some (.ref (q_ad G 0)), some (.int a0), some (.int x2), some (.ref y)]) (fun _ => rfl) (fun r3_3 er3_3 => ?_)
    replace er3_3 := er3_3.symm; subst er3_3
    refine q_aload_n hX rfl dX2_readingsHoldBehind_17 18 rfl ?_
    refine q_iconst hX (1 : Int32) q_ki_1 dX2_readingsHoldBehind_18 19 rfl ?_
    obtain ⟨g_4, h⟩ := h
    refine q_iald hX g_4 dX2_readingsHoldBehind_19 20 rfl ?_
    refine q_iload_n hX rfl dX2_readingsHoldBehind_20 21 rfl ?_
    refine q_icmp_ne hX dX2_readingsHoldBehind_21 24 48 rfl (by decide) (fun c_5 => ?_) (fun c_5 => ?_)
    · replace h := h.1 c_5
      exact q_weak [true, true, true, false] rfl (sn_X2_readingsHoldBehind_48 hX  a0  x2 Q K2 hK2 mem h)
    · replace h := h.2 c_5
      refine q_aload_n hX rfl dX2_readingsHoldBehind_24 25 rfl ?_
      refine gf_X2_16 hX dX2_readingsHoldBehind_25 28 rfl ?_
      refine q_aload_n hX rfl dX2_readingsHoldBehind_28 29 rfl ?_
      refine q_iconst hX (0 : Int32) q_ki_0 dX2_readingsHoldBehind_29 30 rfl ?_
      obtain ⟨g_6, h⟩ := h
      refine q_iald hX g_6 dX2_readingsHoldBehind_30 31 rfl ?_
      refine cl_X2_179 hX (Or.inr rfl) ⟨Nat.le_of_ble_eq_true rfl, Nat.le_of_ble_eq_true rfl⟩ (Nat.le_of_ble_eq_true rfl) dX2_readingsHoldBehind_31 34 rfl (sn_X1_dampOf 16 (mem (60 + x2.toNatClampNeg) (0 : Int32).toNatClampNeg) (Or.inr rfl) mem _ h) (fun r_7 m_8 h => ?_)
      refine q_aload_n hX rfl dX2_readingsHoldBehind_34 35 rfl ?_
      refine q_iconst hX (2 : Int32) q_ki_2 dX2_readingsHoldBehind_35 36 rfl ?_
      obtain ⟨g_9, h⟩ := h
      refine q_iald hX g_9 dX2_readingsHoldBehind_36 37 rfl ?_
      refine q_aload_n hX rfl dX2_readingsHoldBehind_37 38 rfl ?_
      refine q_iconst hX (3 : Int32) q_ki_3 dX2_readingsHoldBehind_38 39 rfl ?_
      obtain ⟨g_10, h⟩ := h
      refine q_iald hX g_10 dX2_readingsHoldBehind_39 40 rfl ?_
      refine cl_X2_50 hX  ⟨Nat.le_of_ble_eq_true rfl, Nat.le_of_ble_eq_true rfl⟩ (Nat.le_of_ble_eq_true rfl) dX2_readingsHoldBehind_40 43 rfl (sn_X2_within r_7 (m_8 (60 + x2.toNatClampNeg) (2 : Int32).toNatClampNeg) (m_8 (60 + x2.toNatClampNeg) (3 : Int32).toNatClampNeg)  m_8 _ h) (fun r_11 m_12 h => ?_)
      refine q_if_ne hX dX2_readingsHoldBehind_43 46 48 rfl (by decide) (fun c_13 => ?_) (fun c_13 => ?_)
      · replace h := h.1 c_13
        exact q_weak [true, true, true, false] rfl (sn_X2_readingsHoldBehind_48 hX  a0  x2 Q K2 hK2 m_12 h)
      · replace h := h.2 c_13
        refine q_iconst hX (0 : Int32) q_ki_0 dX2_readingsHoldBehind_46 47 rfl ?_
        exact q_zret hX dX2_readingsHoldBehind_47 (by decide) h
set_option maxRecDepth 100000 in
set_option maxHeartbeats 4000000 in
theorem sn_X2_readingsHoldBehind_2 {X : q_X} {G : q_G} (hX : q_C X cX2_readingsHoldBehind 4 RX2 (some .boolean) 2 45) (a0 : Int32)  (x2 : Int32) (Q : Int32 → q_Mem → Prop)  (mem : q_Mem) (h : wp_X2_readingsHoldBehind_2  a0 x2 mem Q) : q_J X G 4 (q_QI X G Q) 2 [some (.ref (q_ad G 0)), some (.int a0), some (.int x2), none] [] mem := by
  obtain ⟨I, ⟨n, h0⟩, hs⟩ := h
  have key : ∀ (n : Nat) (yx2 : Int32) (ymem : q_Mem), I n yx2 ymem → q_J X G 4 (q_QI X G Q) 2 [some (.ref (q_ad G 0)), some (.int a0), some (.int yx2), none] [] ymem := by
    intro n
    induction n using Nat.strongRecOn with
    | ind n ih =>
      intro yx2 ymem hI
      exact sn_X2_readingsHoldBehind_2_b hX  a0  yx2 Q  (fun (zx2 : Int32) (zmem : q_Mem) => ∃ n2, n2 < n ∧ I n2 zx2 zmem) (fun zx2 zmem hz => by obtain ⟨n2, h1, h2⟩ := hz; exact ih n2 h1 zx2 zmem h2) ymem (hs n yx2 ymem hI)
  exact key n x2 mem h0
set_option maxRecDepth 100000 in
set_option maxHeartbeats 4000000 in
theorem sn_X2_readingsHoldBehind_0 {X : q_X} {G : q_G} (hX : q_C X cX2_readingsHoldBehind 4 RX2 (some .boolean) 2 45) (a0 : Int32)   (Q : Int32 → q_Mem → Prop)  (mem : q_Mem) (h : wp_X2_readingsHoldBehind  a0  mem Q) : q_J X G 4 (q_QI X G Q) 0 [some (.ref (q_ad G 0)), some (.int a0), none, none] [] mem := by
  unfold wp_X2_readingsHoldBehind at h
  refine q_iconst hX (0 : Int32) q_ki_0 dX2_readingsHoldBehind_0 1 rfl ?_
  refine q_istore_n hX dX2_readingsHoldBehind_1 2 rfl (Nat.le_of_ble_eq_true rfl) rfl (fun y => [some (.ref (q_ad G 0)), some (.int a0), some (.int y), none]) (fun _ => rfl) (fun x2_1 ex2_1 => ?_)
  replace ex2_1 := ex2_1.symm; subst ex2_1
  exact q_weak [true, true, true, false] rfl (sn_X2_readingsHoldBehind_2 hX  a0  (0 : Int32) Q  mem h)
set_option maxRecDepth 100000 in
set_option maxHeartbeats 4000000 in
theorem sn_X2_readingsHoldBehind {l : Launch} {G : q_G} (a0 : Int32)  (mem : q_Mem) (Q : Int32 → q_Mem → Prop) (h : wp_X2_readingsHoldBehind a0 mem Q) : q_MI l G yX2_readingsHoldBehind cX2_readingsHoldBehind 4 (some .boolean) rm_X2_readingsHoldBehind [.ref (q_ad G 0), .int a0] mem Q := by
  refine q_metI 2 (by decide +kernel) (Nat.le_of_ble_eq_true rfl) rfl (fun X hl hX => ?_)
  subst hl
  exact sn_X2_readingsHoldBehind_0 hX a0  Q mem h

-- X2_readingsHoldWith
def wp_X2_readingsHoldWith_19_b (K19 : Int32 → Int32 → q_Mem → Prop) (a0 : Int32) (a1 : Int32) (x3 : Int32) (x4 : Int32) (mem : q_Mem) (Q : Int32 → q_Mem → Prop) : Prop := ((a1 < x4) → Q (1 : Int32) mem) ∧ ((¬ a1 < x4) → vp_in x3 24 ∧ (wp_X1_moveWater 16 (35 + x3.toNatClampNeg) a0 mem (fun m_4 => wp_X2_hourBehind x3 m_4 (fun r_5 m_6 => wp_X2_readingsHoldBehind x4 m_6 (fun r_8 m_9 => ((¬ r_8 = 0) → ∀ x4_11 : Int32, x4_11 = (x4 + (1 : Int32)) → K19 r_5 x4_11 m_9) ∧ ((r_8 = 0) → Q (0 : Int32) m_9))))))
def wp_X2_readingsHoldWith_19  (a0 : Int32) (a1 : Int32) (x3 : Int32) (x4 : Int32) (mem : q_Mem) (Q : Int32 → q_Mem → Prop) : Prop := ∃ I : Nat → Int32 → Int32 → q_Mem → Prop, (∃ n, I n x3 x4 mem) ∧ ∀ (n : Nat) (yx3 : Int32) (yx4 : Int32) (ymem : q_Mem), I n yx3 yx4 ymem → wp_X2_readingsHoldWith_19_b  (fun (zx3 : Int32) (zx4 : Int32) (zmem : q_Mem) => ∃ n2, n2 < n ∧ I n2 zx3 zx4 zmem) a0 a1 yx3 yx4 ymem Q
def wp_X2_readingsHoldWith  (a0 : Int32) (a1 : Int32)  (mem : q_Mem) (Q : Int32 → q_Mem → Prop) : Prop := wp_X1_becomeAs 16 1 mem (fun m_2 => ∀ x3_3 : Int32, x3_3 = (m_2 0 5) → wp_X2_readingsHoldWith_19  a0 a1 x3_3 (1 : Int32) m_2 Q)
set_option maxRecDepth 100000 in
set_option maxHeartbeats 4000000 in
theorem sn_X2_readingsHoldWith_19_b {X : q_X} {G : q_G} (hX : q_C X cX2_readingsHoldWith 5 RX2 (some .boolean) 4 94) (a0 : Int32) (a1 : Int32)  (x3 : Int32) (x4 : Int32) (Q : Int32 → q_Mem → Prop) (K19 : Int32 → Int32 → q_Mem → Prop) (hK19 : ∀ (yx3 : Int32) (yx4 : Int32) (ymem : q_Mem), K19 yx3 yx4 ymem → q_J X G 5 (q_QI X G Q) 19 [some (.ref (q_ad G 0)), some (.int a0), some (.int a1), some (.int yx3), some (.int yx4)] [] ymem) (mem : q_Mem) (h : wp_X2_readingsHoldWith_19_b K19 a0 a1 x3 x4 mem Q) : q_J X G 5 (q_QI X G Q) 19 [some (.ref (q_ad G 0)), some (.int a0), some (.int a1), some (.int x3), some (.int x4)] [] mem := by
  unfold wp_X2_readingsHoldWith_19_b at h
  refine q_iload hX rfl dX2_readingsHoldWith_19 21 rfl ?_
  refine q_iload_n hX rfl dX2_readingsHoldWith_21 22 rfl ?_
  refine q_icmp_gt hX dX2_readingsHoldWith_22 25 62 rfl (by decide) (fun c_1 => ?_) (fun c_1 => ?_)
  · replace h := h.1 c_1
    refine q_iconst hX (1 : Int32) q_ki_1 dX2_readingsHoldWith_62 63 rfl ?_
    exact q_zret hX dX2_readingsHoldWith_63 (by decide) h
  · replace h := h.2 c_1
    refine q_aload_n hX rfl dX2_readingsHoldWith_25 26 rfl ?_
    refine gf_X2_16 hX dX2_readingsHoldWith_26 29 rfl ?_
    refine q_aload_n hX rfl dX2_readingsHoldWith_29 30 rfl ?_
    refine gf_X2_28 hX dX2_readingsHoldWith_30 33 rfl ?_
    refine q_iload_n hX rfl dX2_readingsHoldWith_33 34 rfl ?_
    obtain ⟨g_2, h⟩ := h
    refine q_aald hX rfl g_2 dX2_readingsHoldWith_34 35 rfl ?_
    refine q_iload_n hX rfl dX2_readingsHoldWith_35 36 rfl ?_
    refine cl_X2_173 hX (Or.inr rfl) ⟨Nat.le_of_ble_eq_true rfl, Nat.le_of_ble_eq_true rfl⟩ (Nat.le_of_ble_eq_true rfl) dX2_readingsHoldWith_36 39 rfl (sn_X1_moveWater 16 (35 + x3.toNatClampNeg) a0 (Or.inr rfl) mem _ h) (fun m_4 h => ?_)
    refine q_aload_n hX rfl dX2_readingsHoldWith_39 40 rfl ?_
    refine q_iload_n hX rfl dX2_readingsHoldWith_40 41 rfl ?_
    refine cl_X2_99 hX  ⟨Nat.le_of_ble_eq_true rfl, Nat.le_of_ble_eq_true rfl⟩ (Nat.le_of_ble_eq_true rfl) dX2_readingsHoldWith_41 44 rfl (sn_X2_hourBehind x3  m_4 _ h) (fun r_5 m_6 h => ?_)
    refine q_istore_n hX dX2_readingsHoldWith_44 45 rfl (Nat.le_of_ble_eq_true rfl) rfl (fun y => [some (.ref (q_ad G 0)), some (.int a0), some (.int a1), some (.int y), some (.int x4)]) (fun _ => rfl) (fun x3_7 ex3_7 => ?_)
    replace ex3_7 := ex3_7.symm; subst ex3_7
    refine q_aload_n hX rfl dX2_readingsHoldWith_45 46 rfl ?_
    refine q_iload hX rfl dX2_readingsHoldWith_46 48 rfl ?_
    refine cl_X2_176 hX  ⟨Nat.le_of_ble_eq_true rfl, Nat.le_of_ble_eq_true rfl⟩ (Nat.le_of_ble_eq_true rfl) dX2_readingsHoldWith_48 51 rfl (sn_X2_readingsHoldBehind x4  m_6 _ h) (fun r_8 m_9 h => ?_)
    refine q_if_ne hX dX2_readingsHoldWith_51 54 56 rfl (by decide) (fun c_10 => ?_) (fun c_10 => ?_)
    · replace h := h.1 c_10
      refine q_iinc hX (1 : Int32) q_ki_1 rfl dX2_readingsHoldWith_56 59 rfl (Nat.le_of_ble_eq_true rfl) rfl (fun y => [some (.ref (q_ad G 0)), some (.int a0), some (.int a1), some (.int r_5), some (.int y)]) (fun _ => rfl) (fun x4_11 ex4_11 => ?_)
      replace h := h x4_11 ex4_11
      refine q_goto hX dX2_readingsHoldWith_59 19 (by decide) ?_
      exact q_weak [true, true, true, true, true] rfl (hK19 r_5 x4_11 m_9 h)
    · replace h := h.2 c_10
      refine q_iconst hX (0 : Int32) q_ki_0 dX2_readingsHoldWith_54 55 rfl ?_
      exact q_zret hX dX2_readingsHoldWith_55 (by decide) h
set_option maxRecDepth 100000 in
set_option maxHeartbeats 4000000 in
theorem sn_X2_readingsHoldWith_19 {X : q_X} {G : q_G} (hX : q_C X cX2_readingsHoldWith 5 RX2 (some .boolean) 4 94) (a0 : Int32) (a1 : Int32)  (x3 : Int32) (x4 : Int32) (Q : Int32 → q_Mem → Prop)  (mem : q_Mem) (h : wp_X2_readingsHoldWith_19  a0 a1 x3 x4 mem Q) : q_J X G 5 (q_QI X G Q) 19 [some (.ref (q_ad G 0)), some (.int a0), some (.int a1), some (.int x3), some (.int x4)] [] mem := by
  obtain ⟨I, ⟨n, h0⟩, hs⟩ := h
  have key : ∀ (n : Nat) (yx3 : Int32) (yx4 : Int32) (ymem : q_Mem), I n yx3 yx4 ymem → q_J X G 5 (q_QI X G Q) 19 [some (.ref (q_ad G 0)), some (.int a0), some (.int a1), some (.int yx3), some (.int yx4)] [] ymem := by
    intro n
    induction n using Nat.strongRecOn with
    | ind n ih =>
      intro yx3 yx4 ymem hI
      exact sn_X2_readingsHoldWith_19_b hX  a0 a1  yx3 yx4 Q  (fun (zx3 : Int32) (zx4 : Int32) (zmem : q_Mem) => ∃ n2, n2 < n ∧ I n2 zx3 zx4 zmem) (fun zx3 zx4 zmem hz => by obtain ⟨n2, h1, h2⟩ := hz; exact ih n2 h1 zx3 zx4 zmem h2) ymem (hs n yx3 yx4 ymem hI)
  exact key n x3 x4 mem h0
set_option maxRecDepth 100000 in
set_option maxHeartbeats 4000000 in
theorem sn_X2_readingsHoldWith_0 {X : q_X} {G : q_G} (hX : q_C X cX2_readingsHoldWith 5 RX2 (some .boolean) 4 94) (a0 : Int32) (a1 : Int32)   (Q : Int32 → q_Mem → Prop)  (mem : q_Mem) (h : wp_X2_readingsHoldWith  a0 a1  mem Q) : q_J X G 5 (q_QI X G Q) 0 [some (.ref (q_ad G 0)), some (.int a0), some (.int a1), none, none] [] mem := by
  unfold wp_X2_readingsHoldWith at h
  refine q_aload_n hX rfl dX2_readingsHoldWith_0 1 rfl ?_
  refine gf_X2_16 hX dX2_readingsHoldWith_1 4 rfl ?_
  refine q_aload_n hX rfl dX2_readingsHoldWith_4 5 rfl ?_
  refine gf_X2_10 hX dX2_readingsHoldWith_5 8 rfl ?_
  refine cl_X2_160 hX (Or.inr rfl) ⟨Nat.le_of_ble_eq_true rfl, Nat.le_of_ble_eq_true rfl⟩ (Nat.le_of_ble_eq_true rfl) dX2_readingsHoldWith_8 11 rfl (sn_X1_becomeAs 16 1 (Or.inr rfl) (Or.inl rfl) mem _ h) (fun m_2 h => ?_)
  refine q_aload_n hX rfl dX2_readingsHoldWith_11 12 rfl ?_
  refine gf_X2_35 hX dX2_readingsHoldWith_12 15 rfl ?_
  refine q_istore_n hX dX2_readingsHoldWith_15 16 rfl (Nat.le_of_ble_eq_true rfl) rfl (fun y => [some (.ref (q_ad G 0)), some (.int a0), some (.int a1), some (.int y), none]) (fun _ => rfl) (fun x3_3 ex3_3 => ?_)
  replace h := h x3_3 ex3_3
  refine q_iconst hX (1 : Int32) q_ki_1 dX2_readingsHoldWith_16 17 rfl ?_
  refine q_istore hX dX2_readingsHoldWith_17 19 rfl (Nat.le_of_ble_eq_true rfl) rfl (fun y => [some (.ref (q_ad G 0)), some (.int a0), some (.int a1), some (.int x3_3), some (.int y)]) (fun _ => rfl) (fun x4_4 ex4_4 => ?_)
  replace ex4_4 := ex4_4.symm; subst ex4_4
  exact q_weak [true, true, true, true, true] rfl (sn_X2_readingsHoldWith_19 hX  a0 a1  x3_3 (1 : Int32) Q  m_2 h)
set_option maxRecDepth 100000 in
set_option maxHeartbeats 4000000 in
theorem sn_X2_readingsHoldWith {l : Launch} {G : q_G} (a0 : Int32) (a1 : Int32)  (mem : q_Mem) (Q : Int32 → q_Mem → Prop) (h : wp_X2_readingsHoldWith a0 a1 mem Q) : q_MI l G yX2_readingsHoldWith cX2_readingsHoldWith 5 (some .boolean) rm_X2_readingsHoldWith [.ref (q_ad G 0), .int a0, .int a1] mem Q := by
  refine q_metI 2 (by decide +kernel) (Nat.le_of_ble_eq_true rfl) rfl (fun X hl hX => ?_)
  subst hl
  exact sn_X2_readingsHoldWith_0 hX a0 a1  Q mem h

-- X2_fits
def wp_X2_fits_65   (x2 : Int32) (mem : q_Mem) (Q : Int32 → q_Mem → Prop) : Prop := Q x2 mem
def wp_X2_fits_59 (K38 : Int32 → Int32 → q_Mem → Prop)  (x1 : Int32) (x2 : Int32) (x3 : Int32) (mem : q_Mem) (Q : Int32 → q_Mem → Prop) : Prop := ∀ x3_1 : Int32, x3_1 = (x3 + (1 : Int32)) → K38 x2 x3_1 mem
def wp_X2_fits_38_b (K38 : Int32 → Int32 → q_Mem → Prop)  (x1 : Int32) (x2 : Int32) (x3 : Int32) (mem : q_Mem) (Q : Int32 → q_Mem → Prop) : Prop := (((10 : Int32) < x3) → wp_X2_fits_65   x2 mem Q) ∧ ((¬ (10 : Int32) < x3) → wp_X2_readingsHoldWith x3 x1 mem (fun r_2 m_3 => ((r_2 = 0) → wp_X2_fits_59 K38  x1 x2 x3 m_3 Q) ∧ ((¬ r_2 = 0) → ∀ x2_5 : Int32, x2_5 = (x2 ||| ((1 : Int32) <<< (x3 &&& 31))) → wp_X2_fits_59 K38  x1 x2_5 x3 m_3 Q)))
def wp_X2_fits_38   (x1 : Int32) (x2 : Int32) (x3 : Int32) (mem : q_Mem) (Q : Int32 → q_Mem → Prop) : Prop := ∃ I : Nat → Int32 → Int32 → q_Mem → Prop, (∃ n, I n x2 x3 mem) ∧ ∀ (n : Nat) (yx2 : Int32) (yx3 : Int32) (ymem : q_Mem), I n yx2 yx3 ymem → wp_X2_fits_38_b  (fun (zx2 : Int32) (zx3 : Int32) (zmem : q_Mem) => ∃ n2, n2 < n ∧ I n2 zx2 zx3 zmem)  x1 yx2 yx3 ymem Q
def wp_X2_fits    (mem : q_Mem) (Q : Int32 → q_Mem → Prop) : Prop := wp_X2_nothingCanPass  mem (fun r_1 m_2 => ((¬ r_1 = 0) → Q (-103 : Int32) m_2) ∧ ((r_1 = 0) → (((m_2 0 9) < (30 : Int32)) → ∀ m_5 : q_Mem, m_5 = q_set m_2 0 (upd (m_2 0) 9 ((m_2 0 9) + (1 : Int32))) → wp_X2_lastHourRead  m_5 (fun r_6 m_7 => wp_X2_fits_38   r_6 (0 : Int32) (0 : Int32) m_7 Q)) ∧ ((¬ (m_2 0 9) < (30 : Int32)) → Q (-103 : Int32) m_2)))
set_option maxRecDepth 100000 in
set_option maxHeartbeats 4000000 in
theorem sn_X2_fits_65 {X : q_X} {G : q_G} (hX : q_C X cX2_fits 4 RX2 (some .int) 5 118)   (x2 : Int32) (Q : Int32 → q_Mem → Prop)  (mem : q_Mem) (h : wp_X2_fits_65   x2 mem Q) : q_J X G 4 (q_QI X G Q) 65 [some (.ref (q_ad G 0)), none, some (.int x2), none] [] mem := by
  unfold wp_X2_fits_65 at h
  refine q_iload_n hX rfl dX2_fits_65 66 rfl ?_
  exact q_iret hX dX2_fits_66 h
set_option maxRecDepth 100000 in
set_option maxHeartbeats 4000000 in
theorem sn_X2_fits_59 {X : q_X} {G : q_G} (hX : q_C X cX2_fits 4 RX2 (some .int) 5 118)   (x1 : Int32) (x2 : Int32) (x3 : Int32) (Q : Int32 → q_Mem → Prop) (K38 : Int32 → Int32 → q_Mem → Prop) (hK38 : ∀ (yx2 : Int32) (yx3 : Int32) (ymem : q_Mem), K38 yx2 yx3 ymem → q_J X G 4 (q_QI X G Q) 38 [some (.ref (q_ad G 0)), some (.int x1), some (.int yx2), some (.int yx3)] [] ymem) (mem : q_Mem) (h : wp_X2_fits_59 K38  x1 x2 x3 mem Q) : q_J X G 4 (q_QI X G Q) 59 [some (.ref (q_ad G 0)), some (.int x1), some (.int x2), some (.int x3)] [] mem := by
  unfold wp_X2_fits_59 at h
  refine q_iinc hX (1 : Int32) q_ki_1 rfl dX2_fits_59 62 rfl (Nat.le_of_ble_eq_true rfl) rfl (fun y => [some (.ref (q_ad G 0)), some (.int x1), some (.int x2), some (.int y)]) (fun _ => rfl) (fun x3_1 ex3_1 => ?_)
  replace h := h x3_1 ex3_1
  refine q_goto hX dX2_fits_62 38 (by decide) ?_
  exact q_weak [true, true, true, true] rfl (hK38 x2 x3_1 mem h)
set_option maxRecDepth 100000 in
set_option maxHeartbeats 4000000 in
theorem sn_X2_fits_38_b {X : q_X} {G : q_G} (hX : q_C X cX2_fits 4 RX2 (some .int) 5 118)   (x1 : Int32) (x2 : Int32) (x3 : Int32) (Q : Int32 → q_Mem → Prop) (K38 : Int32 → Int32 → q_Mem → Prop) (hK38 : ∀ (yx2 : Int32) (yx3 : Int32) (ymem : q_Mem), K38 yx2 yx3 ymem → q_J X G 4 (q_QI X G Q) 38 [some (.ref (q_ad G 0)), some (.int x1), some (.int yx2), some (.int yx3)] [] ymem) (mem : q_Mem) (h : wp_X2_fits_38_b K38  x1 x2 x3 mem Q) : q_J X G 4 (q_QI X G Q) 38 [some (.ref (q_ad G 0)), some (.int x1), some (.int x2), some (.int x3)] [] mem := by
  unfold wp_X2_fits_38_b at h
  refine q_iload_n hX rfl dX2_fits_38 39 rfl ?_
  refine q_bipush hX (10 : Int32) q_kb_10 dX2_fits_39 41 rfl ?_
  refine q_icmp_gt hX dX2_fits_41 44 65 rfl (by decide) (fun c_1 => ?_) (fun c_1 => ?_)
  · replace h := h.1 c_1
    exact q_weak [true, false, true, false] rfl (sn_X2_fits_65 hX    x2 Q  mem h)
  · replace h := h.2 c_1
    refine q_aload_n hX rfl dX2_fits_44 45 rfl ?_
    refine q_iload_n hX rfl dX2_fits_45 46 rfl ?_
    refine q_iload_n hX rfl dX2_fits_46 47 rfl ?_
    refine cl_X2_141 hX  ⟨Nat.le_of_ble_eq_true rfl, Nat.le_of_ble_eq_true rfl⟩ (Nat.le_of_ble_eq_true rfl) dX2_fits_47 50 rfl (sn_X2_readingsHoldWith x3 x1  mem _ h) (fun r_2 m_3 h => ?_)
    refine q_if_eq hX dX2_fits_50 53 59 rfl (by decide) (fun c_4 => ?_) (fun c_4 => ?_)
    · replace h := h.1 c_4
      exact q_weak [true, true, true, true] rfl (sn_X2_fits_59 hX    x1 x2 x3 Q K38 hK38 m_3 h)
    · replace h := h.2 c_4
      refine q_iload_n hX rfl dX2_fits_53 54 rfl ?_
      refine q_iconst hX (1 : Int32) q_ki_1 dX2_fits_54 55 rfl ?_
      refine q_iload_n hX rfl dX2_fits_55 56 rfl ?_
      refine q_ishl hX dX2_fits_56 57 rfl ?_
      refine q_ior hX dX2_fits_57 58 rfl ?_
      refine q_istore_n hX dX2_fits_58 59 rfl (Nat.le_of_ble_eq_true rfl) rfl (fun y => [some (.ref (q_ad G 0)), some (.int x1), some (.int y), some (.int x3)]) (fun _ => rfl) (fun x2_5 ex2_5 => ?_)
      replace h := h x2_5 ex2_5
      exact q_weak [true, true, true, true] rfl (sn_X2_fits_59 hX    x1 x2_5 x3 Q K38 hK38 m_3 h)
set_option maxRecDepth 100000 in
set_option maxHeartbeats 4000000 in
theorem sn_X2_fits_38 {X : q_X} {G : q_G} (hX : q_C X cX2_fits 4 RX2 (some .int) 5 118)   (x1 : Int32) (x2 : Int32) (x3 : Int32) (Q : Int32 → q_Mem → Prop)  (mem : q_Mem) (h : wp_X2_fits_38   x1 x2 x3 mem Q) : q_J X G 4 (q_QI X G Q) 38 [some (.ref (q_ad G 0)), some (.int x1), some (.int x2), some (.int x3)] [] mem := by
  obtain ⟨I, ⟨n, h0⟩, hs⟩ := h
  have key : ∀ (n : Nat) (yx2 : Int32) (yx3 : Int32) (ymem : q_Mem), I n yx2 yx3 ymem → q_J X G 4 (q_QI X G Q) 38 [some (.ref (q_ad G 0)), some (.int x1), some (.int yx2), some (.int yx3)] [] ymem := by
    intro n
    induction n using Nat.strongRecOn with
    | ind n ih =>
      intro yx2 yx3 ymem hI
      exact sn_X2_fits_38_b hX    x1 yx2 yx3 Q  (fun (zx2 : Int32) (zx3 : Int32) (zmem : q_Mem) => ∃ n2, n2 < n ∧ I n2 zx2 zx3 zmem) (fun zx2 zx3 zmem hz => by obtain ⟨n2, h1, h2⟩ := hz; exact ih n2 h1 zx2 zx3 zmem h2) ymem (hs n yx2 yx3 ymem hI)
  exact key n x2 x3 mem h0
set_option maxRecDepth 100000 in
set_option maxHeartbeats 4000000 in
theorem sn_X2_fits_0 {X : q_X} {G : q_G} (hX : q_C X cX2_fits 4 RX2 (some .int) 5 118)    (Q : Int32 → q_Mem → Prop)  (mem : q_Mem) (h : wp_X2_fits    mem Q) : q_J X G 4 (q_QI X G Q) 0 [some (.ref (q_ad G 0)), none, none, none] [] mem := by
  unfold wp_X2_fits at h
  refine q_aload_n hX rfl dX2_fits_0 1 rfl ?_
  refine cl_X2_91 hX  ⟨Nat.le_of_ble_eq_true rfl, Nat.le_of_ble_eq_true rfl⟩ (Nat.le_of_ble_eq_true rfl) dX2_fits_1 4 rfl (sn_X2_nothingCanPass   mem _ h) (fun r_1 m_2 h => ?_)
  refine q_if_ne hX dX2_fits_4 7 16 rfl (by decide) (fun c_3 => ?_) (fun c_3 => ?_)
  · replace h := h.1 c_3
    refine q_bipush hX (-103 : Int32) q_kb_m103 dX2_fits_16 18 rfl ?_
    exact q_iret hX dX2_fits_18 h
  · replace h := h.2 c_3
    refine q_aload_n hX rfl dX2_fits_7 8 rfl ?_
    refine gf_X2_47 hX dX2_fits_8 11 rfl ?_
    refine q_bipush hX (30 : Int32) q_kb_30 dX2_fits_11 13 rfl ?_
    refine q_icmp_lt hX dX2_fits_13 16 19 rfl (by decide) (fun c_4 => ?_) (fun c_4 => ?_)
    · replace h := h.1 c_4
      refine q_aload_n hX rfl dX2_fits_19 20 rfl ?_
      refine q_dup hX rfl dX2_fits_20 21 rfl ?_
      refine gf_X2_47 hX dX2_fits_21 24 rfl ?_
      refine q_iconst hX (1 : Int32) q_ki_1 dX2_fits_24 25 rfl ?_
      refine q_iadd hX dX2_fits_25 26 rfl ?_
      refine pf_X2_47 hX dX2_fits_26 29 rfl (fun m_5 em_5 => ?_)
      replace h := h m_5 em_5
      refine q_aload_n hX rfl dX2_fits_29 30 rfl ?_
      refine cl_X2_137 hX  ⟨Nat.le_of_ble_eq_true rfl, Nat.le_of_ble_eq_true rfl⟩ (Nat.le_of_ble_eq_true rfl) dX2_fits_30 33 rfl (sn_X2_lastHourRead   m_5 _ h) (fun r_6 m_7 h => ?_)
      refine q_istore_n hX dX2_fits_33 34 rfl (Nat.le_of_ble_eq_true rfl) rfl (fun y => [some (.ref (q_ad G 0)), some (.int y), none, none]) (fun _ => rfl) (fun x1_8 ex1_8 => ?_)
      replace ex1_8 := ex1_8.symm; subst ex1_8
      refine q_iconst hX (0 : Int32) q_ki_0 dX2_fits_34 35 rfl ?_
      refine q_istore_n hX dX2_fits_35 36 rfl (Nat.le_of_ble_eq_true rfl) rfl (fun y => [some (.ref (q_ad G 0)), some (.int r_6), some (.int y), none]) (fun _ => rfl) (fun x2_9 ex2_9 => ?_)
      replace ex2_9 := ex2_9.symm; subst ex2_9
      refine q_iconst hX (0 : Int32) q_ki_0 dX2_fits_36 37 rfl ?_
      refine q_istore_n hX dX2_fits_37 38 rfl (Nat.le_of_ble_eq_true rfl) rfl (fun y => [some (.ref (q_ad G 0)), some (.int r_6), some (.int (0 : Int32)), some (.int y)]) (fun _ => rfl) (fun x3_10 ex3_10 => ?_)
      replace ex3_10 := ex3_10.symm; subst ex3_10
      exact q_weak [true, true, true, true] rfl (sn_X2_fits_38 hX    r_6 (0 : Int32) (0 : Int32) Q  m_7 h)
    · replace h := h.2 c_4
      refine q_bipush hX (-103 : Int32) q_kb_m103 dX2_fits_16 18 rfl ?_
      exact q_iret hX dX2_fits_18 h
set_option maxRecDepth 100000 in
set_option maxHeartbeats 4000000 in
theorem sn_X2_fits {l : Launch} {G : q_G}   (mem : q_Mem) (Q : Int32 → q_Mem → Prop) (h : wp_X2_fits  mem Q) : q_MI l G yX2_fits cX2_fits 4 (some .int) rm_X2_fits [.ref (q_ad G 0)] mem Q := by
  refine q_metI 3 (by decide +kernel) (Nat.le_of_ble_eq_true rfl) rfl (fun X hl hX => ?_)
  subst hl
  exact sn_X2_fits_0 hX   Q mem h

-- X2_forget
def wp_X2_forget    (mem : q_Mem) (Q : Int32 → q_Mem → Prop) : Prop := ∀ x1_1 : Int32, x1_1 = (mem 0 8) → ∀ m_2 : q_Mem, m_2 = q_set mem 0 (upd (mem 0) 8 (0 : Int32)) → Q x1_1 m_2
set_option maxRecDepth 100000 in
set_option maxHeartbeats 4000000 in
theorem sn_X2_forget_0 {X : q_X} {G : q_G} (hX : q_C X cX2_forget 2 RX2 (some .int) 0 0)    (Q : Int32 → q_Mem → Prop)  (mem : q_Mem) (h : wp_X2_forget    mem Q) : q_J X G 2 (q_QI X G Q) 0 [some (.ref (q_ad G 0)), none] [] mem := by
  unfold wp_X2_forget at h
  refine q_aload_n hX rfl dX2_forget_0 1 rfl ?_
  refine gf_X2_44 hX dX2_forget_1 4 rfl ?_
  refine q_istore_n hX dX2_forget_4 5 rfl (Nat.le_of_ble_eq_true rfl) rfl (fun y => [some (.ref (q_ad G 0)), some (.int y)]) (fun _ => rfl) (fun x1_1 ex1_1 => ?_)
  replace h := h x1_1 ex1_1
  refine q_aload_n hX rfl dX2_forget_5 6 rfl ?_
  refine q_iconst hX (0 : Int32) q_ki_0 dX2_forget_6 7 rfl ?_
  refine pf_X2_44 hX dX2_forget_7 10 rfl (fun m_2 em_2 => ?_)
  replace h := h m_2 em_2
  refine q_iload_n hX rfl dX2_forget_10 11 rfl ?_
  exact q_iret hX dX2_forget_11 h
set_option maxRecDepth 100000 in
set_option maxHeartbeats 4000000 in
theorem sn_X2_forget {l : Launch} {G : q_G}   (mem : q_Mem) (Q : Int32 → q_Mem → Prop) (h : wp_X2_forget  mem Q) : q_MI l G yX2_forget cX2_forget 2 (some .int) rm_X2_forget [.ref (q_ad G 0)] mem Q := by
  refine q_metI 1 (by decide +kernel) (Nat.le_of_ble_eq_true rfl) rfl (fun X hl hX => ?_)
  subst hl
  exact sn_X2_forget_0 hX   Q mem h

-- X2_isDamp
def wp_X2_isDamp  (a0 : Int32)  (mem : q_Mem) (Q : Int32 → q_Mem → Prop) : Prop := wp_X2_within a0 (0 : Int32) (1000 : Int32) mem (fun r_1 m_2 => (r_1 &&& 1 = r_1) ∧ Q r_1 m_2)
set_option maxRecDepth 100000 in
set_option maxHeartbeats 4000000 in
theorem sn_X2_isDamp_0 {X : q_X} {G : q_G} (hX : q_C X cX2_isDamp 1 RX2 (some .boolean) 1 22) (a0 : Int32)   (Q : Int32 → q_Mem → Prop)  (mem : q_Mem) (h : wp_X2_isDamp  a0  mem Q) : q_J X G 1 (q_QI X G Q) 0 [some (.int a0)] [] mem := by
  unfold wp_X2_isDamp at h
  refine q_iload_n hX rfl dX2_isDamp_0 1 rfl ?_
  refine q_iconst hX (0 : Int32) q_ki_0 dX2_isDamp_1 2 rfl ?_
  refine q_sipush hX (1000 : Int32) q_ks_1000 dX2_isDamp_2 5 rfl ?_
  refine cl_X2_50 hX  ⟨Nat.le_of_ble_eq_true rfl, Nat.le_of_ble_eq_true rfl⟩ (Nat.le_of_ble_eq_true rfl) dX2_isDamp_5 8 rfl (sn_X2_within a0 (0 : Int32) (1000 : Int32)  mem _ h) (fun r_1 m_2 h => ?_)
  exact q_zret hX dX2_isDamp_8 h.1 h.2
set_option maxRecDepth 100000 in
set_option maxHeartbeats 4000000 in
theorem sn_X2_isDamp {l : Launch} {G : q_G} (a0 : Int32)  (mem : q_Mem) (Q : Int32 → q_Mem → Prop) (h : wp_X2_isDamp a0 mem Q) : q_MI l G yX2_isDamp cX2_isDamp 1 (some .boolean) rm_X2_isDamp [.int a0] mem Q := by
  refine q_metI 0 (by decide +kernel) (Nat.le_of_ble_eq_true rfl) rfl (fun X hl hX => ?_)
  subst hl
  exact sn_X2_isDamp_0 hX a0  Q mem h

-- X2_isWarmth
def wp_X2_isWarmth  (a0 : Int32)  (mem : q_Mem) (Q : Int32 → q_Mem → Prop) : Prop := wp_X2_within a0 (-30 : Int32) (50 : Int32) mem (fun r_1 m_2 => (r_1 &&& 1 = r_1) ∧ Q r_1 m_2)
set_option maxRecDepth 100000 in
set_option maxHeartbeats 4000000 in
theorem sn_X2_isWarmth_0 {X : q_X} {G : q_G} (hX : q_C X cX2_isWarmth 1 RX2 (some .boolean) 1 22) (a0 : Int32)   (Q : Int32 → q_Mem → Prop)  (mem : q_Mem) (h : wp_X2_isWarmth  a0  mem Q) : q_J X G 1 (q_QI X G Q) 0 [some (.int a0)] [] mem := by
  unfold wp_X2_isWarmth at h
  refine q_iload_n hX rfl dX2_isWarmth_0 1 rfl ?_
  refine q_bipush hX (-30 : Int32) q_kb_m30 dX2_isWarmth_1 3 rfl ?_
  refine q_bipush hX (50 : Int32) q_kb_50 dX2_isWarmth_3 5 rfl ?_
  refine cl_X2_50 hX  ⟨Nat.le_of_ble_eq_true rfl, Nat.le_of_ble_eq_true rfl⟩ (Nat.le_of_ble_eq_true rfl) dX2_isWarmth_5 8 rfl (sn_X2_within a0 (-30 : Int32) (50 : Int32)  mem _ h) (fun r_1 m_2 h => ?_)
  exact q_zret hX dX2_isWarmth_8 h.1 h.2
set_option maxRecDepth 100000 in
set_option maxHeartbeats 4000000 in
theorem sn_X2_isWarmth {l : Launch} {G : q_G} (a0 : Int32)  (mem : q_Mem) (Q : Int32 → q_Mem → Prop) (h : wp_X2_isWarmth a0 mem Q) : q_MI l G yX2_isWarmth cX2_isWarmth 1 (some .boolean) rm_X2_isWarmth [.int a0] mem Q := by
  refine q_metI 0 (by decide +kernel) (Nat.le_of_ble_eq_true rfl) rfl (fun X hl hX => ?_)
  subst hl
  exact sn_X2_isWarmth_0 hX a0  Q mem h

-- X2_hour
def wp_X2_hour  (a0 : Int32) (a1 : Int32) (a2 : Int32) (a3 : Int32) (a4 : Int32)  (mem : q_Mem) (Q : Int32 → q_Mem → Prop) : Prop := wp_X2_isDamp a0 mem (fun r_1 m_2 => ((r_1 = 0) → Q (-102 : Int32) m_2) ∧ ((¬ r_1 = 0) → wp_X2_isWarmth a1 m_2 (fun r_4 m_5 => ((r_4 = 0) → Q (-102 : Int32) m_5) ∧ ((¬ r_4 = 0) → wp_X2_within a2 (0 : Int32) (100 : Int32) m_5 (fun r_7 m_8 => ((r_7 = 0) → Q (-102 : Int32) m_8) ∧ ((¬ r_7 = 0) → wp_X2_isDamp a3 m_8 (fun r_10 m_11 => ((r_10 = 0) → Q (-102 : Int32) m_11) ∧ ((¬ r_10 = 0) → wp_X2_isWarmth a4 m_11 (fun r_13 m_14 => ((¬ r_13 = 0) → (((m_14 0 4) < (24 : Int32)) → vp_in (m_14 0 4) 24 ∧ (vp_in (0 : Int32) (q_al (35 + (m_14 0 4).toNatClampNeg)) ∧ (∀ m_20 : q_Mem, m_20 = q_set m_14 (35 + (m_14 0 4).toNatClampNeg) (upd (m_14 (35 + (m_14 0 4).toNatClampNeg)) (0 : Int32).toNatClampNeg a0) → vp_in (1 : Int32) (q_al (35 + (m_14 0 4).toNatClampNeg)) ∧ (∀ m_22 : q_Mem, m_22 = q_set m_20 (35 + (m_14 0 4).toNatClampNeg) (upd (m_20 (35 + (m_14 0 4).toNatClampNeg)) (1 : Int32).toNatClampNeg a1) → vp_in (2 : Int32) (q_al (35 + (m_14 0 4).toNatClampNeg)) ∧ (∀ m_24 : q_Mem, m_24 = q_set m_22 (35 + (m_14 0 4).toNatClampNeg) (upd (m_22 (35 + (m_14 0 4).toNatClampNeg)) (2 : Int32).toNatClampNeg a2) → vp_in (3 : Int32) (q_al (35 + (m_14 0 4).toNatClampNeg)) ∧ (∀ m_26 : q_Mem, m_26 = q_set m_24 (35 + (m_14 0 4).toNatClampNeg) (upd (m_24 (35 + (m_14 0 4).toNatClampNeg)) (3 : Int32).toNatClampNeg a3) → vp_in (4 : Int32) (q_al (35 + (m_14 0 4).toNatClampNeg)) ∧ (∀ m_28 : q_Mem, m_28 = q_set m_26 (35 + (m_14 0 4).toNatClampNeg) (upd (m_26 (35 + (m_14 0 4).toNatClampNeg)) (4 : Int32).toNatClampNeg a4) → ∀ m_29 : q_Mem, m_29 = q_set m_28 0 (upd (m_28 0) 4 ((m_28 0 4) + (1 : Int32))) → Q (m_29 0 4) m_29))))))) ∧ ((¬ (m_14 0 4) < (24 : Int32)) → Q (-104 : Int32) m_14)) ∧ ((r_13 = 0) → Q (-102 : Int32) m_14))))))))))
set_option maxRecDepth 100000 in
set_option maxHeartbeats 4000000 in
theorem sn_X2_hour_0 {X : q_X} {G : q_G} (hX : q_C X cX2_hour 7 RX2 (some .int) 2 42) (a0 : Int32) (a1 : Int32) (a2 : Int32) (a3 : Int32) (a4 : Int32)   (Q : Int32 → q_Mem → Prop)  (mem : q_Mem) (h : wp_X2_hour  a0 a1 a2 a3 a4  mem Q) : q_J X G 7 (q_QI X G Q) 0 [some (.ref (q_ad G 0)), some (.int a0), some (.int a1), some (.int a2), some (.int a3), some (.int a4), none] [] mem := by
  unfold wp_X2_hour at h
  refine q_iload_n hX rfl dX2_hour_0 1 rfl ?_
  refine cl_X2_85 hX  ⟨Nat.le_of_ble_eq_true rfl, Nat.le_of_ble_eq_true rfl⟩ (Nat.le_of_ble_eq_true rfl) dX2_hour_1 4 rfl (sn_X2_isDamp a0  mem _ h) (fun r_1 m_2 h => ?_)
  refine q_if_eq hX dX2_hour_4 7 40 rfl (by decide) (fun c_3 => ?_) (fun c_3 => ?_)
  · replace h := h.1 c_3
    refine q_bipush hX (-102 : Int32) q_kb_m102 dX2_hour_40 42 rfl ?_
    exact q_iret hX dX2_hour_42 h
  · replace h := h.2 c_3
    refine q_iload_n hX rfl dX2_hour_7 8 rfl ?_
    refine cl_X2_88 hX  ⟨Nat.le_of_ble_eq_true rfl, Nat.le_of_ble_eq_true rfl⟩ (Nat.le_of_ble_eq_true rfl) dX2_hour_8 11 rfl (sn_X2_isWarmth a1  m_2 _ h) (fun r_4 m_5 h => ?_)
    refine q_if_eq hX dX2_hour_11 14 40 rfl (by decide) (fun c_6 => ?_) (fun c_6 => ?_)
    · replace h := h.1 c_6
      refine q_bipush hX (-102 : Int32) q_kb_m102 dX2_hour_40 42 rfl ?_
      exact q_iret hX dX2_hour_42 h
    · replace h := h.2 c_6
      refine q_iload_n hX rfl dX2_hour_14 15 rfl ?_
      refine q_iconst hX (0 : Int32) q_ki_0 dX2_hour_15 16 rfl ?_
      refine q_bipush hX (100 : Int32) q_kb_100 dX2_hour_16 18 rfl ?_
      refine cl_X2_50 hX  ⟨Nat.le_of_ble_eq_true rfl, Nat.le_of_ble_eq_true rfl⟩ (Nat.le_of_ble_eq_true rfl) dX2_hour_18 21 rfl (sn_X2_within a2 (0 : Int32) (100 : Int32)  m_5 _ h) (fun r_7 m_8 h => ?_)
      refine q_if_eq hX dX2_hour_21 24 40 rfl (by decide) (fun c_9 => ?_) (fun c_9 => ?_)
      · replace h := h.1 c_9
        refine q_bipush hX (-102 : Int32) q_kb_m102 dX2_hour_40 42 rfl ?_
        exact q_iret hX dX2_hour_42 h
      · replace h := h.2 c_9
        refine q_iload hX rfl dX2_hour_24 26 rfl ?_
        refine cl_X2_85 hX  ⟨Nat.le_of_ble_eq_true rfl, Nat.le_of_ble_eq_true rfl⟩ (Nat.le_of_ble_eq_true rfl) dX2_hour_26 29 rfl (sn_X2_isDamp a3  m_8 _ h) (fun r_10 m_11 h => ?_)
        refine q_if_eq hX dX2_hour_29 32 40 rfl (by decide) (fun c_12 => ?_) (fun c_12 => ?_)
        · replace h := h.1 c_12
          refine q_bipush hX (-102 : Int32) q_kb_m102 dX2_hour_40 42 rfl ?_
          exact q_iret hX dX2_hour_42 h
        · replace h := h.2 c_12
          refine q_iload hX rfl dX2_hour_32 34 rfl ?_
          refine cl_X2_88 hX  ⟨Nat.le_of_ble_eq_true rfl, Nat.le_of_ble_eq_true rfl⟩ (Nat.le_of_ble_eq_true rfl) dX2_hour_34 37 rfl (sn_X2_isWarmth a4  m_11 _ h) (fun r_13 m_14 h => ?_)
          refine q_if_ne hX dX2_hour_37 40 43 rfl (by decide) (fun c_15 => ?_) (fun c_15 => ?_)
          · replace h := h.1 c_15
            refine q_aload_n hX rfl dX2_hour_43 44 rfl ?_
            refine gf_X2_31 hX dX2_hour_44 47 rfl ?_
            refine q_bipush hX (24 : Int32) q_kb_24 dX2_hour_47 49 rfl ?_
            refine q_icmp_lt hX dX2_hour_49 52 55 rfl (by decide) (fun c_16 => ?_) (fun c_16 => ?_)
            · replace h := h.1 c_16
              refine q_aload_n hX rfl dX2_hour_55 56 rfl ?_
              refine gf_X2_28 hX dX2_hour_56 59 rfl ?_
              refine q_aload_n hX rfl dX2_hour_59 60 rfl ?_
              refine gf_X2_31 hX dX2_hour_60 63 rfl ?_
              obtain ⟨g_17, h⟩ := h
              refine q_aald hX rfl g_17 dX2_hour_63 64 rfl ?_
              refine q_astore hX dX2_hour_64 66 rfl (Nat.le_of_ble_eq_true rfl) rfl (fun y => [some (.ref (q_ad G 0)), some (.int a0), some (.int a1), some (.int a2), some (.int a3), some (.int a4), some (.ref y)]) (fun _ => rfl) (fun r6_18 er6_18 => ?_)
              replace er6_18 := er6_18.symm; subst er6_18
              refine q_aload hX rfl dX2_hour_66 68 rfl ?_
              refine q_iconst hX (0 : Int32) q_ki_0 dX2_hour_68 69 rfl ?_
              refine q_iload_n hX rfl dX2_hour_69 70 rfl ?_
              obtain ⟨g_19, h⟩ := h
              refine q_iast hX g_19 dX2_hour_70 71 rfl (fun m_20 em_20 => ?_)
              replace h := h m_20 em_20
              refine q_aload hX rfl dX2_hour_71 73 rfl ?_
              refine q_iconst hX (1 : Int32) q_ki_1 dX2_hour_73 74 rfl ?_
              refine q_iload_n hX rfl dX2_hour_74 75 rfl ?_
              obtain ⟨g_21, h⟩ := h
              refine q_iast hX g_21 dX2_hour_75 76 rfl (fun m_22 em_22 => ?_)
              replace h := h m_22 em_22
              refine q_aload hX rfl dX2_hour_76 78 rfl ?_
              refine q_iconst hX (2 : Int32) q_ki_2 dX2_hour_78 79 rfl ?_
              refine q_iload_n hX rfl dX2_hour_79 80 rfl ?_
              obtain ⟨g_23, h⟩ := h
              refine q_iast hX g_23 dX2_hour_80 81 rfl (fun m_24 em_24 => ?_)
              replace h := h m_24 em_24
              refine q_aload hX rfl dX2_hour_81 83 rfl ?_
              refine q_iconst hX (3 : Int32) q_ki_3 dX2_hour_83 84 rfl ?_
              refine q_iload hX rfl dX2_hour_84 86 rfl ?_
              obtain ⟨g_25, h⟩ := h
              refine q_iast hX g_25 dX2_hour_86 87 rfl (fun m_26 em_26 => ?_)
              replace h := h m_26 em_26
              refine q_aload hX rfl dX2_hour_87 89 rfl ?_
              refine q_iconst hX (4 : Int32) q_ki_4 dX2_hour_89 90 rfl ?_
              refine q_iload hX rfl dX2_hour_90 92 rfl ?_
              obtain ⟨g_27, h⟩ := h
              refine q_iast hX g_27 dX2_hour_92 93 rfl (fun m_28 em_28 => ?_)
              replace h := h m_28 em_28
              refine q_aload_n hX rfl dX2_hour_93 94 rfl ?_
              refine q_dup hX rfl dX2_hour_94 95 rfl ?_
              refine gf_X2_31 hX dX2_hour_95 98 rfl ?_
              refine q_iconst hX (1 : Int32) q_ki_1 dX2_hour_98 99 rfl ?_
              refine q_iadd hX dX2_hour_99 100 rfl ?_
              refine pf_X2_31 hX dX2_hour_100 103 rfl (fun m_29 em_29 => ?_)
              replace h := h m_29 em_29
              refine q_aload_n hX rfl dX2_hour_103 104 rfl ?_
              refine gf_X2_31 hX dX2_hour_104 107 rfl ?_
              exact q_iret hX dX2_hour_107 h
            · replace h := h.2 c_16
              refine q_bipush hX (-104 : Int32) q_kb_m104 dX2_hour_52 54 rfl ?_
              exact q_iret hX dX2_hour_54 h
          · replace h := h.2 c_15
            refine q_bipush hX (-102 : Int32) q_kb_m102 dX2_hour_40 42 rfl ?_
            exact q_iret hX dX2_hour_42 h
set_option maxRecDepth 100000 in
set_option maxHeartbeats 4000000 in
theorem sn_X2_hour {l : Launch} {G : q_G} (a0 : Int32) (a1 : Int32) (a2 : Int32) (a3 : Int32) (a4 : Int32)  (mem : q_Mem) (Q : Int32 → q_Mem → Prop) (h : wp_X2_hour a0 a1 a2 a3 a4 mem Q) : q_MI l G yX2_hour cX2_hour 7 (some .int) rm_X2_hour [.ref (q_ad G 0), .int a0, .int a1, .int a2, .int a3, .int a4] mem Q := by
  refine q_metI 1 (by decide +kernel) (Nat.le_of_ble_eq_true rfl) rfl (fun X hl hX => ?_)
  subst hl
  exact sn_X2_hour_0 hX a0 a1 a2 a3 a4  Q mem h

-- X2_layer
def wp_X2_layer  (a0 : Int32) (a1 : Int32) (a2 : Int32) (a3 : Int32)  (mem : q_Mem) (Q : Int32 → q_Mem → Prop) : Prop := wp_X2_within a0 (1 : Int32) (1000 : Int32) mem (fun r_1 m_2 => ((r_1 = 0) → Q (-102 : Int32) m_2) ∧ ((¬ r_1 = 0) → wp_X2_within a1 (1 : Int32) (50 : Int32) m_2 (fun r_4 m_5 => ((r_4 = 0) → Q (-102 : Int32) m_5) ∧ ((¬ r_4 = 0) → wp_X2_within a2 (1 : Int32) (50 : Int32) m_5 (fun r_7 m_8 => ((r_7 = 0) → Q (-102 : Int32) m_8) ∧ ((¬ r_7 = 0) → wp_X2_within a3 (0 : Int32) (2 : Int32) m_8 (fun r_10 m_11 => ((¬ r_10 = 0) → (((m_11 1 11) < (6 : Int32)) → wp_X1_addInside 1 a0 a1 a2 a3 m_11 (fun m_15 => Q (m_15 1 11) m_15)) ∧ ((¬ (m_11 1 11) < (6 : Int32)) → Q (-104 : Int32) m_11)) ∧ ((r_10 = 0) → Q (-102 : Int32) m_11))))))))
set_option maxRecDepth 100000 in
set_option maxHeartbeats 4000000 in
theorem sn_X2_layer_0 {X : q_X} {G : q_G} (hX : q_C X cX2_layer 5 RX2 (some .int) 1 24) (a0 : Int32) (a1 : Int32) (a2 : Int32) (a3 : Int32)   (Q : Int32 → q_Mem → Prop)  (mem : q_Mem) (h : wp_X2_layer  a0 a1 a2 a3  mem Q) : q_J X G 5 (q_QI X G Q) 0 [some (.ref (q_ad G 0)), some (.int a0), some (.int a1), some (.int a2), some (.int a3)] [] mem := by
  unfold wp_X2_layer at h
  refine q_iload_n hX rfl dX2_layer_0 1 rfl ?_
  refine q_iconst hX (1 : Int32) q_ki_1 dX2_layer_1 2 rfl ?_
  refine q_sipush hX (1000 : Int32) q_ks_1000 dX2_layer_2 5 rfl ?_
  refine cl_X2_50 hX  ⟨Nat.le_of_ble_eq_true rfl, Nat.le_of_ble_eq_true rfl⟩ (Nat.le_of_ble_eq_true rfl) dX2_layer_5 8 rfl (sn_X2_within a0 (1 : Int32) (1000 : Int32)  mem _ h) (fun r_1 m_2 h => ?_)
  refine q_if_eq hX dX2_layer_8 11 41 rfl (by decide) (fun c_3 => ?_) (fun c_3 => ?_)
  · replace h := h.1 c_3
    refine q_bipush hX (-102 : Int32) q_kb_m102 dX2_layer_41 43 rfl ?_
    exact q_iret hX dX2_layer_43 h
  · replace h := h.2 c_3
    refine q_iload_n hX rfl dX2_layer_11 12 rfl ?_
    refine q_iconst hX (1 : Int32) q_ki_1 dX2_layer_12 13 rfl ?_
    refine q_bipush hX (50 : Int32) q_kb_50 dX2_layer_13 15 rfl ?_
    refine cl_X2_50 hX  ⟨Nat.le_of_ble_eq_true rfl, Nat.le_of_ble_eq_true rfl⟩ (Nat.le_of_ble_eq_true rfl) dX2_layer_15 18 rfl (sn_X2_within a1 (1 : Int32) (50 : Int32)  m_2 _ h) (fun r_4 m_5 h => ?_)
    refine q_if_eq hX dX2_layer_18 21 41 rfl (by decide) (fun c_6 => ?_) (fun c_6 => ?_)
    · replace h := h.1 c_6
      refine q_bipush hX (-102 : Int32) q_kb_m102 dX2_layer_41 43 rfl ?_
      exact q_iret hX dX2_layer_43 h
    · replace h := h.2 c_6
      refine q_iload_n hX rfl dX2_layer_21 22 rfl ?_
      refine q_iconst hX (1 : Int32) q_ki_1 dX2_layer_22 23 rfl ?_
      refine q_bipush hX (50 : Int32) q_kb_50 dX2_layer_23 25 rfl ?_
      refine cl_X2_50 hX  ⟨Nat.le_of_ble_eq_true rfl, Nat.le_of_ble_eq_true rfl⟩ (Nat.le_of_ble_eq_true rfl) dX2_layer_25 28 rfl (sn_X2_within a2 (1 : Int32) (50 : Int32)  m_5 _ h) (fun r_7 m_8 h => ?_)
      refine q_if_eq hX dX2_layer_28 31 41 rfl (by decide) (fun c_9 => ?_) (fun c_9 => ?_)
      · replace h := h.1 c_9
        refine q_bipush hX (-102 : Int32) q_kb_m102 dX2_layer_41 43 rfl ?_
        exact q_iret hX dX2_layer_43 h
      · replace h := h.2 c_9
        refine q_iload hX rfl dX2_layer_31 33 rfl ?_
        refine q_iconst hX (0 : Int32) q_ki_0 dX2_layer_33 34 rfl ?_
        refine q_iconst hX (2 : Int32) q_ki_2 dX2_layer_34 35 rfl ?_
        refine cl_X2_50 hX  ⟨Nat.le_of_ble_eq_true rfl, Nat.le_of_ble_eq_true rfl⟩ (Nat.le_of_ble_eq_true rfl) dX2_layer_35 38 rfl (sn_X2_within a3 (0 : Int32) (2 : Int32)  m_8 _ h) (fun r_10 m_11 h => ?_)
        refine q_if_ne hX dX2_layer_38 41 44 rfl (by decide) (fun c_12 => ?_) (fun c_12 => ?_)
        · replace h := h.1 c_12
          refine q_aload_n hX rfl dX2_layer_44 45 rfl ?_
          refine gf_X2_10 hX dX2_layer_45 48 rfl ?_
          refine gf_X2_54 hX (Or.inl rfl) dX2_layer_48 51 rfl ?_
          refine q_bipush hX (6 : Int32) q_kb_6 dX2_layer_51 53 rfl ?_
          refine q_icmp_lt hX dX2_layer_53 56 59 rfl (by decide) (fun c_13 => ?_) (fun c_13 => ?_)
          · replace h := h.1 c_13
            refine q_aload_n hX rfl dX2_layer_59 60 rfl ?_
            refine gf_X2_10 hX dX2_layer_60 63 rfl ?_
            refine q_iload_n hX rfl dX2_layer_63 64 rfl ?_
            refine q_iload_n hX rfl dX2_layer_64 65 rfl ?_
            refine q_iload_n hX rfl dX2_layer_65 66 rfl ?_
            refine q_iload hX rfl dX2_layer_66 68 rfl ?_
            refine cl_X2_57 hX (Or.inl rfl) ⟨Nat.le_of_ble_eq_true rfl, Nat.le_of_ble_eq_true rfl⟩ (Nat.le_of_ble_eq_true rfl) dX2_layer_68 71 rfl (sn_X1_addInside 1 a0 a1 a2 a3 (Or.inl rfl) m_11 _ h) (fun m_15 h => ?_)
            refine q_aload_n hX rfl dX2_layer_71 72 rfl ?_
            refine gf_X2_10 hX dX2_layer_72 75 rfl ?_
            refine gf_X2_54 hX (Or.inl rfl) dX2_layer_75 78 rfl ?_
            exact q_iret hX dX2_layer_78 h
          · replace h := h.2 c_13
            refine q_bipush hX (-104 : Int32) q_kb_m104 dX2_layer_56 58 rfl ?_
            exact q_iret hX dX2_layer_58 h
        · replace h := h.2 c_12
          refine q_bipush hX (-102 : Int32) q_kb_m102 dX2_layer_41 43 rfl ?_
          exact q_iret hX dX2_layer_43 h
set_option maxRecDepth 100000 in
set_option maxHeartbeats 4000000 in
theorem sn_X2_layer {l : Launch} {G : q_G} (a0 : Int32) (a1 : Int32) (a2 : Int32) (a3 : Int32)  (mem : q_Mem) (Q : Int32 → q_Mem → Prop) (h : wp_X2_layer a0 a1 a2 a3 mem Q) : q_MI l G yX2_layer cX2_layer 5 (some .int) rm_X2_layer [.ref (q_ad G 0), .int a0, .int a1, .int a2, .int a3] mem Q := by
  refine q_metI 0 (by decide +kernel) (Nat.le_of_ble_eq_true rfl) rfl (fun X hl hX => ?_)
  subst hl
  exact sn_X2_layer_0 hX a0 a1 a2 a3  Q mem h

-- X2_pass
def wp_X2_pass_69  (a0 : Int32)  (mem : q_Mem) (Q : Int32 → q_Mem → Prop) : Prop := Q (mem 0 5) mem
def wp_X2_pass_26_b (K26 : Int32 → q_Mem → Prop) (a0 : Int32) (x2 : Int32) (mem : q_Mem) (Q : Int32 → q_Mem → Prop) : Prop := ((a0 ≤ x2) → wp_X2_pass_69  a0  mem Q) ∧ ((¬ a0 ≤ x2) → vp_in (mem 0 5) 24 ∧ (wp_X1_letHourPass 1 (35 + (mem 0 5).toNatClampNeg) (mem 0 6) mem (fun m_4 => wp_X2_hourBehind (m_4 0 5) m_4 (fun r_5 m_6 => ∀ m_7 : q_Mem, m_7 = q_set m_6 0 (upd (m_6 0) 5 r_5) → ∀ x2_8 : Int32, x2_8 = (x2 + (1 : Int32)) → K26 x2_8 m_7))))
def wp_X2_pass_26  (a0 : Int32) (x2 : Int32) (mem : q_Mem) (Q : Int32 → q_Mem → Prop) : Prop := ∃ I : Nat → Int32 → q_Mem → Prop, (∃ n, I n x2 mem) ∧ ∀ (n : Nat) (yx2 : Int32) (ymem : q_Mem), I n yx2 ymem → wp_X2_pass_26_b  (fun (zx2 : Int32) (zmem : q_Mem) => ∃ n2, n2 < n ∧ I n2 zx2 zmem) a0 yx2 ymem Q
def wp_X2_pass  (a0 : Int32)  (mem : q_Mem) (Q : Int32 → q_Mem → Prop) : Prop := wp_X2_within a0 (1 : Int32) (240 : Int32) mem (fun r_1 m_2 => ((¬ r_1 = 0) → wp_X2_nothingCanPass  m_2 (fun r_4 m_5 => ((r_4 = 0) → wp_X2_pass_26  a0 (0 : Int32) m_5 Q) ∧ ((¬ r_4 = 0) → Q (-103 : Int32) m_5))) ∧ ((r_1 = 0) → Q (-102 : Int32) m_2))
set_option maxRecDepth 100000 in
set_option maxHeartbeats 4000000 in
theorem sn_X2_pass_69 {X : q_X} {G : q_G} (hX : q_C X cX2_pass 3 RX2 (some .int) 5 116) (a0 : Int32)   (Q : Int32 → q_Mem → Prop)  (mem : q_Mem) (h : wp_X2_pass_69  a0  mem Q) : q_J X G 3 (q_QI X G Q) 69 [some (.ref (q_ad G 0)), some (.int a0), none] [] mem := by
  unfold wp_X2_pass_69 at h
  refine q_aload_n hX rfl dX2_pass_69 70 rfl ?_
  refine gf_X2_35 hX dX2_pass_70 73 rfl ?_
  exact q_iret hX dX2_pass_73 h
set_option maxRecDepth 100000 in
set_option maxHeartbeats 4000000 in
theorem sn_X2_pass_26_b {X : q_X} {G : q_G} (hX : q_C X cX2_pass 3 RX2 (some .int) 5 116) (a0 : Int32)  (x2 : Int32) (Q : Int32 → q_Mem → Prop) (K26 : Int32 → q_Mem → Prop) (hK26 : ∀ (yx2 : Int32) (ymem : q_Mem), K26 yx2 ymem → q_J X G 3 (q_QI X G Q) 26 [some (.ref (q_ad G 0)), some (.int a0), some (.int yx2)] [] ymem) (mem : q_Mem) (h : wp_X2_pass_26_b K26 a0 x2 mem Q) : q_J X G 3 (q_QI X G Q) 26 [some (.ref (q_ad G 0)), some (.int a0), some (.int x2)] [] mem := by
  unfold wp_X2_pass_26_b at h
  refine q_iload_n hX rfl dX2_pass_26 27 rfl ?_
  refine q_iload_n hX rfl dX2_pass_27 28 rfl ?_
  refine q_icmp_ge hX dX2_pass_28 31 69 rfl (by decide) (fun c_1 => ?_) (fun c_1 => ?_)
  · replace h := h.1 c_1
    exact q_weak [true, true, false] rfl (sn_X2_pass_69 hX  a0   Q  mem h)
  · replace h := h.2 c_1
    refine q_aload_n hX rfl dX2_pass_31 32 rfl ?_
    refine gf_X2_10 hX dX2_pass_32 35 rfl ?_
    refine q_aload_n hX rfl dX2_pass_35 36 rfl ?_
    refine gf_X2_28 hX dX2_pass_36 39 rfl ?_
    refine q_aload_n hX rfl dX2_pass_39 40 rfl ?_
    refine gf_X2_35 hX dX2_pass_40 43 rfl ?_
    obtain ⟨g_2, h⟩ := h
    refine q_aald hX rfl g_2 dX2_pass_43 44 rfl ?_
    refine q_aload_n hX rfl dX2_pass_44 45 rfl ?_
    refine gf_X2_38 hX dX2_pass_45 48 rfl ?_
    refine cl_X2_95 hX (Or.inl rfl) ⟨Nat.le_of_ble_eq_true rfl, Nat.le_of_ble_eq_true rfl⟩ (Nat.le_of_ble_eq_true rfl) dX2_pass_48 51 rfl (sn_X1_letHourPass 1 (35 + (mem 0 5).toNatClampNeg) (mem 0 6) (Or.inl rfl) mem _ h) (fun m_4 h => ?_)
    refine q_aload_n hX rfl dX2_pass_51 52 rfl ?_
    refine q_aload_n hX rfl dX2_pass_52 53 rfl ?_
    refine q_aload_n hX rfl dX2_pass_53 54 rfl ?_
    refine gf_X2_35 hX dX2_pass_54 57 rfl ?_
    refine cl_X2_99 hX  ⟨Nat.le_of_ble_eq_true rfl, Nat.le_of_ble_eq_true rfl⟩ (Nat.le_of_ble_eq_true rfl) dX2_pass_57 60 rfl (sn_X2_hourBehind (m_4 0 5)  m_4 _ h) (fun r_5 m_6 h => ?_)
    refine pf_X2_35 hX dX2_pass_60 63 rfl (fun m_7 em_7 => ?_)
    replace h := h m_7 em_7
    refine q_iinc hX (1 : Int32) q_ki_1 rfl dX2_pass_63 66 rfl (Nat.le_of_ble_eq_true rfl) rfl (fun y => [some (.ref (q_ad G 0)), some (.int a0), some (.int y)]) (fun _ => rfl) (fun x2_8 ex2_8 => ?_)
    replace h := h x2_8 ex2_8
    refine q_goto hX dX2_pass_66 26 (by decide) ?_
    exact q_weak [true, true, true] rfl (hK26 x2_8 m_7 h)
set_option maxRecDepth 100000 in
set_option maxHeartbeats 4000000 in
theorem sn_X2_pass_26 {X : q_X} {G : q_G} (hX : q_C X cX2_pass 3 RX2 (some .int) 5 116) (a0 : Int32)  (x2 : Int32) (Q : Int32 → q_Mem → Prop)  (mem : q_Mem) (h : wp_X2_pass_26  a0 x2 mem Q) : q_J X G 3 (q_QI X G Q) 26 [some (.ref (q_ad G 0)), some (.int a0), some (.int x2)] [] mem := by
  obtain ⟨I, ⟨n, h0⟩, hs⟩ := h
  have key : ∀ (n : Nat) (yx2 : Int32) (ymem : q_Mem), I n yx2 ymem → q_J X G 3 (q_QI X G Q) 26 [some (.ref (q_ad G 0)), some (.int a0), some (.int yx2)] [] ymem := by
    intro n
    induction n using Nat.strongRecOn with
    | ind n ih =>
      intro yx2 ymem hI
      exact sn_X2_pass_26_b hX  a0  yx2 Q  (fun (zx2 : Int32) (zmem : q_Mem) => ∃ n2, n2 < n ∧ I n2 zx2 zmem) (fun zx2 zmem hz => by obtain ⟨n2, h1, h2⟩ := hz; exact ih n2 h1 zx2 zmem h2) ymem (hs n yx2 ymem hI)
  exact key n x2 mem h0
set_option maxRecDepth 100000 in
set_option maxHeartbeats 4000000 in
theorem sn_X2_pass_0 {X : q_X} {G : q_G} (hX : q_C X cX2_pass 3 RX2 (some .int) 5 116) (a0 : Int32)   (Q : Int32 → q_Mem → Prop)  (mem : q_Mem) (h : wp_X2_pass  a0  mem Q) : q_J X G 3 (q_QI X G Q) 0 [some (.ref (q_ad G 0)), some (.int a0), none] [] mem := by
  unfold wp_X2_pass at h
  refine q_iload_n hX rfl dX2_pass_0 1 rfl ?_
  refine q_iconst hX (1 : Int32) q_ki_1 dX2_pass_1 2 rfl ?_
  refine q_sipush hX (240 : Int32) q_ks_240 dX2_pass_2 5 rfl ?_
  refine cl_X2_50 hX  ⟨Nat.le_of_ble_eq_true rfl, Nat.le_of_ble_eq_true rfl⟩ (Nat.le_of_ble_eq_true rfl) dX2_pass_5 8 rfl (sn_X2_within a0 (1 : Int32) (240 : Int32)  mem _ h) (fun r_1 m_2 h => ?_)
  refine q_if_ne hX dX2_pass_8 11 14 rfl (by decide) (fun c_3 => ?_) (fun c_3 => ?_)
  · replace h := h.1 c_3
    refine q_aload_n hX rfl dX2_pass_14 15 rfl ?_
    refine cl_X2_91 hX  ⟨Nat.le_of_ble_eq_true rfl, Nat.le_of_ble_eq_true rfl⟩ (Nat.le_of_ble_eq_true rfl) dX2_pass_15 18 rfl (sn_X2_nothingCanPass   m_2 _ h) (fun r_4 m_5 h => ?_)
    refine q_if_eq hX dX2_pass_18 21 24 rfl (by decide) (fun c_6 => ?_) (fun c_6 => ?_)
    · replace h := h.1 c_6
      refine q_iconst hX (0 : Int32) q_ki_0 dX2_pass_24 25 rfl ?_
      refine q_istore_n hX dX2_pass_25 26 rfl (Nat.le_of_ble_eq_true rfl) rfl (fun y => [some (.ref (q_ad G 0)), some (.int a0), some (.int y)]) (fun _ => rfl) (fun x2_7 ex2_7 => ?_)
      replace ex2_7 := ex2_7.symm; subst ex2_7
      exact q_weak [true, true, true] rfl (sn_X2_pass_26 hX  a0  (0 : Int32) Q  m_5 h)
    · replace h := h.2 c_6
      refine q_bipush hX (-103 : Int32) q_kb_m103 dX2_pass_21 23 rfl ?_
      exact q_iret hX dX2_pass_23 h
  · replace h := h.2 c_3
    refine q_bipush hX (-102 : Int32) q_kb_m102 dX2_pass_11 13 rfl ?_
    exact q_iret hX dX2_pass_13 h
set_option maxRecDepth 100000 in
set_option maxHeartbeats 4000000 in
theorem sn_X2_pass {l : Launch} {G : q_G} (a0 : Int32)  (mem : q_Mem) (Q : Int32 → q_Mem → Prop) (h : wp_X2_pass a0 mem Q) : q_MI l G yX2_pass cX2_pass 3 (some .int) rm_X2_pass [.ref (q_ad G 0), .int a0] mem Q := by
  refine q_metI 1 (by decide +kernel) (Nat.le_of_ble_eq_true rfl) rfl (fun X hl hX => ?_)
  subst hl
  exact sn_X2_pass_0 hX a0  Q mem h

-- X2_placed
def wp_X2_placed  (a0 : Int32) (a1 : Int32)  (mem : q_Mem) (Q : Int32 → q_Mem → Prop) : Prop := wp_X2_hourRefusal a0 mem (fun r_1 m_2 => ((r_1 = 0) → wp_X1_has 1 a1 m_2 (fun r_5 m_6 => ((¬ r_5 = 0) → vp_in a0 24 ∧ (wp_X0_findBestOrder 1 (35 + a0.toNatClampNeg) m_6 (fun r_9 m_10 => vp_in a1 (q_al 33) ∧ (Q (m_10 33 a1.toNatClampNeg) m_10)))) ∧ ((r_5 = 0) → Q (-1 : Int32) m_6))) ∧ ((¬ r_1 = 0) → Q r_1 m_2))
set_option maxRecDepth 100000 in
set_option maxHeartbeats 4000000 in
theorem sn_X2_placed_0 {X : q_X} {G : q_G} (hX : q_C X cX2_placed 4 RX2 (some .int) 6 145) (a0 : Int32) (a1 : Int32)   (Q : Int32 → q_Mem → Prop)  (mem : q_Mem) (h : wp_X2_placed  a0 a1  mem Q) : q_J X G 4 (q_QI X G Q) 0 [some (.ref (q_ad G 0)), some (.int a0), some (.int a1), none] [] mem := by
  unfold wp_X2_placed at h
  refine q_aload_n hX rfl dX2_placed_0 1 rfl ?_
  refine q_iload_n hX rfl dX2_placed_1 2 rfl ?_
  refine cl_X2_117 hX  ⟨Nat.le_of_ble_eq_true rfl, Nat.le_of_ble_eq_true rfl⟩ (Nat.le_of_ble_eq_true rfl) dX2_placed_2 5 rfl (sn_X2_hourRefusal a0  mem _ h) (fun r_1 m_2 h => ?_)
  refine q_istore_n hX dX2_placed_5 6 rfl (Nat.le_of_ble_eq_true rfl) rfl (fun y => [some (.ref (q_ad G 0)), some (.int a0), some (.int a1), some (.int y)]) (fun _ => rfl) (fun x3_3 ex3_3 => ?_)
  replace ex3_3 := ex3_3.symm; subst ex3_3
  refine q_iload_n hX rfl dX2_placed_6 7 rfl ?_
  refine q_if_eq hX dX2_placed_7 10 12 rfl (by decide) (fun c_4 => ?_) (fun c_4 => ?_)
  · replace h := h.1 c_4
    refine q_aload_n hX rfl dX2_placed_12 13 rfl ?_
    refine gf_X2_10 hX dX2_placed_13 16 rfl ?_
    refine q_iload_n hX rfl dX2_placed_16 17 rfl ?_
    refine cl_X2_67 hX (Or.inl rfl) ⟨Nat.le_of_ble_eq_true rfl, Nat.le_of_ble_eq_true rfl⟩ (Nat.le_of_ble_eq_true rfl) dX2_placed_17 20 rfl (sn_X1_has 1 a1 (Or.inl rfl) m_2 _ h) (fun r_5 m_6 h => ?_)
    refine q_if_ne hX dX2_placed_20 23 25 rfl (by decide) (fun c_7 => ?_) (fun c_7 => ?_)
    · replace h := h.1 c_7
      refine q_aload_n hX rfl dX2_placed_25 26 rfl ?_
      refine gf_X2_22 hX dX2_placed_26 29 rfl ?_
      refine q_aload_n hX rfl dX2_placed_29 30 rfl ?_
      refine gf_X2_10 hX dX2_placed_30 33 rfl ?_
      refine q_aload_n hX rfl dX2_placed_33 34 rfl ?_
      refine gf_X2_28 hX dX2_placed_34 37 rfl ?_
      refine q_iload_n hX rfl dX2_placed_37 38 rfl ?_
      obtain ⟨g_8, h⟩ := h
      refine q_aald hX rfl g_8 dX2_placed_38 39 rfl ?_
      refine cl_X2_126 hX  ⟨Nat.le_of_ble_eq_true rfl, Nat.le_of_ble_eq_true rfl⟩ (Nat.le_of_ble_eq_true rfl) dX2_placed_39 42 rfl (sn_X0_findBestOrder 1 (35 + a0.toNatClampNeg) (Or.inl rfl) m_6 _ h) (fun r_9 m_10 h => ?_)
      refine q_pop hX rfl dX2_placed_42 43 rfl ?_
      refine q_aload_n hX rfl dX2_placed_43 44 rfl ?_
      refine gf_X2_22 hX dX2_placed_44 47 rfl ?_
      refine gf_X2_130 hX dX2_placed_47 50 rfl ?_
      refine q_iload_n hX rfl dX2_placed_50 51 rfl ?_
      obtain ⟨g_11, h⟩ := h
      refine q_iald hX g_11 dX2_placed_51 52 rfl ?_
      exact q_iret hX dX2_placed_52 h
    · replace h := h.2 c_7
      refine q_iconst hX (-1 : Int32) q_ki_m1 dX2_placed_23 24 rfl ?_
      exact q_iret hX dX2_placed_24 h
  · replace h := h.2 c_4
    refine q_iload_n hX rfl dX2_placed_10 11 rfl ?_
    exact q_iret hX dX2_placed_11 h
set_option maxRecDepth 100000 in
set_option maxHeartbeats 4000000 in
theorem sn_X2_placed {l : Launch} {G : q_G} (a0 : Int32) (a1 : Int32)  (mem : q_Mem) (Q : Int32 → q_Mem → Prop) (h : wp_X2_placed a0 a1 mem Q) : q_MI l G yX2_placed cX2_placed 4 (some .int) rm_X2_placed [.ref (q_ad G 0), .int a0, .int a1] mem Q := by
  refine q_metI 1 (by decide +kernel) (Nat.le_of_ble_eq_true rfl) rfl (fun X hl hX => ?_)
  subst hl
  exact sn_X2_placed_0 hX a0 a1  Q mem h

-- X2_pressure
def wp_X2_pressure  (a0 : Int32) (a1 : Int32)  (mem : q_Mem) (Q : Int32 → q_Mem → Prop) : Prop := wp_X2_faceRefusal a0 a1 mem (fun r_1 m_2 => ((r_1 = 0) → vp_in a0 24 ∧ (wp_X0_pressureAt 1 (35 + a0.toNatClampNeg) a1 m_2 (fun r_6 m_7 => Q r_6 m_7))) ∧ ((¬ r_1 = 0) → Q r_1 m_2))
set_option maxRecDepth 100000 in
set_option maxHeartbeats 4000000 in
theorem sn_X2_pressure_0 {X : q_X} {G : q_G} (hX : q_C X cX2_pressure 4 RX2 (some .int) 4 93) (a0 : Int32) (a1 : Int32)   (Q : Int32 → q_Mem → Prop)  (mem : q_Mem) (h : wp_X2_pressure  a0 a1  mem Q) : q_J X G 4 (q_QI X G Q) 0 [some (.ref (q_ad G 0)), some (.int a0), some (.int a1), none] [] mem := by
  unfold wp_X2_pressure at h
  refine q_aload_n hX rfl dX2_pressure_0 1 rfl ?_
  refine q_iload_n hX rfl dX2_pressure_1 2 rfl ?_
  refine q_iload_n hX rfl dX2_pressure_2 3 rfl ?_
  refine cl_X2_107 hX  ⟨Nat.le_of_ble_eq_true rfl, Nat.le_of_ble_eq_true rfl⟩ (Nat.le_of_ble_eq_true rfl) dX2_pressure_3 6 rfl (sn_X2_faceRefusal a0 a1  mem _ h) (fun r_1 m_2 h => ?_)
  refine q_istore_n hX dX2_pressure_6 7 rfl (Nat.le_of_ble_eq_true rfl) rfl (fun y => [some (.ref (q_ad G 0)), some (.int a0), some (.int a1), some (.int y)]) (fun _ => rfl) (fun x3_3 ex3_3 => ?_)
  replace ex3_3 := ex3_3.symm; subst ex3_3
  refine q_iload_n hX rfl dX2_pressure_7 8 rfl ?_
  refine q_if_eq hX dX2_pressure_8 11 15 rfl (by decide) (fun c_4 => ?_) (fun c_4 => ?_)
  · replace h := h.1 c_4
    refine q_aload_n hX rfl dX2_pressure_15 16 rfl ?_
    refine gf_X2_22 hX dX2_pressure_16 19 rfl ?_
    refine q_aload_n hX rfl dX2_pressure_19 20 rfl ?_
    refine gf_X2_10 hX dX2_pressure_20 23 rfl ?_
    refine q_aload_n hX rfl dX2_pressure_23 24 rfl ?_
    refine gf_X2_28 hX dX2_pressure_24 27 rfl ?_
    refine q_iload_n hX rfl dX2_pressure_27 28 rfl ?_
    obtain ⟨g_5, h⟩ := h
    refine q_aald hX rfl g_5 dX2_pressure_28 29 rfl ?_
    refine q_iload_n hX rfl dX2_pressure_29 30 rfl ?_
    refine cl_X2_110 hX  ⟨Nat.le_of_ble_eq_true rfl, Nat.le_of_ble_eq_true rfl⟩ (Nat.le_of_ble_eq_true rfl) dX2_pressure_30 33 rfl (sn_X0_pressureAt 1 (35 + a0.toNatClampNeg) a1 (Or.inl rfl) m_2 _ h) (fun r_6 m_7 h => ?_)
    exact q_iret hX dX2_pressure_33 h
  · replace h := h.2 c_4
    refine q_iload_n hX rfl dX2_pressure_11 12 rfl ?_
    refine q_goto hX dX2_pressure_12 33 (by decide) ?_
    exact q_iret hX dX2_pressure_33 h
set_option maxRecDepth 100000 in
set_option maxHeartbeats 4000000 in
theorem sn_X2_pressure {l : Launch} {G : q_G} (a0 : Int32) (a1 : Int32)  (mem : q_Mem) (Q : Int32 → q_Mem → Prop) (h : wp_X2_pressure a0 a1 mem Q) : q_MI l G yX2_pressure cX2_pressure 4 (some .int) rm_X2_pressure [.ref (q_ad G 0), .int a0, .int a1] mem Q := by
  refine q_metI 1 (by decide +kernel) (Nat.le_of_ble_eq_true rfl) rfl (fun X hl hX => ?_)
  subst hl
  exact sn_X2_pressure_0 hX a0 a1  Q mem h

-- X2_read
def wp_X2_read  (a0 : Int32) (a1 : Int32) (a2 : Int32) (a3 : Int32)  (mem : q_Mem) (Q : Int32 → q_Mem → Prop) : Prop := wp_X1_has 1 a0 mem (fun r_1 m_2 => ((¬ r_1 = 0) → wp_X2_within a1 (1 : Int32) (100 : Int32) m_2 (fun r_4 m_5 => ((r_4 = 0) → Q (-102 : Int32) m_5) ∧ ((¬ r_4 = 0) → wp_X2_isDamp a2 m_5 (fun r_7 m_8 => ((r_7 = 0) → Q (-102 : Int32) m_8) ∧ ((¬ r_7 = 0) → wp_X2_isDamp a3 m_8 (fun r_10 m_11 => ((r_10 = 0) → Q (-102 : Int32) m_11) ∧ ((¬ r_10 = 0) → ((a2 ≤ a3) → (((m_11 0 8) < (12 : Int32)) → vp_in (m_11 0 8) 12 ∧ (vp_in (0 : Int32) (q_al (60 + (m_11 0 8).toNatClampNeg)) ∧ (∀ m_18 : q_Mem, m_18 = q_set m_11 (60 + (m_11 0 8).toNatClampNeg) (upd (m_11 (60 + (m_11 0 8).toNatClampNeg)) (0 : Int32).toNatClampNeg a0) → vp_in (1 : Int32) (q_al (60 + (m_11 0 8).toNatClampNeg)) ∧ (∀ m_20 : q_Mem, m_20 = q_set m_18 (60 + (m_11 0 8).toNatClampNeg) (upd (m_18 (60 + (m_11 0 8).toNatClampNeg)) (1 : Int32).toNatClampNeg a1) → vp_in (2 : Int32) (q_al (60 + (m_11 0 8).toNatClampNeg)) ∧ (∀ m_22 : q_Mem, m_22 = q_set m_20 (60 + (m_11 0 8).toNatClampNeg) (upd (m_20 (60 + (m_11 0 8).toNatClampNeg)) (2 : Int32).toNatClampNeg a2) → vp_in (3 : Int32) (q_al (60 + (m_11 0 8).toNatClampNeg)) ∧ (∀ m_24 : q_Mem, m_24 = q_set m_22 (60 + (m_11 0 8).toNatClampNeg) (upd (m_22 (60 + (m_11 0 8).toNatClampNeg)) (3 : Int32).toNatClampNeg a3) → ∀ m_25 : q_Mem, m_25 = q_set m_24 0 (upd (m_24 0) 8 ((m_24 0 8) + (1 : Int32))) → Q (m_25 0 8) m_25)))))) ∧ ((¬ (m_11 0 8) < (12 : Int32)) → Q (-104 : Int32) m_11)) ∧ ((¬ a2 ≤ a3) → Q (-102 : Int32) m_11)))))))) ∧ ((r_1 = 0) → Q (-101 : Int32) m_2))
set_option maxRecDepth 100000 in
set_option maxHeartbeats 4000000 in
theorem sn_X2_read_0 {X : q_X} {G : q_G} (hX : q_C X cX2_read 6 RX2 (some .int) 2 42) (a0 : Int32) (a1 : Int32) (a2 : Int32) (a3 : Int32)   (Q : Int32 → q_Mem → Prop)  (mem : q_Mem) (h : wp_X2_read  a0 a1 a2 a3  mem Q) : q_J X G 6 (q_QI X G Q) 0 [some (.ref (q_ad G 0)), some (.int a0), some (.int a1), some (.int a2), some (.int a3), none] [] mem := by
  unfold wp_X2_read at h
  refine q_aload_n hX rfl dX2_read_0 1 rfl ?_
  refine gf_X2_10 hX dX2_read_1 4 rfl ?_
  refine q_iload_n hX rfl dX2_read_4 5 rfl ?_
  refine cl_X2_67 hX (Or.inl rfl) ⟨Nat.le_of_ble_eq_true rfl, Nat.le_of_ble_eq_true rfl⟩ (Nat.le_of_ble_eq_true rfl) dX2_read_5 8 rfl (sn_X1_has 1 a0 (Or.inl rfl) mem _ h) (fun r_1 m_2 h => ?_)
  refine q_if_ne hX dX2_read_8 11 14 rfl (by decide) (fun c_3 => ?_) (fun c_3 => ?_)
  · replace h := h.1 c_3
    refine q_iload_n hX rfl dX2_read_14 15 rfl ?_
    refine q_iconst hX (1 : Int32) q_ki_1 dX2_read_15 16 rfl ?_
    refine q_bipush hX (100 : Int32) q_kb_100 dX2_read_16 18 rfl ?_
    refine cl_X2_50 hX  ⟨Nat.le_of_ble_eq_true rfl, Nat.le_of_ble_eq_true rfl⟩ (Nat.le_of_ble_eq_true rfl) dX2_read_18 21 rfl (sn_X2_within a1 (1 : Int32) (100 : Int32)  m_2 _ h) (fun r_4 m_5 h => ?_)
    refine q_if_eq hX dX2_read_21 24 45 rfl (by decide) (fun c_6 => ?_) (fun c_6 => ?_)
    · replace h := h.1 c_6
      refine q_bipush hX (-102 : Int32) q_kb_m102 dX2_read_45 47 rfl ?_
      exact q_iret hX dX2_read_47 h
    · replace h := h.2 c_6
      refine q_iload_n hX rfl dX2_read_24 25 rfl ?_
      refine cl_X2_85 hX  ⟨Nat.le_of_ble_eq_true rfl, Nat.le_of_ble_eq_true rfl⟩ (Nat.le_of_ble_eq_true rfl) dX2_read_25 28 rfl (sn_X2_isDamp a2  m_5 _ h) (fun r_7 m_8 h => ?_)
      refine q_if_eq hX dX2_read_28 31 45 rfl (by decide) (fun c_9 => ?_) (fun c_9 => ?_)
      · replace h := h.1 c_9
        refine q_bipush hX (-102 : Int32) q_kb_m102 dX2_read_45 47 rfl ?_
        exact q_iret hX dX2_read_47 h
      · replace h := h.2 c_9
        refine q_iload hX rfl dX2_read_31 33 rfl ?_
        refine cl_X2_85 hX  ⟨Nat.le_of_ble_eq_true rfl, Nat.le_of_ble_eq_true rfl⟩ (Nat.le_of_ble_eq_true rfl) dX2_read_33 36 rfl (sn_X2_isDamp a3  m_8 _ h) (fun r_10 m_11 h => ?_)
        refine q_if_eq hX dX2_read_36 39 45 rfl (by decide) (fun c_12 => ?_) (fun c_12 => ?_)
        · replace h := h.1 c_12
          refine q_bipush hX (-102 : Int32) q_kb_m102 dX2_read_45 47 rfl ?_
          exact q_iret hX dX2_read_47 h
        · replace h := h.2 c_12
          refine q_iload_n hX rfl dX2_read_39 40 rfl ?_
          refine q_iload hX rfl dX2_read_40 42 rfl ?_
          refine q_icmp_le hX dX2_read_42 45 48 rfl (by decide) (fun c_13 => ?_) (fun c_13 => ?_)
          · replace h := h.1 c_13
            refine q_aload_n hX rfl dX2_read_48 49 rfl ?_
            refine gf_X2_44 hX dX2_read_49 52 rfl ?_
            refine q_bipush hX (12 : Int32) q_kb_12 dX2_read_52 54 rfl ?_
            refine q_icmp_lt hX dX2_read_54 57 60 rfl (by decide) (fun c_14 => ?_) (fun c_14 => ?_)
            · replace h := h.1 c_14
              refine q_aload_n hX rfl dX2_read_60 61 rfl ?_
              refine gf_X2_41 hX dX2_read_61 64 rfl ?_
              refine q_aload_n hX rfl dX2_read_64 65 rfl ?_
              refine gf_X2_44 hX dX2_read_65 68 rfl ?_
              obtain ⟨g_15, h⟩ := h
              refine q_aald hX rfl g_15 dX2_read_68 69 rfl ?_
              refine q_astore hX dX2_read_69 71 rfl (Nat.le_of_ble_eq_true rfl) rfl (fun y => [some (.ref (q_ad G 0)), some (.int a0), some (.int a1), some (.int a2), some (.int a3), some (.ref y)]) (fun _ => rfl) (fun r5_16 er5_16 => ?_)
              replace er5_16 := er5_16.symm; subst er5_16
              refine q_aload hX rfl dX2_read_71 73 rfl ?_
              refine q_iconst hX (0 : Int32) q_ki_0 dX2_read_73 74 rfl ?_
              refine q_iload_n hX rfl dX2_read_74 75 rfl ?_
              obtain ⟨g_17, h⟩ := h
              refine q_iast hX g_17 dX2_read_75 76 rfl (fun m_18 em_18 => ?_)
              replace h := h m_18 em_18
              refine q_aload hX rfl dX2_read_76 78 rfl ?_
              refine q_iconst hX (1 : Int32) q_ki_1 dX2_read_78 79 rfl ?_
              refine q_iload_n hX rfl dX2_read_79 80 rfl ?_
              obtain ⟨g_19, h⟩ := h
              refine q_iast hX g_19 dX2_read_80 81 rfl (fun m_20 em_20 => ?_)
              replace h := h m_20 em_20
              refine q_aload hX rfl dX2_read_81 83 rfl ?_
              refine q_iconst hX (2 : Int32) q_ki_2 dX2_read_83 84 rfl ?_
              refine q_iload_n hX rfl dX2_read_84 85 rfl ?_
              obtain ⟨g_21, h⟩ := h
              refine q_iast hX g_21 dX2_read_85 86 rfl (fun m_22 em_22 => ?_)
              replace h := h m_22 em_22
              refine q_aload hX rfl dX2_read_86 88 rfl ?_
              refine q_iconst hX (3 : Int32) q_ki_3 dX2_read_88 89 rfl ?_
              refine q_iload hX rfl dX2_read_89 91 rfl ?_
              obtain ⟨g_23, h⟩ := h
              refine q_iast hX g_23 dX2_read_91 92 rfl (fun m_24 em_24 => ?_)
              replace h := h m_24 em_24
              refine q_aload_n hX rfl dX2_read_92 93 rfl ?_
              refine q_dup hX rfl dX2_read_93 94 rfl ?_
              refine gf_X2_44 hX dX2_read_94 97 rfl ?_
              refine q_iconst hX (1 : Int32) q_ki_1 dX2_read_97 98 rfl ?_
              refine q_iadd hX dX2_read_98 99 rfl ?_
              refine pf_X2_44 hX dX2_read_99 102 rfl (fun m_25 em_25 => ?_)
              replace h := h m_25 em_25
              refine q_aload_n hX rfl dX2_read_102 103 rfl ?_
              refine gf_X2_44 hX dX2_read_103 106 rfl ?_
              exact q_iret hX dX2_read_106 h
            · replace h := h.2 c_14
              refine q_bipush hX (-104 : Int32) q_kb_m104 dX2_read_57 59 rfl ?_
              exact q_iret hX dX2_read_59 h
          · replace h := h.2 c_13
            refine q_bipush hX (-102 : Int32) q_kb_m102 dX2_read_45 47 rfl ?_
            exact q_iret hX dX2_read_47 h
  · replace h := h.2 c_3
    refine q_bipush hX (-101 : Int32) q_kb_m101 dX2_read_11 13 rfl ?_
    exact q_iret hX dX2_read_13 h
set_option maxRecDepth 100000 in
set_option maxHeartbeats 4000000 in
theorem sn_X2_read {l : Launch} {G : q_G} (a0 : Int32) (a1 : Int32) (a2 : Int32) (a3 : Int32)  (mem : q_Mem) (Q : Int32 → q_Mem → Prop) (h : wp_X2_read a0 a1 a2 a3 mem Q) : q_MI l G yX2_read cX2_read 6 (some .int) rm_X2_read [.ref (q_ad G 0), .int a0, .int a1, .int a2, .int a3] mem Q := by
  refine q_metI 1 (by decide +kernel) (Nat.le_of_ble_eq_true rfl) rfl (fun X hl hX => ?_)
  subst hl
  exact sn_X2_read_0 hX a0 a1 a2 a3  Q mem h

-- X2_roundKeepsWater
def wp_X2_roundKeepsWater_44    (mem : q_Mem) (Q : Int32 → q_Mem → Prop) : Prop := wp_X1_holdsSameWaterAs 1 16 mem (fun r_1 m_2 => (r_1 &&& 1 = r_1) ∧ Q r_1 m_2)
def wp_X2_roundKeepsWater_13_b (K13 : Int32 → q_Mem → Prop)  (x1 : Int32) (mem : q_Mem) (Q : Int32 → q_Mem → Prop) : Prop := (((mem 0 4) ≤ x1) → wp_X2_roundKeepsWater_44    mem Q) ∧ ((¬ (mem 0 4) ≤ x1) → vp_in x1 24 ∧ (wp_X1_letHourPass 1 (35 + x1.toNatClampNeg) (mem 0 6) mem (fun m_4 => ∀ x1_5 : Int32, x1_5 = (x1 + (1 : Int32)) → K13 x1_5 m_4)))
def wp_X2_roundKeepsWater_13   (x1 : Int32) (mem : q_Mem) (Q : Int32 → q_Mem → Prop) : Prop := ∃ I : Nat → Int32 → q_Mem → Prop, (∃ n, I n x1 mem) ∧ ∀ (n : Nat) (yx1 : Int32) (ymem : q_Mem), I n yx1 ymem → wp_X2_roundKeepsWater_13_b  (fun (zx1 : Int32) (zmem : q_Mem) => ∃ n2, n2 < n ∧ I n2 zx1 zmem)  yx1 ymem Q
def wp_X2_roundKeepsWater    (mem : q_Mem) (Q : Int32 → q_Mem → Prop) : Prop := wp_X1_becomeAs 16 1 mem (fun m_2 => wp_X2_roundKeepsWater_13   (0 : Int32) m_2 Q)
set_option maxRecDepth 100000 in
set_option maxHeartbeats 4000000 in
theorem sn_X2_roundKeepsWater_44 {X : q_X} {G : q_G} (hX : q_C X cX2_roundKeepsWater 2 RX2 (some .boolean) 5 116)    (Q : Int32 → q_Mem → Prop)  (mem : q_Mem) (h : wp_X2_roundKeepsWater_44    mem Q) : q_J X G 2 (q_QI X G Q) 44 [some (.ref (q_ad G 0)), none] [] mem := by
  unfold wp_X2_roundKeepsWater_44 at h
  refine q_aload_n hX rfl dX2_roundKeepsWater_44 45 rfl ?_
  refine gf_X2_10 hX dX2_roundKeepsWater_45 48 rfl ?_
  refine q_aload_n hX rfl dX2_roundKeepsWater_48 49 rfl ?_
  refine gf_X2_16 hX dX2_roundKeepsWater_49 52 rfl ?_
  refine cl_X2_164 hX (Or.inl rfl) ⟨Nat.le_of_ble_eq_true rfl, Nat.le_of_ble_eq_true rfl⟩ (Nat.le_of_ble_eq_true rfl) dX2_roundKeepsWater_52 55 rfl (sn_X1_holdsSameWaterAs 1 16 (Or.inl rfl) (Or.inr rfl) mem _ h) (fun r_1 m_2 h => ?_)
  exact q_zret hX dX2_roundKeepsWater_55 h.1 h.2
set_option maxRecDepth 100000 in
set_option maxHeartbeats 4000000 in
theorem sn_X2_roundKeepsWater_13_b {X : q_X} {G : q_G} (hX : q_C X cX2_roundKeepsWater 2 RX2 (some .boolean) 5 116)   (x1 : Int32) (Q : Int32 → q_Mem → Prop) (K13 : Int32 → q_Mem → Prop) (hK13 : ∀ (yx1 : Int32) (ymem : q_Mem), K13 yx1 ymem → q_J X G 2 (q_QI X G Q) 13 [some (.ref (q_ad G 0)), some (.int yx1)] [] ymem) (mem : q_Mem) (h : wp_X2_roundKeepsWater_13_b K13  x1 mem Q) : q_J X G 2 (q_QI X G Q) 13 [some (.ref (q_ad G 0)), some (.int x1)] [] mem := by
  unfold wp_X2_roundKeepsWater_13_b at h
  refine q_iload_n hX rfl dX2_roundKeepsWater_13 14 rfl ?_
  refine q_aload_n hX rfl dX2_roundKeepsWater_14 15 rfl ?_
  refine gf_X2_31 hX dX2_roundKeepsWater_15 18 rfl ?_
  refine q_icmp_ge hX dX2_roundKeepsWater_18 21 44 rfl (by decide) (fun c_1 => ?_) (fun c_1 => ?_)
  · replace h := h.1 c_1
    exact q_weak [true, false] rfl (sn_X2_roundKeepsWater_44 hX     Q  mem h)
  · replace h := h.2 c_1
    refine q_aload_n hX rfl dX2_roundKeepsWater_21 22 rfl ?_
    refine gf_X2_10 hX dX2_roundKeepsWater_22 25 rfl ?_
    refine q_aload_n hX rfl dX2_roundKeepsWater_25 26 rfl ?_
    refine gf_X2_28 hX dX2_roundKeepsWater_26 29 rfl ?_
    refine q_iload_n hX rfl dX2_roundKeepsWater_29 30 rfl ?_
    obtain ⟨g_2, h⟩ := h
    refine q_aald hX rfl g_2 dX2_roundKeepsWater_30 31 rfl ?_
    refine q_aload_n hX rfl dX2_roundKeepsWater_31 32 rfl ?_
    refine gf_X2_38 hX dX2_roundKeepsWater_32 35 rfl ?_
    refine cl_X2_95 hX (Or.inl rfl) ⟨Nat.le_of_ble_eq_true rfl, Nat.le_of_ble_eq_true rfl⟩ (Nat.le_of_ble_eq_true rfl) dX2_roundKeepsWater_35 38 rfl (sn_X1_letHourPass 1 (35 + x1.toNatClampNeg) (mem 0 6) (Or.inl rfl) mem _ h) (fun m_4 h => ?_)
    refine q_iinc hX (1 : Int32) q_ki_1 rfl dX2_roundKeepsWater_38 41 rfl (Nat.le_of_ble_eq_true rfl) rfl (fun y => [some (.ref (q_ad G 0)), some (.int y)]) (fun _ => rfl) (fun x1_5 ex1_5 => ?_)
    replace h := h x1_5 ex1_5
    refine q_goto hX dX2_roundKeepsWater_41 13 (by decide) ?_
    exact q_weak [true, true] rfl (hK13 x1_5 m_4 h)
set_option maxRecDepth 100000 in
set_option maxHeartbeats 4000000 in
theorem sn_X2_roundKeepsWater_13 {X : q_X} {G : q_G} (hX : q_C X cX2_roundKeepsWater 2 RX2 (some .boolean) 5 116)   (x1 : Int32) (Q : Int32 → q_Mem → Prop)  (mem : q_Mem) (h : wp_X2_roundKeepsWater_13   x1 mem Q) : q_J X G 2 (q_QI X G Q) 13 [some (.ref (q_ad G 0)), some (.int x1)] [] mem := by
  obtain ⟨I, ⟨n, h0⟩, hs⟩ := h
  have key : ∀ (n : Nat) (yx1 : Int32) (ymem : q_Mem), I n yx1 ymem → q_J X G 2 (q_QI X G Q) 13 [some (.ref (q_ad G 0)), some (.int yx1)] [] ymem := by
    intro n
    induction n using Nat.strongRecOn with
    | ind n ih =>
      intro yx1 ymem hI
      exact sn_X2_roundKeepsWater_13_b hX    yx1 Q  (fun (zx1 : Int32) (zmem : q_Mem) => ∃ n2, n2 < n ∧ I n2 zx1 zmem) (fun zx1 zmem hz => by obtain ⟨n2, h1, h2⟩ := hz; exact ih n2 h1 zx1 zmem h2) ymem (hs n yx1 ymem hI)
  exact key n x1 mem h0
set_option maxRecDepth 100000 in
set_option maxHeartbeats 4000000 in
theorem sn_X2_roundKeepsWater_0 {X : q_X} {G : q_G} (hX : q_C X cX2_roundKeepsWater 2 RX2 (some .boolean) 5 116)    (Q : Int32 → q_Mem → Prop)  (mem : q_Mem) (h : wp_X2_roundKeepsWater    mem Q) : q_J X G 2 (q_QI X G Q) 0 [some (.ref (q_ad G 0)), none] [] mem := by
  unfold wp_X2_roundKeepsWater at h
  refine q_aload_n hX rfl dX2_roundKeepsWater_0 1 rfl ?_
  refine gf_X2_16 hX dX2_roundKeepsWater_1 4 rfl ?_
  refine q_aload_n hX rfl dX2_roundKeepsWater_4 5 rfl ?_
  refine gf_X2_10 hX dX2_roundKeepsWater_5 8 rfl ?_
  refine cl_X2_160 hX (Or.inr rfl) ⟨Nat.le_of_ble_eq_true rfl, Nat.le_of_ble_eq_true rfl⟩ (Nat.le_of_ble_eq_true rfl) dX2_roundKeepsWater_8 11 rfl (sn_X1_becomeAs 16 1 (Or.inr rfl) (Or.inl rfl) mem _ h) (fun m_2 h => ?_)
  refine q_iconst hX (0 : Int32) q_ki_0 dX2_roundKeepsWater_11 12 rfl ?_
  refine q_istore_n hX dX2_roundKeepsWater_12 13 rfl (Nat.le_of_ble_eq_true rfl) rfl (fun y => [some (.ref (q_ad G 0)), some (.int y)]) (fun _ => rfl) (fun x1_3 ex1_3 => ?_)
  replace ex1_3 := ex1_3.symm; subst ex1_3
  exact q_weak [true, true] rfl (sn_X2_roundKeepsWater_13 hX    (0 : Int32) Q  m_2 h)
set_option maxRecDepth 100000 in
set_option maxHeartbeats 4000000 in
theorem sn_X2_roundKeepsWater {l : Launch} {G : q_G}   (mem : q_Mem) (Q : Int32 → q_Mem → Prop) (h : wp_X2_roundKeepsWater  mem Q) : q_MI l G yX2_roundKeepsWater cX2_roundKeepsWater 2 (some .boolean) rm_X2_roundKeepsWater [.ref (q_ad G 0)] mem Q := by
  refine q_metI 1 (by decide +kernel) (Nat.le_of_ble_eq_true rfl) rfl (fun X hl hX => ?_)
  subst hl
  exact sn_X2_roundKeepsWater_0 hX   Q mem h

-- X2_share
def wp_X2_share  (a0 : Int32)  (mem : q_Mem) (Q : Int32 → q_Mem → Prop) : Prop := wp_X2_within a0 (0 : Int32) (10 : Int32) mem (fun r_1 m_2 => ((¬ r_1 = 0) → ∀ x2_4 : Int32, x2_4 = (m_2 0 6) → ∀ m_5 : q_Mem, m_5 = q_set m_2 0 (upd (m_2 0) 6 a0) → Q x2_4 m_5) ∧ ((r_1 = 0) → Q (-102 : Int32) m_2))
set_option maxRecDepth 100000 in
set_option maxHeartbeats 4000000 in
theorem sn_X2_share_0 {X : q_X} {G : q_G} (hX : q_C X cX2_share 3 RX2 (some .int) 1 22) (a0 : Int32)   (Q : Int32 → q_Mem → Prop)  (mem : q_Mem) (h : wp_X2_share  a0  mem Q) : q_J X G 3 (q_QI X G Q) 0 [some (.ref (q_ad G 0)), some (.int a0), none] [] mem := by
  unfold wp_X2_share at h
  refine q_iload_n hX rfl dX2_share_0 1 rfl ?_
  refine q_iconst hX (0 : Int32) q_ki_0 dX2_share_1 2 rfl ?_
  refine q_bipush hX (10 : Int32) q_kb_10 dX2_share_2 4 rfl ?_
  refine cl_X2_50 hX  ⟨Nat.le_of_ble_eq_true rfl, Nat.le_of_ble_eq_true rfl⟩ (Nat.le_of_ble_eq_true rfl) dX2_share_4 7 rfl (sn_X2_within a0 (0 : Int32) (10 : Int32)  mem _ h) (fun r_1 m_2 h => ?_)
  refine q_if_ne hX dX2_share_7 10 13 rfl (by decide) (fun c_3 => ?_) (fun c_3 => ?_)
  · replace h := h.1 c_3
    refine q_aload_n hX rfl dX2_share_13 14 rfl ?_
    refine gf_X2_38 hX dX2_share_14 17 rfl ?_
    refine q_istore_n hX dX2_share_17 18 rfl (Nat.le_of_ble_eq_true rfl) rfl (fun y => [some (.ref (q_ad G 0)), some (.int a0), some (.int y)]) (fun _ => rfl) (fun x2_4 ex2_4 => ?_)
    replace h := h x2_4 ex2_4
    refine q_aload_n hX rfl dX2_share_18 19 rfl ?_
    refine q_iload_n hX rfl dX2_share_19 20 rfl ?_
    refine pf_X2_38 hX dX2_share_20 23 rfl (fun m_5 em_5 => ?_)
    replace h := h m_5 em_5
    refine q_iload_n hX rfl dX2_share_23 24 rfl ?_
    exact q_iret hX dX2_share_24 h
  · replace h := h.2 c_3
    refine q_bipush hX (-102 : Int32) q_kb_m102 dX2_share_10 12 rfl ?_
    exact q_iret hX dX2_share_12 h
set_option maxRecDepth 100000 in
set_option maxHeartbeats 4000000 in
theorem sn_X2_share {l : Launch} {G : q_G} (a0 : Int32)  (mem : q_Mem) (Q : Int32 → q_Mem → Prop) (h : wp_X2_share a0 mem Q) : q_MI l G yX2_share cX2_share 3 (some .int) rm_X2_share [.ref (q_ad G 0), .int a0] mem Q := by
  refine q_metI 1 (by decide +kernel) (Nat.le_of_ble_eq_true rfl) rfl (fun X hl hX => ?_)
  subst hl
  exact sn_X2_share_0 hX a0  Q mem h

-- X2_steady
def wp_X2_steady_44  (a0 : Int32) (x2 : Int32) (mem : q_Mem) (Q : Int32 → q_Mem → Prop) : Prop := Q x2 mem
def wp_X2_steady_32_b (K32 : Int32 → q_Mem → Prop) (a0 : Int32) (x2 : Int32) (mem : q_Mem) (Q : Int32 → q_Mem → Prop) : Prop := ((a0 < x2) → Q (-1 : Int32) mem) ∧ ((¬ a0 < x2) → wp_X2_roundKeepsWater  mem (fun r_2 m_3 => ((r_2 = 0) → ∀ x2_5 : Int32, x2_5 = (x2 + (1 : Int32)) → K32 x2_5 m_3) ∧ ((¬ r_2 = 0) → wp_X2_steady_44  a0 x2 m_3 Q)))
def wp_X2_steady_32  (a0 : Int32) (x2 : Int32) (mem : q_Mem) (Q : Int32 → q_Mem → Prop) : Prop := ∃ I : Nat → Int32 → q_Mem → Prop, (∃ n, I n x2 mem) ∧ ∀ (n : Nat) (yx2 : Int32) (ymem : q_Mem), I n yx2 ymem → wp_X2_steady_32_b  (fun (zx2 : Int32) (zmem : q_Mem) => ∃ n2, n2 < n ∧ I n2 zx2 zmem) a0 yx2 ymem Q
def wp_X2_steady  (a0 : Int32)  (mem : q_Mem) (Q : Int32 → q_Mem → Prop) : Prop := wp_X2_within a0 (1 : Int32) (60 : Int32) mem (fun r_1 m_2 => ((¬ r_1 = 0) → wp_X2_nothingCanPass  m_2 (fun r_4 m_5 => ((¬ r_4 = 0) → Q (-103 : Int32) m_5) ∧ ((r_4 = 0) → (((m_5 0 5) = 0) → wp_X2_steady_32  a0 (1 : Int32) m_5 Q) ∧ ((¬ (m_5 0 5) = 0) → Q (-103 : Int32) m_5)))) ∧ ((r_1 = 0) → Q (-102 : Int32) m_2))
set_option maxRecDepth 100000 in
set_option maxHeartbeats 4000000 in
theorem sn_X2_steady_44 {X : q_X} {G : q_G} (hX : q_C X cX2_steady 3 RX2 (some .int) 6 137) (a0 : Int32)  (x2 : Int32) (Q : Int32 → q_Mem → Prop)  (mem : q_Mem) (h : wp_X2_steady_44  a0 x2 mem Q) : q_J X G 3 (q_QI X G Q) 44 [some (.ref (q_ad G 0)), some (.int a0), some (.int x2)] [] mem := by
  unfold wp_X2_steady_44 at h
  refine q_iload_n hX rfl dX2_steady_44 45 rfl ?_
  exact q_iret hX dX2_steady_45 h
set_option maxRecDepth 100000 in
set_option maxHeartbeats 4000000 in
theorem sn_X2_steady_32_b {X : q_X} {G : q_G} (hX : q_C X cX2_steady 3 RX2 (some .int) 6 137) (a0 : Int32)  (x2 : Int32) (Q : Int32 → q_Mem → Prop) (K32 : Int32 → q_Mem → Prop) (hK32 : ∀ (yx2 : Int32) (ymem : q_Mem), K32 yx2 ymem → q_J X G 3 (q_QI X G Q) 32 [some (.ref (q_ad G 0)), some (.int a0), some (.int yx2)] [] ymem) (mem : q_Mem) (h : wp_X2_steady_32_b K32 a0 x2 mem Q) : q_J X G 3 (q_QI X G Q) 32 [some (.ref (q_ad G 0)), some (.int a0), some (.int x2)] [] mem := by
  unfold wp_X2_steady_32_b at h
  refine q_iload_n hX rfl dX2_steady_32 33 rfl ?_
  refine q_iload_n hX rfl dX2_steady_33 34 rfl ?_
  refine q_icmp_gt hX dX2_steady_34 37 52 rfl (by decide) (fun c_1 => ?_) (fun c_1 => ?_)
  · replace h := h.1 c_1
    refine q_iconst hX (-1 : Int32) q_ki_m1 dX2_steady_52 53 rfl ?_
    exact q_iret hX dX2_steady_53 h
  · replace h := h.2 c_1
    refine q_aload_n hX rfl dX2_steady_37 38 rfl ?_
    refine cl_X2_103 hX  ⟨Nat.le_of_ble_eq_true rfl, Nat.le_of_ble_eq_true rfl⟩ (Nat.le_of_ble_eq_true rfl) dX2_steady_38 41 rfl (sn_X2_roundKeepsWater   mem _ h) (fun r_2 m_3 h => ?_)
    refine q_if_eq hX dX2_steady_41 44 46 rfl (by decide) (fun c_4 => ?_) (fun c_4 => ?_)
    · replace h := h.1 c_4
      refine q_iinc hX (1 : Int32) q_ki_1 rfl dX2_steady_46 49 rfl (Nat.le_of_ble_eq_true rfl) rfl (fun y => [some (.ref (q_ad G 0)), some (.int a0), some (.int y)]) (fun _ => rfl) (fun x2_5 ex2_5 => ?_)
      replace h := h x2_5 ex2_5
      refine q_goto hX dX2_steady_49 32 (by decide) ?_
      exact q_weak [true, true, true] rfl (hK32 x2_5 m_3 h)
    · replace h := h.2 c_4
      exact q_weak [true, true, true] rfl (sn_X2_steady_44 hX  a0  x2 Q  m_3 h)
set_option maxRecDepth 100000 in
set_option maxHeartbeats 4000000 in
theorem sn_X2_steady_32 {X : q_X} {G : q_G} (hX : q_C X cX2_steady 3 RX2 (some .int) 6 137) (a0 : Int32)  (x2 : Int32) (Q : Int32 → q_Mem → Prop)  (mem : q_Mem) (h : wp_X2_steady_32  a0 x2 mem Q) : q_J X G 3 (q_QI X G Q) 32 [some (.ref (q_ad G 0)), some (.int a0), some (.int x2)] [] mem := by
  obtain ⟨I, ⟨n, h0⟩, hs⟩ := h
  have key : ∀ (n : Nat) (yx2 : Int32) (ymem : q_Mem), I n yx2 ymem → q_J X G 3 (q_QI X G Q) 32 [some (.ref (q_ad G 0)), some (.int a0), some (.int yx2)] [] ymem := by
    intro n
    induction n using Nat.strongRecOn with
    | ind n ih =>
      intro yx2 ymem hI
      exact sn_X2_steady_32_b hX  a0  yx2 Q  (fun (zx2 : Int32) (zmem : q_Mem) => ∃ n2, n2 < n ∧ I n2 zx2 zmem) (fun zx2 zmem hz => by obtain ⟨n2, h1, h2⟩ := hz; exact ih n2 h1 zx2 zmem h2) ymem (hs n yx2 ymem hI)
  exact key n x2 mem h0
set_option maxRecDepth 100000 in
set_option maxHeartbeats 4000000 in
theorem sn_X2_steady_0 {X : q_X} {G : q_G} (hX : q_C X cX2_steady 3 RX2 (some .int) 6 137) (a0 : Int32)   (Q : Int32 → q_Mem → Prop)  (mem : q_Mem) (h : wp_X2_steady  a0  mem Q) : q_J X G 3 (q_QI X G Q) 0 [some (.ref (q_ad G 0)), some (.int a0), none] [] mem := by
  unfold wp_X2_steady at h
  refine q_iload_n hX rfl dX2_steady_0 1 rfl ?_
  refine q_iconst hX (1 : Int32) q_ki_1 dX2_steady_1 2 rfl ?_
  refine q_bipush hX (60 : Int32) q_kb_60 dX2_steady_2 4 rfl ?_
  refine cl_X2_50 hX  ⟨Nat.le_of_ble_eq_true rfl, Nat.le_of_ble_eq_true rfl⟩ (Nat.le_of_ble_eq_true rfl) dX2_steady_4 7 rfl (sn_X2_within a0 (1 : Int32) (60 : Int32)  mem _ h) (fun r_1 m_2 h => ?_)
  refine q_if_ne hX dX2_steady_7 10 13 rfl (by decide) (fun c_3 => ?_) (fun c_3 => ?_)
  · replace h := h.1 c_3
    refine q_aload_n hX rfl dX2_steady_13 14 rfl ?_
    refine cl_X2_91 hX  ⟨Nat.le_of_ble_eq_true rfl, Nat.le_of_ble_eq_true rfl⟩ (Nat.le_of_ble_eq_true rfl) dX2_steady_14 17 rfl (sn_X2_nothingCanPass   m_2 _ h) (fun r_4 m_5 h => ?_)
    refine q_if_ne hX dX2_steady_17 20 27 rfl (by decide) (fun c_6 => ?_) (fun c_6 => ?_)
    · replace h := h.1 c_6
      refine q_bipush hX (-103 : Int32) q_kb_m103 dX2_steady_27 29 rfl ?_
      exact q_iret hX dX2_steady_29 h
    · replace h := h.2 c_6
      refine q_aload_n hX rfl dX2_steady_20 21 rfl ?_
      refine gf_X2_35 hX dX2_steady_21 24 rfl ?_
      refine q_if_eq hX dX2_steady_24 27 30 rfl (by decide) (fun c_7 => ?_) (fun c_7 => ?_)
      · replace h := h.1 c_7
        refine q_iconst hX (1 : Int32) q_ki_1 dX2_steady_30 31 rfl ?_
        refine q_istore_n hX dX2_steady_31 32 rfl (Nat.le_of_ble_eq_true rfl) rfl (fun y => [some (.ref (q_ad G 0)), some (.int a0), some (.int y)]) (fun _ => rfl) (fun x2_8 ex2_8 => ?_)
        replace ex2_8 := ex2_8.symm; subst ex2_8
        exact q_weak [true, true, true] rfl (sn_X2_steady_32 hX  a0  (1 : Int32) Q  m_5 h)
      · replace h := h.2 c_7
        refine q_bipush hX (-103 : Int32) q_kb_m103 dX2_steady_27 29 rfl ?_
        exact q_iret hX dX2_steady_29 h
  · replace h := h.2 c_3
    refine q_bipush hX (-102 : Int32) q_kb_m102 dX2_steady_10 12 rfl ?_
    exact q_iret hX dX2_steady_12 h
set_option maxRecDepth 100000 in
set_option maxHeartbeats 4000000 in
theorem sn_X2_steady {l : Launch} {G : q_G} (a0 : Int32)  (mem : q_Mem) (Q : Int32 → q_Mem → Prop) (h : wp_X2_steady a0 mem Q) : q_MI l G yX2_steady cX2_steady 3 (some .int) rm_X2_steady [.ref (q_ad G 0), .int a0] mem Q := by
  refine q_metI 1 (by decide +kernel) (Nat.le_of_ble_eq_true rfl) rfl (fun X hl hX => ?_)
  subst hl
  exact sn_X2_steady_0 hX a0  Q mem h

-- X2_sum
def wp_X2_sum  (a0 : Int32)  (mem : q_Mem) (Q : Int32 → q_Mem → Prop) : Prop := wp_X2_within a0 (0 : Int32) (4 : Int32) mem (fun r_1 m_2 => ((r_1 = 0) → Q (-1000000001 : Int32) m_2) ∧ ((¬ r_1 = 0) → vp_in a0 (q_al 14) ∧ (Q (m_2 14 a0.toNatClampNeg) m_2)))
set_option maxRecDepth 100000 in
set_option maxHeartbeats 4000000 in
theorem sn_X2_sum_0 {X : q_X} {G : q_G} (hX : q_C X cX2_sum 2 RX2 (some .int) 1 22) (a0 : Int32)   (Q : Int32 → q_Mem → Prop)  (mem : q_Mem) (h : wp_X2_sum  a0  mem Q) : q_J X G 2 (q_QI X G Q) 0 [some (.ref (q_ad G 0)), some (.int a0)] [] mem := by
  unfold wp_X2_sum at h
  refine q_iload_n hX rfl dX2_sum_0 1 rfl ?_
  refine q_iconst hX (0 : Int32) q_ki_0 dX2_sum_1 2 rfl ?_
  refine q_iconst hX (4 : Int32) q_ki_4 dX2_sum_2 3 rfl ?_
  refine cl_X2_50 hX  ⟨Nat.le_of_ble_eq_true rfl, Nat.le_of_ble_eq_true rfl⟩ (Nat.le_of_ble_eq_true rfl) dX2_sum_3 6 rfl (sn_X2_within a0 (0 : Int32) (4 : Int32)  mem _ h) (fun r_1 m_2 h => ?_)
  refine q_if_eq hX dX2_sum_6 9 21 rfl (by decide) (fun c_3 => ?_) (fun c_3 => ?_)
  · replace h := h.1 c_3
    refine q_ldc hX tw_339 dX2_sum_21 23 rfl ?_
    exact q_iret hX dX2_sum_23 h
  · replace h := h.2 c_3
    refine q_aload_n hX rfl dX2_sum_9 10 rfl ?_
    refine gf_X2_10 hX dX2_sum_10 13 rfl ?_
    refine gf_X2_78 hX (Or.inl rfl) dX2_sum_13 16 rfl ?_
    refine q_iload_n hX rfl dX2_sum_16 17 rfl ?_
    obtain ⟨g_4, h⟩ := h
    refine q_iald hX g_4 dX2_sum_17 18 rfl ?_
    refine q_goto hX dX2_sum_18 23 (by decide) ?_
    exact q_iret hX dX2_sum_23 h
set_option maxRecDepth 100000 in
set_option maxHeartbeats 4000000 in
theorem sn_X2_sum {l : Launch} {G : q_G} (a0 : Int32)  (mem : q_Mem) (Q : Int32 → q_Mem → Prop) (h : wp_X2_sum a0 mem Q) : q_MI l G yX2_sum cX2_sum 2 (some .int) rm_X2_sum [.ref (q_ad G 0), .int a0] mem Q := by
  refine q_metI 0 (by decide +kernel) (Nat.le_of_ble_eq_true rfl) rfl (fun X hl hX => ?_)
  subst hl
  exact sn_X2_sum_0 hX a0  Q mem h

-- X2_warmth
def wp_X2_warmth  (a0 : Int32) (a1 : Int32)  (mem : q_Mem) (Q : Int32 → q_Mem → Prop) : Prop := wp_X2_faceRefusal a0 a1 mem (fun r_1 m_2 => ((r_1 = 0) → vp_in a0 24 ∧ (wp_X0_warmthAt 1 (35 + a0.toNatClampNeg) a1 m_2 (fun r_6 m_7 => Q r_6 m_7))) ∧ ((¬ r_1 = 0) → Q r_1 m_2))
set_option maxRecDepth 100000 in
set_option maxHeartbeats 4000000 in
theorem sn_X2_warmth_0 {X : q_X} {G : q_G} (hX : q_C X cX2_warmth 4 RX2 (some .int) 4 91) (a0 : Int32) (a1 : Int32)   (Q : Int32 → q_Mem → Prop)  (mem : q_Mem) (h : wp_X2_warmth  a0 a1  mem Q) : q_J X G 4 (q_QI X G Q) 0 [some (.ref (q_ad G 0)), some (.int a0), some (.int a1), none] [] mem := by
  unfold wp_X2_warmth at h
  refine q_aload_n hX rfl dX2_warmth_0 1 rfl ?_
  refine q_iload_n hX rfl dX2_warmth_1 2 rfl ?_
  refine q_iload_n hX rfl dX2_warmth_2 3 rfl ?_
  refine cl_X2_107 hX  ⟨Nat.le_of_ble_eq_true rfl, Nat.le_of_ble_eq_true rfl⟩ (Nat.le_of_ble_eq_true rfl) dX2_warmth_3 6 rfl (sn_X2_faceRefusal a0 a1  mem _ h) (fun r_1 m_2 h => ?_)
  refine q_istore_n hX dX2_warmth_6 7 rfl (Nat.le_of_ble_eq_true rfl) rfl (fun y => [some (.ref (q_ad G 0)), some (.int a0), some (.int a1), some (.int y)]) (fun _ => rfl) (fun x3_3 ex3_3 => ?_)
  replace ex3_3 := ex3_3.symm; subst ex3_3
  refine q_iload_n hX rfl dX2_warmth_7 8 rfl ?_
  refine q_if_eq hX dX2_warmth_8 11 15 rfl (by decide) (fun c_4 => ?_) (fun c_4 => ?_)
  · replace h := h.1 c_4
    refine q_aload_n hX rfl dX2_warmth_15 16 rfl ?_
    refine gf_X2_22 hX dX2_warmth_16 19 rfl ?_
    refine q_aload_n hX rfl dX2_warmth_19 20 rfl ?_
    refine gf_X2_10 hX dX2_warmth_20 23 rfl ?_
    refine q_aload_n hX rfl dX2_warmth_23 24 rfl ?_
    refine gf_X2_28 hX dX2_warmth_24 27 rfl ?_
    refine q_iload_n hX rfl dX2_warmth_27 28 rfl ?_
    obtain ⟨g_5, h⟩ := h
    refine q_aald hX rfl g_5 dX2_warmth_28 29 rfl ?_
    refine q_iload_n hX rfl dX2_warmth_29 30 rfl ?_
    refine cl_X2_114 hX  ⟨Nat.le_of_ble_eq_true rfl, Nat.le_of_ble_eq_true rfl⟩ (Nat.le_of_ble_eq_true rfl) dX2_warmth_30 33 rfl (sn_X0_warmthAt 1 (35 + a0.toNatClampNeg) a1 (Or.inl rfl) m_2 _ h) (fun r_6 m_7 h => ?_)
    exact q_iret hX dX2_warmth_33 h
  · replace h := h.2 c_4
    refine q_iload_n hX rfl dX2_warmth_11 12 rfl ?_
    refine q_goto hX dX2_warmth_12 33 (by decide) ?_
    exact q_iret hX dX2_warmth_33 h
set_option maxRecDepth 100000 in
set_option maxHeartbeats 4000000 in
theorem sn_X2_warmth {l : Launch} {G : q_G} (a0 : Int32) (a1 : Int32)  (mem : q_Mem) (Q : Int32 → q_Mem → Prop) (h : wp_X2_warmth a0 a1 mem Q) : q_MI l G yX2_warmth cX2_warmth 4 (some .int) rm_X2_warmth [.ref (q_ad G 0), .int a0, .int a1] mem Q := by
  refine q_metI 1 (by decide +kernel) (Nat.le_of_ble_eq_true rfl) rfl (fun X hl hX => ?_)
  subst hl
  exact sn_X2_warmth_0 hX a0 a1  Q mem h

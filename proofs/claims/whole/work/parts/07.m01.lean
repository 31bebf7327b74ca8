-- X1_copyRow
def wp_X1_copyRow  (a0 : Nat) (a1 : Nat)  (mem : q_Mem) (Q : q_Mem → Prop) : Prop := q_cp (0 : Int32) (0 : Int32) (6 : Int32) a0 a1 ∧ (∀ m_2 : q_Mem, m_2 = q_set mem a1 (va_cpy (mem a0) (mem a1) (0 : Int32).toNatClampNeg (0 : Int32).toNatClampNeg (6 : Int32).toNatClampNeg) → Q m_2)
set_option maxRecDepth 100000 in
set_option maxHeartbeats 4000000 in
theorem sn_X1_copyRow_0 {X : q_X} {G : q_G} (hX : q_C X cX1_copyRow 2 RX1 none 1 26) (a0 : Nat) (a1 : Nat)   (Q : q_Mem → Prop)  (mem : q_Mem) (h : wp_X1_copyRow  a0 a1  mem Q) : q_J X G 2 (q_QV X G Q) 0 [some (.ref (q_ad G a0)), some (.ref (q_ad G a1))] [] mem := by
  unfold wp_X1_copyRow at h
  refine q_aload_n hX rfl dX1_copyRow_0 1 rfl ?_
  refine q_iconst hX (0 : Int32) q_ki_0 dX1_copyRow_1 2 rfl ?_
  refine q_aload_n hX rfl dX1_copyRow_2 3 rfl ?_
  refine q_iconst hX (0 : Int32) q_ki_0 dX1_copyRow_3 4 rfl ?_
  refine q_bipush hX (6 : Int32) q_kb_6 dX1_copyRow_4 6 rfl ?_
  obtain ⟨g_1, h⟩ := h
  refine q_copy hX g_1 (Nat.le_of_ble_eq_true rfl) (Nat.le_of_ble_eq_true rfl) tw_83 tw_85 tw_84 tw_61 dX1_copyRow_6 9 rfl (fun m_2 em_2 => ?_)
  replace h := h m_2 em_2
  exact q_vret hX dX1_copyRow_9 h
set_option maxRecDepth 100000 in
set_option maxHeartbeats 4000000 in
theorem sn_X1_copyRow {l : Launch} {G : q_G} (a0 : Nat) (a1 : Nat)  (mem : q_Mem) (Q : q_Mem → Prop) (h : wp_X1_copyRow a0 a1 mem Q) : q_MV l G yX1_copyRow cX1_copyRow 2 none rm_X1_copyRow [.ref (q_ad G a0), .ref (q_ad G a1)] mem Q := by
  refine q_metV 0 (by decide +kernel) (Nat.le_of_ble_eq_true rfl) rfl (fun X hl hX => ?_)
  subst hl
  exact sn_X1_copyRow_0 hX a0 a1  Q mem h

-- X1_becomeAs
def wp_X1_becomeAs_31  (b : Nat) (w0 : Nat)  (mem : q_Mem) (Q : q_Mem → Prop) : Prop := wp_X1_copyRow (w0 + 5) (b + 5) mem (fun m_2 => wp_X1_copyRow (w0 + 6) (b + 6) m_2 (fun m_4 => wp_X1_copyRow (w0 + 8) (b + 8) m_4 (fun m_6 => wp_X1_copyRow (w0 + 9) (b + 9) m_6 (fun m_8 => ∀ m_9 : q_Mem, m_9 = q_set m_8 b (upd (m_8 b) 11 (m_8 w0 11)) → Q m_9))))
def wp_X1_becomeAs_2_b (K2 : Int32 → q_Mem → Prop) (b : Nat) (w0 : Nat) (x2 : Int32) (mem : q_Mem) (Q : q_Mem → Prop) : Prop := (((3 : Int32) ≤ x2) → wp_X1_becomeAs_31  b w0  mem Q) ∧ ((¬ (3 : Int32) ≤ x2) → vp_in x2 3 ∧ (vp_in x2 3 ∧ (q_cp (0 : Int32) (0 : Int32) (5 : Int32) (w0 + 2 + x2.toNatClampNeg) (b + 2 + x2.toNatClampNeg) ∧ (∀ m_5 : q_Mem, m_5 = q_set mem (b + 2 + x2.toNatClampNeg) (va_cpy (mem (w0 + 2 + x2.toNatClampNeg)) (mem (b + 2 + x2.toNatClampNeg)) (0 : Int32).toNatClampNeg (0 : Int32).toNatClampNeg (5 : Int32).toNatClampNeg) → ∀ x2_6 : Int32, x2_6 = (x2 + (1 : Int32)) → K2 x2_6 m_5))))
def wp_X1_becomeAs_2  (b : Nat) (w0 : Nat) (x2 : Int32) (mem : q_Mem) (Q : q_Mem → Prop) : Prop := ∃ I : Nat → Int32 → q_Mem → Prop, (∃ n, I n x2 mem) ∧ ∀ (n : Nat) (yx2 : Int32) (ymem : q_Mem), I n yx2 ymem → wp_X1_becomeAs_2_b  (fun (zx2 : Int32) (zmem : q_Mem) => ∃ n2, n2 < n ∧ I n2 zx2 zmem) b w0 yx2 ymem Q
def wp_X1_becomeAs  (b : Nat) (w0 : Nat)  (mem : q_Mem) (Q : q_Mem → Prop) : Prop := wp_X1_becomeAs_2  b w0 (0 : Int32) mem Q
set_option maxRecDepth 100000 in
set_option maxHeartbeats 4000000 in
theorem sn_X1_becomeAs_31 {X : q_X} {G : q_G} (hX : q_C X cX1_becomeAs 3 RX1 none 2 47) (b : Nat) (w0 : Nat) (hb : q_WB b) (hw0 : q_WB w0)  (Q : q_Mem → Prop)  (mem : q_Mem) (h : wp_X1_becomeAs_31  b w0  mem Q) : q_J X G 3 (q_QV X G Q) 31 [some (.ref (q_ad G b)), some (.ref (q_ad G w0)), none] [] mem := by
  unfold wp_X1_becomeAs_31 at h
  refine q_aload_n hX rfl dX1_becomeAs_31 32 rfl ?_
  refine gf_X1_16 hX hw0 dX1_becomeAs_32 35 rfl ?_
  refine q_aload_n hX rfl dX1_becomeAs_35 36 rfl ?_
  refine gf_X1_16 hX hb dX1_becomeAs_36 39 rfl ?_
  refine cl_X1_60 hX  ⟨Nat.le_of_ble_eq_true rfl, Nat.le_of_ble_eq_true rfl⟩ (Nat.le_of_ble_eq_true rfl) dX1_becomeAs_39 42 rfl (sn_X1_copyRow (w0 + 5) (b + 5)  mem _ h) (fun m_2 h => ?_)
  refine q_aload_n hX rfl dX1_becomeAs_42 43 rfl ?_
  refine gf_X1_20 hX hw0 dX1_becomeAs_43 46 rfl ?_
  refine q_aload_n hX rfl dX1_becomeAs_46 47 rfl ?_
  refine gf_X1_20 hX hb dX1_becomeAs_47 50 rfl ?_
  refine cl_X1_60 hX  ⟨Nat.le_of_ble_eq_true rfl, Nat.le_of_ble_eq_true rfl⟩ (Nat.le_of_ble_eq_true rfl) dX1_becomeAs_50 53 rfl (sn_X1_copyRow (w0 + 6) (b + 6)  m_2 _ h) (fun m_4 h => ?_)
  refine q_aload_n hX rfl dX1_becomeAs_53 54 rfl ?_
  refine gf_X1_26 hX hw0 dX1_becomeAs_54 57 rfl ?_
  refine q_aload_n hX rfl dX1_becomeAs_57 58 rfl ?_
  refine gf_X1_26 hX hb dX1_becomeAs_58 61 rfl ?_
  refine cl_X1_60 hX  ⟨Nat.le_of_ble_eq_true rfl, Nat.le_of_ble_eq_true rfl⟩ (Nat.le_of_ble_eq_true rfl) dX1_becomeAs_61 64 rfl (sn_X1_copyRow (w0 + 8) (b + 8)  m_4 _ h) (fun m_6 h => ?_)
  refine q_aload_n hX rfl dX1_becomeAs_64 65 rfl ?_
  refine gf_X1_29 hX hw0 dX1_becomeAs_65 68 rfl ?_
  refine q_aload_n hX rfl dX1_becomeAs_68 69 rfl ?_
  refine gf_X1_29 hX hb dX1_becomeAs_69 72 rfl ?_
  refine cl_X1_60 hX  ⟨Nat.le_of_ble_eq_true rfl, Nat.le_of_ble_eq_true rfl⟩ (Nat.le_of_ble_eq_true rfl) dX1_becomeAs_72 75 rfl (sn_X1_copyRow (w0 + 9) (b + 9)  m_6 _ h) (fun m_8 h => ?_)
  refine q_aload_n hX rfl dX1_becomeAs_75 76 rfl ?_
  refine q_aload_n hX rfl dX1_becomeAs_76 77 rfl ?_
  refine gf_X1_47 hX hw0 dX1_becomeAs_77 80 rfl ?_
  refine pf_X1_47 hX hb dX1_becomeAs_80 83 rfl (fun m_9 em_9 => ?_)
  replace h := h m_9 em_9
  exact q_vret hX dX1_becomeAs_83 h
set_option maxRecDepth 100000 in
set_option maxHeartbeats 4000000 in
theorem sn_X1_becomeAs_2_b {X : q_X} {G : q_G} (hX : q_C X cX1_becomeAs 3 RX1 none 2 47) (b : Nat) (w0 : Nat) (hb : q_WB b) (hw0 : q_WB w0) (x2 : Int32) (Q : q_Mem → Prop) (K2 : Int32 → q_Mem → Prop) (hK2 : ∀ (yx2 : Int32) (ymem : q_Mem), K2 yx2 ymem → q_J X G 3 (q_QV X G Q) 2 [some (.ref (q_ad G b)), some (.ref (q_ad G w0)), some (.int yx2)] [] ymem) (mem : q_Mem) (h : wp_X1_becomeAs_2_b K2 b w0 x2 mem Q) : q_J X G 3 (q_QV X G Q) 2 [some (.ref (q_ad G b)), some (.ref (q_ad G w0)), some (.int x2)] [] mem := by
  unfold wp_X1_becomeAs_2_b at h
  refine q_iload_n hX rfl dX1_becomeAs_2 3 rfl ?_
  refine q_iconst hX (3 : Int32) q_ki_3 dX1_becomeAs_3 4 rfl ?_
  refine q_icmp_ge hX dX1_becomeAs_4 7 31 rfl (by decide) (fun c_1 => ?_) (fun c_1 => ?_)
  · replace h := h.1 c_1
    exact q_weak [true, true, false] rfl (sn_X1_becomeAs_31 hX  b w0 hb hw0  Q  mem h)
  · replace h := h.2 c_1
    refine q_aload_n hX rfl dX1_becomeAs_7 8 rfl ?_
    refine gf_X1_11 hX hw0 dX1_becomeAs_8 11 rfl ?_
    refine q_iload_n hX rfl dX1_becomeAs_11 12 rfl ?_
    obtain ⟨g_2, h⟩ := h
    refine q_aald hX (q_sh_w1 hw0) g_2 dX1_becomeAs_12 13 rfl ?_
    refine q_iconst hX (0 : Int32) q_ki_0 dX1_becomeAs_13 14 rfl ?_
    refine q_aload_n hX rfl dX1_becomeAs_14 15 rfl ?_
    refine gf_X1_11 hX hb dX1_becomeAs_15 18 rfl ?_
    refine q_iload_n hX rfl dX1_becomeAs_18 19 rfl ?_
    obtain ⟨g_3, h⟩ := h
    refine q_aald hX (q_sh_w1 hb) g_3 dX1_becomeAs_19 20 rfl ?_
    refine q_iconst hX (0 : Int32) q_ki_0 dX1_becomeAs_20 21 rfl ?_
    refine q_iconst hX (5 : Int32) q_ki_5 dX1_becomeAs_21 22 rfl ?_
    obtain ⟨g_4, h⟩ := h
    refine q_copy hX g_4 (Nat.le_of_ble_eq_true rfl) (Nat.le_of_ble_eq_true rfl) tw_83 tw_85 tw_84 tw_61 dX1_becomeAs_22 25 rfl (fun m_5 em_5 => ?_)
    replace h := h m_5 em_5
    refine q_iinc hX (1 : Int32) q_ki_1 rfl dX1_becomeAs_25 28 rfl (Nat.le_of_ble_eq_true rfl) rfl (fun y => [some (.ref (q_ad G b)), some (.ref (q_ad G w0)), some (.int y)]) (fun _ => rfl) (fun x2_6 ex2_6 => ?_)
    replace h := h x2_6 ex2_6
    refine q_goto hX dX1_becomeAs_28 2 (by decide) ?_
    exact q_weak [true, true, true] rfl (hK2 x2_6 m_5 h)
set_option maxRecDepth 100000 in
set_option maxHeartbeats 4000000 in
theorem sn_X1_becomeAs_2 {X : q_X} {G : q_G} (hX : q_C X cX1_becomeAs 3 RX1 none 2 47) (b : Nat) (w0 : Nat) (hb : q_WB b) (hw0 : q_WB w0) (x2 : Int32) (Q : q_Mem → Prop)  (mem : q_Mem) (h : wp_X1_becomeAs_2  b w0 x2 mem Q) : q_J X G 3 (q_QV X G Q) 2 [some (.ref (q_ad G b)), some (.ref (q_ad G w0)), some (.int x2)] [] mem := by
  obtain ⟨I, ⟨n, h0⟩, hs⟩ := h
  have key : ∀ (n : Nat) (yx2 : Int32) (ymem : q_Mem), I n yx2 ymem → q_J X G 3 (q_QV X G Q) 2 [some (.ref (q_ad G b)), some (.ref (q_ad G w0)), some (.int yx2)] [] ymem := by
    intro n
    induction n using Nat.strongRecOn with
    | ind n ih =>
      intro yx2 ymem hI
      exact sn_X1_becomeAs_2_b hX  b w0 hb hw0 yx2 Q  (fun (zx2 : Int32) (zmem : q_Mem) => ∃ n2, n2 < n ∧ I n2 zx2 zmem) (fun zx2 zmem hz => by obtain ⟨n2, h1, h2⟩ := hz; exact ih n2 h1 zx2 zmem h2) ymem (hs n yx2 ymem hI)
  exact key n x2 mem h0
set_option maxRecDepth 100000 in
set_option maxHeartbeats 4000000 in
theorem sn_X1_becomeAs_0 {X : q_X} {G : q_G} (hX : q_C X cX1_becomeAs 3 RX1 none 2 47) (b : Nat) (w0 : Nat) (hb : q_WB b) (hw0 : q_WB w0)  (Q : q_Mem → Prop)  (mem : q_Mem) (h : wp_X1_becomeAs  b w0  mem Q) : q_J X G 3 (q_QV X G Q) 0 [some (.ref (q_ad G b)), some (.ref (q_ad G w0)), none] [] mem := by
  unfold wp_X1_becomeAs at h
  refine q_iconst hX (0 : Int32) q_ki_0 dX1_becomeAs_0 1 rfl ?_
  refine q_istore_n hX dX1_becomeAs_1 2 rfl (Nat.le_of_ble_eq_true rfl) rfl (fun y => [some (.ref (q_ad G b)), some (.ref (q_ad G w0)), some (.int y)]) (fun _ => rfl) (fun x2_1 ex2_1 => ?_)
  replace ex2_1 := ex2_1.symm; subst ex2_1
  exact q_weak [true, true, true] rfl (sn_X1_becomeAs_2 hX  b w0 hb hw0 (0 : Int32) Q  mem h)
set_option maxRecDepth 100000 in
set_option maxHeartbeats 4000000 in
theorem sn_X1_becomeAs {l : Launch} {G : q_G} (b : Nat) (w0 : Nat) (hb : q_WB b) (hw0 : q_WB w0) (mem : q_Mem) (Q : q_Mem → Prop) (h : wp_X1_becomeAs b w0 mem Q) : q_MV l G yX1_becomeAs cX1_becomeAs 3 none rm_X1_becomeAs [.ref (q_ad G b), .ref (q_ad G w0)] mem Q := by
  refine q_metV 1 (by decide +kernel) (Nat.le_of_ble_eq_true rfl) rfl (fun X hl hX => ?_)
  subst hl
  exact sn_X1_becomeAs_0 hX b w0 hb hw0 Q mem h

-- X1_countFrost
def wp_X1_countFrost  (b : Nat) (a0 : Int32)  (mem : q_Mem) (Q : q_Mem → Prop) : Prop := vp_in a0 (q_al (b + 12)) ∧ (((0 ≤ (mem (b + 12) a0.toNatClampNeg)) → Q mem) ∧ ((¬ 0 ≤ (mem (b + 12) a0.toNatClampNeg)) → vp_in a0 (q_al (b + 9)) ∧ (vp_in a0 (q_al (b + 5)) ∧ (((((10 : Int32) * (mem (b + 9) a0.toNatClampNeg)) ≤ ((9 : Int32) * (mem (b + 5) a0.toNatClampNeg))) → Q mem) ∧ ((¬ ((10 : Int32) * (mem (b + 9) a0.toNatClampNeg)) ≤ ((9 : Int32) * (mem (b + 5) a0.toNatClampNeg))) → vp_in a0 (q_al (b + 10)) ∧ (vp_in a0 (q_al (b + 10)) ∧ (∀ m_8 : q_Mem, m_8 = q_set mem (b + 10) (upd (mem (b + 10)) a0.toNatClampNeg ((mem (b + 10) a0.toNatClampNeg) + (1 : Int32))) → Q m_8)))))))
set_option maxRecDepth 100000 in
set_option maxHeartbeats 4000000 in
theorem sn_X1_countFrost_0 {X : q_X} {G : q_G} (hX : q_C X cX1_countFrost 2 RX1 none 0 0) (b : Nat) (a0 : Int32) (hb : q_WB b)  (Q : q_Mem → Prop)  (mem : q_Mem) (h : wp_X1_countFrost  b a0  mem Q) : q_J X G 2 (q_QV X G Q) 0 [some (.ref (q_ad G b)), some (.int a0)] [] mem := by
  unfold wp_X1_countFrost at h
  refine q_aload_n hX rfl dX1_countFrost_0 1 rfl ?_
  refine gf_X1_38 hX hb dX1_countFrost_1 4 rfl ?_
  refine q_iload_n hX rfl dX1_countFrost_4 5 rfl ?_
  obtain ⟨g_1, h⟩ := h
  refine q_iald hX g_1 dX1_countFrost_5 6 rfl ?_
  refine q_if_ge hX dX1_countFrost_6 9 40 rfl (by decide) (fun c_2 => ?_) (fun c_2 => ?_)
  · replace h := h.1 c_2
    exact q_vret hX dX1_countFrost_40 h
  · replace h := h.2 c_2
    refine q_bipush hX (10 : Int32) q_kb_10 dX1_countFrost_9 11 rfl ?_
    refine q_aload_n hX rfl dX1_countFrost_11 12 rfl ?_
    refine gf_X1_29 hX hb dX1_countFrost_12 15 rfl ?_
    refine q_iload_n hX rfl dX1_countFrost_15 16 rfl ?_
    obtain ⟨g_3, h⟩ := h
    refine q_iald hX g_3 dX1_countFrost_16 17 rfl ?_
    refine q_imul hX dX1_countFrost_17 18 rfl ?_
    refine q_bipush hX (9 : Int32) q_kb_9 dX1_countFrost_18 20 rfl ?_
    refine q_aload_n hX rfl dX1_countFrost_20 21 rfl ?_
    refine gf_X1_16 hX hb dX1_countFrost_21 24 rfl ?_
    refine q_iload_n hX rfl dX1_countFrost_24 25 rfl ?_
    obtain ⟨g_4, h⟩ := h
    refine q_iald hX g_4 dX1_countFrost_25 26 rfl ?_
    refine q_imul hX dX1_countFrost_26 27 rfl ?_
    refine q_icmp_le hX dX1_countFrost_27 30 40 rfl (by decide) (fun c_5 => ?_) (fun c_5 => ?_)
    · replace h := h.1 c_5
      exact q_vret hX dX1_countFrost_40 h
    · replace h := h.2 c_5
      refine q_aload_n hX rfl dX1_countFrost_30 31 rfl ?_
      refine gf_X1_32 hX hb dX1_countFrost_31 34 rfl ?_
      refine q_iload_n hX rfl dX1_countFrost_34 35 rfl ?_
      refine q_dup2 hX rfl rfl dX1_countFrost_35 36 rfl ?_
      obtain ⟨g_6, h⟩ := h
      refine q_iald hX g_6 dX1_countFrost_36 37 rfl ?_
      refine q_iconst hX (1 : Int32) q_ki_1 dX1_countFrost_37 38 rfl ?_
      refine q_iadd hX dX1_countFrost_38 39 rfl ?_
      obtain ⟨g_7, h⟩ := h
      refine q_iast hX g_7 dX1_countFrost_39 40 rfl (fun m_8 em_8 => ?_)
      replace h := h m_8 em_8
      exact q_vret hX dX1_countFrost_40 h
set_option maxRecDepth 100000 in
set_option maxHeartbeats 4000000 in
theorem sn_X1_countFrost {l : Launch} {G : q_G} (b : Nat) (a0 : Int32) (hb : q_WB b) (mem : q_Mem) (Q : q_Mem → Prop) (h : wp_X1_countFrost b a0 mem Q) : q_MV l G yX1_countFrost cX1_countFrost 2 none rm_X1_countFrost [.ref (q_ad G b), .int a0] mem Q := by
  refine q_metV 0 (by decide +kernel) (Nat.le_of_ble_eq_true rfl) rfl (fun X hl hX => ?_)
  subst hl
  exact sn_X1_countFrost_0 hX b a0 hb Q mem h

-- X1_dampOf
def wp_X1_dampOf  (b : Nat) (a0 : Int32)  (mem : q_Mem) (Q : Int32 → q_Mem → Prop) : Prop := vp_in a0 (q_al (b + 8)) ∧ (vp_in (mem (b + 8) a0.toNatClampNeg) 3 ∧ (vp_in a0 (q_al (b + 9)) ∧ (vp_in a0 (q_al (b + 5)) ∧ (wp_X2_partDown ((4 : Int32) * (mem (b + 9) a0.toNatClampNeg)) (mem (b + 5) a0.toNatClampNeg) mem (fun r_6 m_7 => ((r_6 < (4 : Int32)) → vp_in (r_6 + (1 : Int32)) (q_al (b + 2 + (mem (b + 8) a0.toNatClampNeg).toNatClampNeg)) ∧ (vp_in r_6 (q_al (b + 2 + (mem (b + 8) a0.toNatClampNeg).toNatClampNeg)) ∧ (∀ x4_12 : Int32, x4_12 = ((m_7 (b + 2 + (mem (b + 8) a0.toNatClampNeg).toNatClampNeg) (r_6 + (1 : Int32)).toNatClampNeg) - (m_7 (b + 2 + (mem (b + 8) a0.toNatClampNeg).toNatClampNeg) r_6.toNatClampNeg)) → vp_in r_6 (q_al (b + 2 + (mem (b + 8) a0.toNatClampNeg).toNatClampNeg)) ∧ (vp_in a0 (q_al (b + 9)) ∧ (vp_in a0 (q_al (b + 5)) ∧ (vp_in a0 (q_al (b + 5)) ∧ (wp_X2_partDown (x4_12 * (((4 : Int32) * (m_7 (b + 9) a0.toNatClampNeg)) - (r_6 * (m_7 (b + 5) a0.toNatClampNeg)))) (m_7 (b + 5) a0.toNatClampNeg) m_7 (fun r_17 m_18 => Q ((m_7 (b + 2 + (mem (b + 8) a0.toNatClampNeg).toNatClampNeg) r_6.toNatClampNeg) + r_17) m_18)))))))) ∧ ((¬ r_6 < (4 : Int32)) → vp_in (4 : Int32) (q_al (b + 2 + (mem (b + 8) a0.toNatClampNeg).toNatClampNeg)) ∧ (Q (m_7 (b + 2 + (mem (b + 8) a0.toNatClampNeg).toNatClampNeg) (4 : Int32).toNatClampNeg) m_7)))))))
set_option maxRecDepth 100000 in
set_option maxHeartbeats 4000000 in
theorem sn_X1_dampOf_0 {X : q_X} {G : q_G} (hX : q_C X cX1_dampOf 5 RX1 (some .int) 1 21) (b : Nat) (a0 : Int32) (hb : q_WB b)  (Q : Int32 → q_Mem → Prop)  (mem : q_Mem) (h : wp_X1_dampOf  b a0  mem Q) : q_J X G 5 (q_QI X G Q) 0 [some (.ref (q_ad G b)), some (.int a0), none, none, none] [] mem := by
  unfold wp_X1_dampOf at h
  refine q_aload_n hX rfl dX1_dampOf_0 1 rfl ?_
  refine gf_X1_11 hX hb dX1_dampOf_1 4 rfl ?_
  refine q_aload_n hX rfl dX1_dampOf_4 5 rfl ?_
  refine gf_X1_26 hX hb dX1_dampOf_5 8 rfl ?_
  refine q_iload_n hX rfl dX1_dampOf_8 9 rfl ?_
  obtain ⟨g_1, h⟩ := h
  refine q_iald hX g_1 dX1_dampOf_9 10 rfl ?_
  obtain ⟨g_2, h⟩ := h
  refine q_aald hX (q_sh_w1 hb) g_2 dX1_dampOf_10 11 rfl ?_
  refine q_astore_n hX dX1_dampOf_11 12 rfl (Nat.le_of_ble_eq_true rfl) rfl (fun y => [some (.ref (q_ad G b)), some (.int a0), some (.ref y), none, none]) (fun _ => rfl) (fun r2_3 er2_3 => ?_)
  replace er2_3 := er2_3.symm; subst er2_3
  refine q_iconst hX (4 : Int32) q_ki_4 dX1_dampOf_12 13 rfl ?_
  refine q_aload_n hX rfl dX1_dampOf_13 14 rfl ?_
  refine gf_X1_29 hX hb dX1_dampOf_14 17 rfl ?_
  refine q_iload_n hX rfl dX1_dampOf_17 18 rfl ?_
  obtain ⟨g_4, h⟩ := h
  refine q_iald hX g_4 dX1_dampOf_18 19 rfl ?_
  refine q_imul hX dX1_dampOf_19 20 rfl ?_
  refine q_aload_n hX rfl dX1_dampOf_20 21 rfl ?_
  refine gf_X1_16 hX hb dX1_dampOf_21 24 rfl ?_
  refine q_iload_n hX rfl dX1_dampOf_24 25 rfl ?_
  obtain ⟨g_5, h⟩ := h
  refine q_iald hX g_5 dX1_dampOf_25 26 rfl ?_
  refine cl_X1_75 hX  ⟨Nat.le_of_ble_eq_true rfl, Nat.le_of_ble_eq_true rfl⟩ (Nat.le_of_ble_eq_true rfl) dX1_dampOf_26 29 rfl (sn_X2_partDown ((4 : Int32) * (mem (b + 9) a0.toNatClampNeg)) (mem (b + 5) a0.toNatClampNeg)  mem _ h) (fun r_6 m_7 h => ?_)
  refine q_istore_n hX dX1_dampOf_29 30 rfl (Nat.le_of_ble_eq_true rfl) rfl (fun y => [some (.ref (q_ad G b)), some (.int a0), some (.ref (q_ad G (b + 2 + (mem (b + 8) a0.toNatClampNeg).toNatClampNeg))), some (.int y), none]) (fun _ => rfl) (fun x3_8 ex3_8 => ?_)
  replace ex3_8 := ex3_8.symm; subst ex3_8
  refine q_iload_n hX rfl dX1_dampOf_30 31 rfl ?_
  refine q_iconst hX (4 : Int32) q_ki_4 dX1_dampOf_31 32 rfl ?_
  refine q_icmp_lt hX dX1_dampOf_32 35 39 rfl (by decide) (fun c_9 => ?_) (fun c_9 => ?_)
  · replace h := h.1 c_9
    refine q_aload_n hX rfl dX1_dampOf_39 40 rfl ?_
    refine q_iload_n hX rfl dX1_dampOf_40 41 rfl ?_
    refine q_iconst hX (1 : Int32) q_ki_1 dX1_dampOf_41 42 rfl ?_
    refine q_iadd hX dX1_dampOf_42 43 rfl ?_
    obtain ⟨g_10, h⟩ := h
    refine q_iald hX g_10 dX1_dampOf_43 44 rfl ?_
    refine q_aload_n hX rfl dX1_dampOf_44 45 rfl ?_
    refine q_iload_n hX rfl dX1_dampOf_45 46 rfl ?_
    obtain ⟨g_11, h⟩ := h
    refine q_iald hX g_11 dX1_dampOf_46 47 rfl ?_
    refine q_isub hX dX1_dampOf_47 48 rfl ?_
    refine q_istore hX dX1_dampOf_48 50 rfl (Nat.le_of_ble_eq_true rfl) rfl (fun y => [some (.ref (q_ad G b)), some (.int a0), some (.ref (q_ad G (b + 2 + (mem (b + 8) a0.toNatClampNeg).toNatClampNeg))), some (.int r_6), some (.int y)]) (fun _ => rfl) (fun x4_12 ex4_12 => ?_)
    replace h := h x4_12 ex4_12
    refine q_aload_n hX rfl dX1_dampOf_50 51 rfl ?_
    refine q_iload_n hX rfl dX1_dampOf_51 52 rfl ?_
    obtain ⟨g_13, h⟩ := h
    refine q_iald hX g_13 dX1_dampOf_52 53 rfl ?_
    refine q_iload hX rfl dX1_dampOf_53 55 rfl ?_
    refine q_iconst hX (4 : Int32) q_ki_4 dX1_dampOf_55 56 rfl ?_
    refine q_aload_n hX rfl dX1_dampOf_56 57 rfl ?_
    refine gf_X1_29 hX hb dX1_dampOf_57 60 rfl ?_
    refine q_iload_n hX rfl dX1_dampOf_60 61 rfl ?_
    obtain ⟨g_14, h⟩ := h
    refine q_iald hX g_14 dX1_dampOf_61 62 rfl ?_
    refine q_imul hX dX1_dampOf_62 63 rfl ?_
    refine q_iload_n hX rfl dX1_dampOf_63 64 rfl ?_
    refine q_aload_n hX rfl dX1_dampOf_64 65 rfl ?_
    refine gf_X1_16 hX hb dX1_dampOf_65 68 rfl ?_
    refine q_iload_n hX rfl dX1_dampOf_68 69 rfl ?_
    obtain ⟨g_15, h⟩ := h
    refine q_iald hX g_15 dX1_dampOf_69 70 rfl ?_
    refine q_imul hX dX1_dampOf_70 71 rfl ?_
    refine q_isub hX dX1_dampOf_71 72 rfl ?_
    refine q_imul hX dX1_dampOf_72 73 rfl ?_
    refine q_aload_n hX rfl dX1_dampOf_73 74 rfl ?_
    refine gf_X1_16 hX hb dX1_dampOf_74 77 rfl ?_
    refine q_iload_n hX rfl dX1_dampOf_77 78 rfl ?_
    obtain ⟨g_16, h⟩ := h
    refine q_iald hX g_16 dX1_dampOf_78 79 rfl ?_
    refine cl_X1_75 hX  ⟨Nat.le_of_ble_eq_true rfl, Nat.le_of_ble_eq_true rfl⟩ (Nat.le_of_ble_eq_true rfl) dX1_dampOf_79 82 rfl (sn_X2_partDown (x4_12 * (((4 : Int32) * (m_7 (b + 9) a0.toNatClampNeg)) - (r_6 * (m_7 (b + 5) a0.toNatClampNeg)))) (m_7 (b + 5) a0.toNatClampNeg)  m_7 _ h) (fun r_17 m_18 h => ?_)
    refine q_iadd hX dX1_dampOf_82 83 rfl ?_
    exact q_iret hX dX1_dampOf_83 h
  · replace h := h.2 c_9
    refine q_aload_n hX rfl dX1_dampOf_35 36 rfl ?_
    refine q_iconst hX (4 : Int32) q_ki_4 dX1_dampOf_36 37 rfl ?_
    obtain ⟨g_19, h⟩ := h
    refine q_iald hX g_19 dX1_dampOf_37 38 rfl ?_
    exact q_iret hX dX1_dampOf_38 h
set_option maxRecDepth 100000 in
set_option maxHeartbeats 4000000 in
theorem sn_X1_dampOf {l : Launch} {G : q_G} (b : Nat) (a0 : Int32) (hb : q_WB b) (mem : q_Mem) (Q : Int32 → q_Mem → Prop) (h : wp_X1_dampOf b a0 mem Q) : q_MI l G yX1_dampOf cX1_dampOf 5 (some .int) rm_X1_dampOf [.ref (q_ad G b), .int a0] mem Q := by
  refine q_metI 3 (by decide +kernel) (Nat.le_of_ble_eq_true rfl) rfl (fun X hl hX => ?_)
  subst hl
  exact sn_X1_dampOf_0 hX b a0 hb Q mem h

-- X1_countMould
def wp_X1_countMould_44  (b : Nat) (a0 : Int32)  (mem : q_Mem) (Q : q_Mem → Prop) : Prop := vp_in a0 (q_al (b + 11)) ∧ (vp_in a0 (q_al (b + 11)) ∧ (∀ m_3 : q_Mem, m_3 = q_set mem (b + 11) (upd (mem (b + 11)) a0.toNatClampNeg (if ((mem (b + 11) a0.toNatClampNeg) - (1 : Int32)) < (0 : Int32) then (0 : Int32) else (mem (b + 11) a0.toNatClampNeg) - (1 : Int32))) → Q m_3))
def wp_X1_countMould  (b : Nat) (a0 : Int32)  (mem : q_Mem) (Q : q_Mem → Prop) : Prop := wp_X1_dampOf b a0 mem (fun r_1 m_2 => ((r_1 < (800 : Int32)) → wp_X1_countMould_44  b a0  m_2 Q) ∧ ((¬ r_1 < (800 : Int32)) → vp_in a0 (q_al (b + 12)) ∧ ((((m_2 (b + 12) a0.toNatClampNeg) < (5 : Int32)) → wp_X1_countMould_44  b a0  m_2 Q) ∧ ((¬ (m_2 (b + 12) a0.toNatClampNeg) < (5 : Int32)) → vp_in a0 (q_al (b + 11)) ∧ (vp_in a0 (q_al (b + 11)) ∧ (∀ m_8 : q_Mem, m_8 = q_set m_2 (b + 11) (upd (m_2 (b + 11)) a0.toNatClampNeg (if (1000 : Int32) < ((m_2 (b + 11) a0.toNatClampNeg) + (1 : Int32)) then (1000 : Int32) else (m_2 (b + 11) a0.toNatClampNeg) + (1 : Int32))) → Q m_8))))))
set_option maxRecDepth 100000 in
set_option maxHeartbeats 4000000 in
theorem sn_X1_countMould_44 {X : q_X} {G : q_G} (hX : q_C X cX1_countMould 2 RX1 none 2 45) (b : Nat) (a0 : Int32) (hb : q_WB b)  (Q : q_Mem → Prop)  (mem : q_Mem) (h : wp_X1_countMould_44  b a0  mem Q) : q_J X G 2 (q_QV X G Q) 44 [some (.ref (q_ad G b)), some (.int a0)] [] mem := by
  unfold wp_X1_countMould_44 at h
  refine q_aload_n hX rfl dX1_countMould_44 45 rfl ?_
  refine gf_X1_35 hX hb dX1_countMould_45 48 rfl ?_
  refine q_iload_n hX rfl dX1_countMould_48 49 rfl ?_
  refine q_aload_n hX rfl dX1_countMould_49 50 rfl ?_
  refine gf_X1_35 hX hb dX1_countMould_50 53 rfl ?_
  refine q_iload_n hX rfl dX1_countMould_53 54 rfl ?_
  obtain ⟨g_1, h⟩ := h
  refine q_iald hX g_1 dX1_countMould_54 55 rfl ?_
  refine q_iconst hX (1 : Int32) q_ki_1 dX1_countMould_55 56 rfl ?_
  refine q_isub hX dX1_countMould_56 57 rfl ?_
  refine q_iconst hX (0 : Int32) q_ki_0 dX1_countMould_57 58 rfl ?_
  refine q_max hX (Nat.le_of_ble_eq_true rfl) (Nat.le_of_ble_eq_true rfl) tw_309 tw_310 tw_64 tw_311 dX1_countMould_58 61 rfl ?_
  obtain ⟨g_2, h⟩ := h
  refine q_iast hX g_2 dX1_countMould_61 62 rfl (fun m_3 em_3 => ?_)
  replace h := h m_3 em_3
  exact q_vret hX dX1_countMould_62 h
set_option maxRecDepth 100000 in
set_option maxHeartbeats 4000000 in
theorem sn_X1_countMould_0 {X : q_X} {G : q_G} (hX : q_C X cX1_countMould 2 RX1 none 2 45) (b : Nat) (a0 : Int32) (hb : q_WB b)  (Q : q_Mem → Prop)  (mem : q_Mem) (h : wp_X1_countMould  b a0  mem Q) : q_J X G 2 (q_QV X G Q) 0 [some (.ref (q_ad G b)), some (.int a0)] [] mem := by
  unfold wp_X1_countMould at h
  refine q_aload_n hX rfl dX1_countMould_0 1 rfl ?_
  refine q_iload_n hX rfl dX1_countMould_1 2 rfl ?_
  refine cl_X1_71 hX hb ⟨Nat.le_of_ble_eq_true rfl, Nat.le_of_ble_eq_true rfl⟩ (Nat.le_of_ble_eq_true rfl) dX1_countMould_2 5 rfl (sn_X1_dampOf b a0 hb mem _ h) (fun r_1 m_2 h => ?_)
  refine q_sipush hX (800 : Int32) q_ks_800 dX1_countMould_5 8 rfl ?_
  refine q_icmp_lt hX dX1_countMould_8 11 44 rfl (by decide) (fun c_3 => ?_) (fun c_3 => ?_)
  · replace h := h.1 c_3
    exact q_weak [true, true] rfl (sn_X1_countMould_44 hX  b a0 hb  Q  m_2 h)
  · replace h := h.2 c_3
    refine q_aload_n hX rfl dX1_countMould_11 12 rfl ?_
    refine gf_X1_38 hX hb dX1_countMould_12 15 rfl ?_
    refine q_iload_n hX rfl dX1_countMould_15 16 rfl ?_
    obtain ⟨g_4, h⟩ := h
    refine q_iald hX g_4 dX1_countMould_16 17 rfl ?_
    refine q_iconst hX (5 : Int32) q_ki_5 dX1_countMould_17 18 rfl ?_
    refine q_icmp_lt hX dX1_countMould_18 21 44 rfl (by decide) (fun c_5 => ?_) (fun c_5 => ?_)
    · replace h := h.1 c_5
      exact q_weak [true, true] rfl (sn_X1_countMould_44 hX  b a0 hb  Q  m_2 h)
    · replace h := h.2 c_5
      refine q_aload_n hX rfl dX1_countMould_21 22 rfl ?_
      refine gf_X1_35 hX hb dX1_countMould_22 25 rfl ?_
      refine q_iload_n hX rfl dX1_countMould_25 26 rfl ?_
      refine q_aload_n hX rfl dX1_countMould_26 27 rfl ?_
      refine gf_X1_35 hX hb dX1_countMould_27 30 rfl ?_
      refine q_iload_n hX rfl dX1_countMould_30 31 rfl ?_
      obtain ⟨g_6, h⟩ := h
      refine q_iald hX g_6 dX1_countMould_31 32 rfl ?_
      refine q_iconst hX (1 : Int32) q_ki_1 dX1_countMould_32 33 rfl ?_
      refine q_iadd hX dX1_countMould_33 34 rfl ?_
      refine q_sipush hX (1000 : Int32) q_ks_1000 dX1_countMould_34 37 rfl ?_
      refine q_min hX (Nat.le_of_ble_eq_true rfl) (Nat.le_of_ble_eq_true rfl) tw_268 tw_269 tw_64 tw_270 dX1_countMould_37 40 rfl ?_
      obtain ⟨g_7, h⟩ := h
      refine q_iast hX g_7 dX1_countMould_40 41 rfl (fun m_8 em_8 => ?_)
      replace h := h m_8 em_8
      refine q_goto hX dX1_countMould_41 62 (by decide) ?_
      exact q_vret hX dX1_countMould_62 h
set_option maxRecDepth 100000 in
set_option maxHeartbeats 4000000 in
theorem sn_X1_countMould {l : Launch} {G : q_G} (b : Nat) (a0 : Int32) (hb : q_WB b) (mem : q_Mem) (Q : q_Mem → Prop) (h : wp_X1_countMould b a0 mem Q) : q_MV l G yX1_countMould cX1_countMould 2 none rm_X1_countMould [.ref (q_ad G b), .int a0] mem Q := by
  refine q_metV 0 (by decide +kernel) (Nat.le_of_ble_eq_true rfl) rfl (fun X hl hX => ?_)
  subst hl
  exact sn_X1_countMould_0 hX b a0 hb Q mem h

-- X2_partCut
def wp_X2_partCut  (a0 : Int32) (a1 : Int32)  (mem : q_Mem) (Q : Int32 → q_Mem → Prop) : Prop := (((1 : Int32) ≤ a1) → (¬ a1 = 0) ∧ (Q (a0 / a1) mem)) ∧ ((¬ (1 : Int32) ≤ a1) → Q (0 : Int32) mem)
set_option maxRecDepth 100000 in
set_option maxHeartbeats 4000000 in
theorem sn_X2_partCut_0 {X : q_X} {G : q_G} (hX : q_C X cX2_partCut 2 RX2 (some .int) 0 0) (a0 : Int32) (a1 : Int32)   (Q : Int32 → q_Mem → Prop)  (mem : q_Mem) (h : wp_X2_partCut  a0 a1  mem Q) : q_J X G 2 (q_QI X G Q) 0 [some (.int a0), some (.int a1)] [] mem := by
  unfold wp_X2_partCut at h
  refine q_iload_n hX rfl dX2_partCut_0 1 rfl ?_
  refine q_iconst hX (1 : Int32) q_ki_1 dX2_partCut_1 2 rfl ?_
  refine q_icmp_ge hX dX2_partCut_2 5 9 rfl (by decide) (fun c_1 => ?_) (fun c_1 => ?_)
  · replace h := h.1 c_1
    refine q_iload_n hX rfl dX2_partCut_9 10 rfl ?_
    refine q_iload_n hX rfl dX2_partCut_10 11 rfl ?_
    obtain ⟨g_2, h⟩ := h
    refine q_idiv hX g_2 dX2_partCut_11 12 rfl ?_
    exact q_iret hX dX2_partCut_12 h
  · replace h := h.2 c_1
    refine q_iconst hX (0 : Int32) q_ki_0 dX2_partCut_5 6 rfl ?_
    refine q_goto hX dX2_partCut_6 12 (by decide) ?_
    exact q_iret hX dX2_partCut_12 h
set_option maxRecDepth 100000 in
set_option maxHeartbeats 4000000 in
theorem sn_X2_partCut {l : Launch} {G : q_G} (a0 : Int32) (a1 : Int32)  (mem : q_Mem) (Q : Int32 → q_Mem → Prop) (h : wp_X2_partCut a0 a1 mem Q) : q_MI l G yX2_partCut cX2_partCut 2 (some .int) rm_X2_partCut [.int a0, .int a1] mem Q := by
  refine q_metI 0 (by decide +kernel) (Nat.le_of_ble_eq_true rfl) rfl (fun X hl hX => ?_)
  subst hl
  exact sn_X2_partCut_0 hX a0 a1  Q mem h

-- X1_freeRoom
def wp_X1_freeRoom  (b : Nat) (a0 : Int32)  (mem : q_Mem) (Q : Int32 → q_Mem → Prop) : Prop := wp_X1_has b a0 mem (fun r_1 m_2 => ((r_1 = 0) → Q (2147483647 : Int32) m_2) ∧ ((¬ r_1 = 0) → vp_in a0 (q_al (b + 5)) ∧ (vp_in a0 (q_al (b + 9)) ∧ (Q ((m_2 (b + 5) a0.toNatClampNeg) - (m_2 (b + 9) a0.toNatClampNeg)) m_2))))
set_option maxRecDepth 100000 in
set_option maxHeartbeats 4000000 in
theorem sn_X1_freeRoom_0 {X : q_X} {G : q_G} (hX : q_C X cX1_freeRoom 2 RX1 (some .int) 1 21) (b : Nat) (a0 : Int32) (hb : q_WB b)  (Q : Int32 → q_Mem → Prop)  (mem : q_Mem) (h : wp_X1_freeRoom  b a0  mem Q) : q_J X G 2 (q_QI X G Q) 0 [some (.ref (q_ad G b)), some (.int a0)] [] mem := by
  unfold wp_X1_freeRoom at h
  refine q_aload_n hX rfl dX1_freeRoom_0 1 rfl ?_
  refine q_iload_n hX rfl dX1_freeRoom_1 2 rfl ?_
  refine cl_X1_67 hX hb ⟨Nat.le_of_ble_eq_true rfl, Nat.le_of_ble_eq_true rfl⟩ (Nat.le_of_ble_eq_true rfl) dX1_freeRoom_2 5 rfl (sn_X1_has b a0 hb mem _ h) (fun r_1 m_2 h => ?_)
  refine q_if_eq hX dX1_freeRoom_5 8 24 rfl (by decide) (fun c_3 => ?_) (fun c_3 => ?_)
  · replace h := h.1 c_3
    refine q_ldc hX tw_267 dX1_freeRoom_24 26 rfl ?_
    exact q_iret hX dX1_freeRoom_26 h
  · replace h := h.2 c_3
    refine q_aload_n hX rfl dX1_freeRoom_8 9 rfl ?_
    refine gf_X1_16 hX hb dX1_freeRoom_9 12 rfl ?_
    refine q_iload_n hX rfl dX1_freeRoom_12 13 rfl ?_
    obtain ⟨g_4, h⟩ := h
    refine q_iald hX g_4 dX1_freeRoom_13 14 rfl ?_
    refine q_aload_n hX rfl dX1_freeRoom_14 15 rfl ?_
    refine gf_X1_29 hX hb dX1_freeRoom_15 18 rfl ?_
    refine q_iload_n hX rfl dX1_freeRoom_18 19 rfl ?_
    obtain ⟨g_5, h⟩ := h
    refine q_iald hX g_5 dX1_freeRoom_19 20 rfl ?_
    refine q_isub hX dX1_freeRoom_20 21 rfl ?_
    refine q_goto hX dX1_freeRoom_21 26 (by decide) ?_
    exact q_iret hX dX1_freeRoom_26 h
set_option maxRecDepth 100000 in
set_option maxHeartbeats 4000000 in
theorem sn_X1_freeRoom {l : Launch} {G : q_G} (b : Nat) (a0 : Int32) (hb : q_WB b) (mem : q_Mem) (Q : Int32 → q_Mem → Prop) (h : wp_X1_freeRoom b a0 mem Q) : q_MI l G yX1_freeRoom cX1_freeRoom 2 (some .int) rm_X1_freeRoom [.ref (q_ad G b), .int a0] mem Q := by
  refine q_metI 0 (by decide +kernel) (Nat.le_of_ble_eq_true rfl) rfl (fun X hl hX => ?_)
  subst hl
  exact sn_X1_freeRoom_0 hX b a0 hb Q mem h

-- X1_steamResist
def wp_X1_steamResist  (b : Nat) (a0 : Int32)  (mem : q_Mem) (Q : Int32 → q_Mem → Prop) : Prop := wp_X1_has b a0 mem (fun r_1 m_2 => ((r_1 = 0) → Q (1 : Int32) m_2) ∧ ((¬ r_1 = 0) → vp_in a0 (q_al (b + 6)) ∧ (Q (m_2 (b + 6) a0.toNatClampNeg) m_2)))
set_option maxRecDepth 100000 in
set_option maxHeartbeats 4000000 in
theorem sn_X1_steamResist_0 {X : q_X} {G : q_G} (hX : q_C X cX1_steamResist 2 RX1 (some .int) 1 21) (b : Nat) (a0 : Int32) (hb : q_WB b)  (Q : Int32 → q_Mem → Prop)  (mem : q_Mem) (h : wp_X1_steamResist  b a0  mem Q) : q_J X G 2 (q_QI X G Q) 0 [some (.ref (q_ad G b)), some (.int a0)] [] mem := by
  unfold wp_X1_steamResist at h
  refine q_aload_n hX rfl dX1_steamResist_0 1 rfl ?_
  refine q_iload_n hX rfl dX1_steamResist_1 2 rfl ?_
  refine cl_X1_67 hX hb ⟨Nat.le_of_ble_eq_true rfl, Nat.le_of_ble_eq_true rfl⟩ (Nat.le_of_ble_eq_true rfl) dX1_steamResist_2 5 rfl (sn_X1_has b a0 hb mem _ h) (fun r_1 m_2 h => ?_)
  refine q_if_eq hX dX1_steamResist_5 8 17 rfl (by decide) (fun c_3 => ?_) (fun c_3 => ?_)
  · replace h := h.1 c_3
    refine q_iconst hX (1 : Int32) q_ki_1 dX1_steamResist_17 18 rfl ?_
    exact q_iret hX dX1_steamResist_18 h
  · replace h := h.2 c_3
    refine q_aload_n hX rfl dX1_steamResist_8 9 rfl ?_
    refine gf_X1_20 hX hb dX1_steamResist_9 12 rfl ?_
    refine q_iload_n hX rfl dX1_steamResist_12 13 rfl ?_
    obtain ⟨g_4, h⟩ := h
    refine q_iald hX g_4 dX1_steamResist_13 14 rfl ?_
    refine q_goto hX dX1_steamResist_14 18 (by decide) ?_
    exact q_iret hX dX1_steamResist_18 h
set_option maxRecDepth 100000 in
set_option maxHeartbeats 4000000 in
theorem sn_X1_steamResist {l : Launch} {G : q_G} (b : Nat) (a0 : Int32) (hb : q_WB b) (mem : q_Mem) (Q : Int32 → q_Mem → Prop) (h : wp_X1_steamResist b a0 mem Q) : q_MI l G yX1_steamResist cX1_steamResist 2 (some .int) rm_X1_steamResist [.ref (q_ad G b), .int a0] mem Q := by
  refine q_metI 0 (by decide +kernel) (Nat.le_of_ble_eq_true rfl) rfl (fun X hl hX => ?_)
  subst hl
  exact sn_X1_steamResist_0 hX b a0 hb Q mem h

-- X1_waterToGive
def wp_X1_waterToGive  (b : Nat) (a0 : Int32)  (mem : q_Mem) (Q : Int32 → q_Mem → Prop) : Prop := wp_X1_has b a0 mem (fun r_1 m_2 => ((r_1 = 0) → Q (2147483647 : Int32) m_2) ∧ ((¬ r_1 = 0) → vp_in a0 (q_al (b + 9)) ∧ (Q (m_2 (b + 9) a0.toNatClampNeg) m_2)))
set_option maxRecDepth 100000 in
set_option maxHeartbeats 4000000 in
theorem sn_X1_waterToGive_0 {X : q_X} {G : q_G} (hX : q_C X cX1_waterToGive 2 RX1 (some .int) 1 21) (b : Nat) (a0 : Int32) (hb : q_WB b)  (Q : Int32 → q_Mem → Prop)  (mem : q_Mem) (h : wp_X1_waterToGive  b a0  mem Q) : q_J X G 2 (q_QI X G Q) 0 [some (.ref (q_ad G b)), some (.int a0)] [] mem := by
  unfold wp_X1_waterToGive at h
  refine q_aload_n hX rfl dX1_waterToGive_0 1 rfl ?_
  refine q_iload_n hX rfl dX1_waterToGive_1 2 rfl ?_
  refine cl_X1_67 hX hb ⟨Nat.le_of_ble_eq_true rfl, Nat.le_of_ble_eq_true rfl⟩ (Nat.le_of_ble_eq_true rfl) dX1_waterToGive_2 5 rfl (sn_X1_has b a0 hb mem _ h) (fun r_1 m_2 h => ?_)
  refine q_if_eq hX dX1_waterToGive_5 8 17 rfl (by decide) (fun c_3 => ?_) (fun c_3 => ?_)
  · replace h := h.1 c_3
    refine q_ldc hX tw_267 dX1_waterToGive_17 19 rfl ?_
    exact q_iret hX dX1_waterToGive_19 h
  · replace h := h.2 c_3
    refine q_aload_n hX rfl dX1_waterToGive_8 9 rfl ?_
    refine gf_X1_29 hX hb dX1_waterToGive_9 12 rfl ?_
    refine q_iload_n hX rfl dX1_waterToGive_12 13 rfl ?_
    obtain ⟨g_4, h⟩ := h
    refine q_iald hX g_4 dX1_waterToGive_13 14 rfl ?_
    refine q_goto hX dX1_waterToGive_14 19 (by decide) ?_
    exact q_iret hX dX1_waterToGive_19 h
set_option maxRecDepth 100000 in
set_option maxHeartbeats 4000000 in
theorem sn_X1_waterToGive {l : Launch} {G : q_G} (b : Nat) (a0 : Int32) (hb : q_WB b) (mem : q_Mem) (Q : Int32 → q_Mem → Prop) (h : wp_X1_waterToGive b a0 mem Q) : q_MI l G yX1_waterToGive cX1_waterToGive 2 (some .int) rm_X1_waterToGive [.ref (q_ad G b), .int a0] mem Q := by
  refine q_metI 0 (by decide +kernel) (Nat.le_of_ble_eq_true rfl) rfl (fun X hl hX => ?_)
  subst hl
  exact sn_X1_waterToGive_0 hX b a0 hb Q mem h

-- X1_crossBorder
def wp_X1_crossBorder_117  (b : Nat) (a0 : Int32) (a1 : Nat) (x3 : Int32) (x6 : Int32) (mem : q_Mem) (Q : q_Mem → Prop) : Prop := wp_X1_addWater b x3 (-x6) mem (fun m_2 => wp_X1_addWater b a0 x6 m_2 (fun m_4 => Q m_4))
def wp_X1_crossBorder_44  (b : Nat) (a0 : Int32) (a1 : Nat) (x3 : Int32) (x4 : Int32) (s1 : Int32) (mem : q_Mem) (Q : q_Mem → Prop) : Prop := wp_X1_steamResist b x3 mem (fun r_2 m_3 => wp_X1_steamResist b a0 m_3 (fun r_4 m_5 => wp_X2_partCut (x4 - s1) (r_2 + r_4) m_5 (fun r_6 m_7 => ((r_6 ≤ 0) → wp_X1_waterToGive b a0 m_7 (fun r_10 m_11 => wp_X1_freeRoom b x3 m_11 (fun r_12 m_13 => ∀ x6_14 : Int32, x6_14 = (-(if (if r_12 < r_10 then r_12 else r_10) < (-r_6) then if r_12 < r_10 then r_12 else r_10 else -r_6)) → wp_X1_crossBorder_117  b a0 a1 x3 x6_14 m_13 Q))) ∧ ((¬ r_6 ≤ 0) → wp_X1_waterToGive b x3 m_7 (fun r_15 m_16 => wp_X1_freeRoom b a0 m_16 (fun r_17 m_18 => ∀ x6_19 : Int32, x6_19 = (if (if r_17 < r_15 then r_17 else r_15) < r_6 then if r_17 < r_15 then r_17 else r_15 else r_6) → wp_X1_crossBorder_117  b a0 a1 x3 x6_19 m_18 Q))))))
def wp_X1_crossBorder_23  (b : Nat) (a0 : Int32) (a1 : Nat) (x3 : Int32) (s1 : Int32) (mem : q_Mem) (Q : q_Mem → Prop) : Prop := wp_X1_has b a0 mem (fun r_2 m_3 => ((r_2 = 0) → vp_in (3 : Int32) (q_al a1) ∧ (wp_X1_crossBorder_44  b a0 a1 x3 s1 (m_3 a1 (3 : Int32).toNatClampNeg) m_3 Q)) ∧ ((¬ r_2 = 0) → wp_X1_dampOf b a0 m_3 (fun r_6 m_7 => wp_X1_crossBorder_44  b a0 a1 x3 s1 r_6 m_7 Q)))
def wp_X1_crossBorder  (b : Nat) (a0 : Int32) (a1 : Nat)  (mem : q_Mem) (Q : q_Mem → Prop) : Prop := ∀ x3_1 : Int32, x3_1 = (a0 - (1 : Int32)) → wp_X1_has b x3_1 mem (fun r_2 m_3 => ((r_2 = 0) → vp_in (0 : Int32) (q_al a1) ∧ (wp_X1_crossBorder_23  b a0 a1 x3_1 (m_3 a1 (0 : Int32).toNatClampNeg) m_3 Q)) ∧ ((¬ r_2 = 0) → wp_X1_dampOf b x3_1 m_3 (fun r_6 m_7 => wp_X1_crossBorder_23  b a0 a1 x3_1 r_6 m_7 Q)))
set_option maxRecDepth 100000 in
set_option maxHeartbeats 4000000 in
theorem sn_X1_crossBorder_117 {X : q_X} {G : q_G} (hX : q_C X cX1_crossBorder 7 RX1 none 2 45) (b : Nat) (a0 : Int32) (a1 : Nat) (hb : q_WB b) (x3 : Int32) (x6 : Int32) (Q : q_Mem → Prop)  (mem : q_Mem) (h : wp_X1_crossBorder_117  b a0 a1 x3 x6 mem Q) : q_J X G 7 (q_QV X G Q) 117 [some (.ref (q_ad G b)), some (.int a0), some (.ref (q_ad G a1)), some (.int x3), none, none, some (.int x6)] [] mem := by
  unfold wp_X1_crossBorder_117 at h
  refine q_aload_n hX rfl dX1_crossBorder_117 118 rfl ?_
  refine q_iload_n hX rfl dX1_crossBorder_118 119 rfl ?_
  refine q_iload hX rfl dX1_crossBorder_119 121 rfl ?_
  refine q_ineg hX dX1_crossBorder_121 122 rfl ?_
  refine cl_X1_112 hX hb ⟨Nat.le_of_ble_eq_true rfl, Nat.le_of_ble_eq_true rfl⟩ (Nat.le_of_ble_eq_true rfl) dX1_crossBorder_122 125 rfl (sn_X1_addWater b x3 (-x6) hb mem _ h) (fun m_2 h => ?_)
  refine q_aload_n hX rfl dX1_crossBorder_125 126 rfl ?_
  refine q_iload_n hX rfl dX1_crossBorder_126 127 rfl ?_
  refine q_iload hX rfl dX1_crossBorder_127 129 rfl ?_
  refine cl_X1_112 hX hb ⟨Nat.le_of_ble_eq_true rfl, Nat.le_of_ble_eq_true rfl⟩ (Nat.le_of_ble_eq_true rfl) dX1_crossBorder_129 132 rfl (sn_X1_addWater b a0 x6 hb m_2 _ h) (fun m_4 h => ?_)
  exact q_vret hX dX1_crossBorder_132 h
set_option maxRecDepth 100000 in
set_option maxHeartbeats 4000000 in
theorem sn_X1_crossBorder_44 {X : q_X} {G : q_G} (hX : q_C X cX1_crossBorder 7 RX1 none 2 45) (b : Nat) (a0 : Int32) (a1 : Nat) (hb : q_WB b) (x3 : Int32) (x4 : Int32) (s1 : Int32) (Q : q_Mem → Prop)  (mem : q_Mem) (h : wp_X1_crossBorder_44  b a0 a1 x3 x4 s1 mem Q) : q_J X G 7 (q_QV X G Q) 44 [some (.ref (q_ad G b)), some (.int a0), some (.ref (q_ad G a1)), some (.int x3), some (.int x4), none, none] [.int s1] mem := by
  unfold wp_X1_crossBorder_44 at h
  refine q_istore hX dX1_crossBorder_44 46 rfl (Nat.le_of_ble_eq_true rfl) rfl (fun y => [some (.ref (q_ad G b)), some (.int a0), some (.ref (q_ad G a1)), some (.int x3), some (.int x4), some (.int y), none]) (fun _ => rfl) (fun x5_1 ex5_1 => ?_)
  replace ex5_1 := ex5_1.symm; subst ex5_1
  refine q_iload hX rfl dX1_crossBorder_46 48 rfl ?_
  refine q_iload hX rfl dX1_crossBorder_48 50 rfl ?_
  refine q_isub hX dX1_crossBorder_50 51 rfl ?_
  refine q_aload_n hX rfl dX1_crossBorder_51 52 rfl ?_
  refine q_iload_n hX rfl dX1_crossBorder_52 53 rfl ?_
  refine cl_X1_103 hX hb ⟨Nat.le_of_ble_eq_true rfl, Nat.le_of_ble_eq_true rfl⟩ (Nat.le_of_ble_eq_true rfl) dX1_crossBorder_53 56 rfl (sn_X1_steamResist b x3 hb mem _ h) (fun r_2 m_3 h => ?_)
  refine q_aload_n hX rfl dX1_crossBorder_56 57 rfl ?_
  refine q_iload_n hX rfl dX1_crossBorder_57 58 rfl ?_
  refine cl_X1_103 hX hb ⟨Nat.le_of_ble_eq_true rfl, Nat.le_of_ble_eq_true rfl⟩ (Nat.le_of_ble_eq_true rfl) dX1_crossBorder_58 61 rfl (sn_X1_steamResist b a0 hb m_3 _ h) (fun r_4 m_5 h => ?_)
  refine q_iadd hX dX1_crossBorder_61 62 rfl ?_
  refine cl_X1_106 hX  ⟨Nat.le_of_ble_eq_true rfl, Nat.le_of_ble_eq_true rfl⟩ (Nat.le_of_ble_eq_true rfl) dX1_crossBorder_62 65 rfl (sn_X2_partCut (x4 - s1) (r_2 + r_4)  m_5 _ h) (fun r_6 m_7 h => ?_)
  refine q_istore hX dX1_crossBorder_65 67 rfl (Nat.le_of_ble_eq_true rfl) rfl (fun y => [some (.ref (q_ad G b)), some (.int a0), some (.ref (q_ad G a1)), some (.int x3), some (.int x4), some (.int s1), some (.int y)]) (fun _ => rfl) (fun x6_8 ex6_8 => ?_)
  replace ex6_8 := ex6_8.symm; subst ex6_8
  refine q_iload hX rfl dX1_crossBorder_67 69 rfl ?_
  refine q_if_le hX dX1_crossBorder_69 72 95 rfl (by decide) (fun c_9 => ?_) (fun c_9 => ?_)
  · replace h := h.1 c_9
    refine q_iload hX rfl dX1_crossBorder_95 97 rfl ?_
    refine q_ineg hX dX1_crossBorder_97 98 rfl ?_
    refine q_aload_n hX rfl dX1_crossBorder_98 99 rfl ?_
    refine q_iload_n hX rfl dX1_crossBorder_99 100 rfl ?_
    refine cl_X1_109 hX hb ⟨Nat.le_of_ble_eq_true rfl, Nat.le_of_ble_eq_true rfl⟩ (Nat.le_of_ble_eq_true rfl) dX1_crossBorder_100 103 rfl (sn_X1_waterToGive b a0 hb m_7 _ h) (fun r_10 m_11 h => ?_)
    refine q_aload_n hX rfl dX1_crossBorder_103 104 rfl ?_
    refine q_iload_n hX rfl dX1_crossBorder_104 105 rfl ?_
    refine cl_X1_95 hX hb ⟨Nat.le_of_ble_eq_true rfl, Nat.le_of_ble_eq_true rfl⟩ (Nat.le_of_ble_eq_true rfl) dX1_crossBorder_105 108 rfl (sn_X1_freeRoom b x3 hb m_11 _ h) (fun r_12 m_13 h => ?_)
    refine q_min hX (Nat.le_of_ble_eq_true rfl) (Nat.le_of_ble_eq_true rfl) tw_268 tw_269 tw_64 tw_270 dX1_crossBorder_108 111 rfl ?_
    refine q_min hX (Nat.le_of_ble_eq_true rfl) (Nat.le_of_ble_eq_true rfl) tw_268 tw_269 tw_64 tw_270 dX1_crossBorder_111 114 rfl ?_
    refine q_ineg hX dX1_crossBorder_114 115 rfl ?_
    refine q_istore hX dX1_crossBorder_115 117 rfl (Nat.le_of_ble_eq_true rfl) rfl (fun y => [some (.ref (q_ad G b)), some (.int a0), some (.ref (q_ad G a1)), some (.int x3), some (.int x4), some (.int s1), some (.int y)]) (fun _ => rfl) (fun x6_14 ex6_14 => ?_)
    replace h := h x6_14 ex6_14
    exact q_weak [true, true, true, true, false, false, true] rfl (sn_X1_crossBorder_117 hX  b a0 a1 hb x3 x6_14 Q  m_13 h)
  · replace h := h.2 c_9
    refine q_iload hX rfl dX1_crossBorder_72 74 rfl ?_
    refine q_aload_n hX rfl dX1_crossBorder_74 75 rfl ?_
    refine q_iload_n hX rfl dX1_crossBorder_75 76 rfl ?_
    refine cl_X1_109 hX hb ⟨Nat.le_of_ble_eq_true rfl, Nat.le_of_ble_eq_true rfl⟩ (Nat.le_of_ble_eq_true rfl) dX1_crossBorder_76 79 rfl (sn_X1_waterToGive b x3 hb m_7 _ h) (fun r_15 m_16 h => ?_)
    refine q_aload_n hX rfl dX1_crossBorder_79 80 rfl ?_
    refine q_iload_n hX rfl dX1_crossBorder_80 81 rfl ?_
    refine cl_X1_95 hX hb ⟨Nat.le_of_ble_eq_true rfl, Nat.le_of_ble_eq_true rfl⟩ (Nat.le_of_ble_eq_true rfl) dX1_crossBorder_81 84 rfl (sn_X1_freeRoom b a0 hb m_16 _ h) (fun r_17 m_18 h => ?_)
    refine q_min hX (Nat.le_of_ble_eq_true rfl) (Nat.le_of_ble_eq_true rfl) tw_268 tw_269 tw_64 tw_270 dX1_crossBorder_84 87 rfl ?_
    refine q_min hX (Nat.le_of_ble_eq_true rfl) (Nat.le_of_ble_eq_true rfl) tw_268 tw_269 tw_64 tw_270 dX1_crossBorder_87 90 rfl ?_
    refine q_istore hX dX1_crossBorder_90 92 rfl (Nat.le_of_ble_eq_true rfl) rfl (fun y => [some (.ref (q_ad G b)), some (.int a0), some (.ref (q_ad G a1)), some (.int x3), some (.int x4), some (.int s1), some (.int y)]) (fun _ => rfl) (fun x6_19 ex6_19 => ?_)
    replace h := h x6_19 ex6_19
    refine q_goto hX dX1_crossBorder_92 117 (by decide) ?_
    exact q_weak [true, true, true, true, false, false, true] rfl (sn_X1_crossBorder_117 hX  b a0 a1 hb x3 x6_19 Q  m_18 h)
set_option maxRecDepth 100000 in
set_option maxHeartbeats 4000000 in
theorem sn_X1_crossBorder_23 {X : q_X} {G : q_G} (hX : q_C X cX1_crossBorder 7 RX1 none 2 45) (b : Nat) (a0 : Int32) (a1 : Nat) (hb : q_WB b) (x3 : Int32) (s1 : Int32) (Q : q_Mem → Prop)  (mem : q_Mem) (h : wp_X1_crossBorder_23  b a0 a1 x3 s1 mem Q) : q_J X G 7 (q_QV X G Q) 23 [some (.ref (q_ad G b)), some (.int a0), some (.ref (q_ad G a1)), some (.int x3), none, none, none] [.int s1] mem := by
  unfold wp_X1_crossBorder_23 at h
  refine q_istore hX dX1_crossBorder_23 25 rfl (Nat.le_of_ble_eq_true rfl) rfl (fun y => [some (.ref (q_ad G b)), some (.int a0), some (.ref (q_ad G a1)), some (.int x3), some (.int y), none, none]) (fun _ => rfl) (fun x4_1 ex4_1 => ?_)
  replace ex4_1 := ex4_1.symm; subst ex4_1
  refine q_aload_n hX rfl dX1_crossBorder_25 26 rfl ?_
  refine q_iload_n hX rfl dX1_crossBorder_26 27 rfl ?_
  refine cl_X1_67 hX hb ⟨Nat.le_of_ble_eq_true rfl, Nat.le_of_ble_eq_true rfl⟩ (Nat.le_of_ble_eq_true rfl) dX1_crossBorder_27 30 rfl (sn_X1_has b a0 hb mem _ h) (fun r_2 m_3 h => ?_)
  refine q_if_eq hX dX1_crossBorder_30 33 41 rfl (by decide) (fun c_4 => ?_) (fun c_4 => ?_)
  · replace h := h.1 c_4
    refine q_aload_n hX rfl dX1_crossBorder_41 42 rfl ?_
    refine q_iconst hX (3 : Int32) q_ki_3 dX1_crossBorder_42 43 rfl ?_
    obtain ⟨g_5, h⟩ := h
    refine q_iald hX g_5 dX1_crossBorder_43 44 rfl ?_
    exact q_weak [true, true, true, true, true, false, false] rfl (sn_X1_crossBorder_44 hX  b a0 a1 hb x3 s1 (m_3 a1 (3 : Int32).toNatClampNeg) Q  m_3 h)
  · replace h := h.2 c_4
    refine q_aload_n hX rfl dX1_crossBorder_33 34 rfl ?_
    refine q_iload_n hX rfl dX1_crossBorder_34 35 rfl ?_
    refine cl_X1_71 hX hb ⟨Nat.le_of_ble_eq_true rfl, Nat.le_of_ble_eq_true rfl⟩ (Nat.le_of_ble_eq_true rfl) dX1_crossBorder_35 38 rfl (sn_X1_dampOf b a0 hb m_3 _ h) (fun r_6 m_7 h => ?_)
    refine q_goto hX dX1_crossBorder_38 44 (by decide) ?_
    exact q_weak [true, true, true, true, true, false, false] rfl (sn_X1_crossBorder_44 hX  b a0 a1 hb x3 s1 r_6 Q  m_7 h)
set_option maxRecDepth 100000 in
set_option maxHeartbeats 4000000 in
theorem sn_X1_crossBorder_0 {X : q_X} {G : q_G} (hX : q_C X cX1_crossBorder 7 RX1 none 2 45) (b : Nat) (a0 : Int32) (a1 : Nat) (hb : q_WB b)  (Q : q_Mem → Prop)  (mem : q_Mem) (h : wp_X1_crossBorder  b a0 a1  mem Q) : q_J X G 7 (q_QV X G Q) 0 [some (.ref (q_ad G b)), some (.int a0), some (.ref (q_ad G a1)), none, none, none, none] [] mem := by
  unfold wp_X1_crossBorder at h
  refine q_iload_n hX rfl dX1_crossBorder_0 1 rfl ?_
  refine q_iconst hX (1 : Int32) q_ki_1 dX1_crossBorder_1 2 rfl ?_
  refine q_isub hX dX1_crossBorder_2 3 rfl ?_
  refine q_istore_n hX dX1_crossBorder_3 4 rfl (Nat.le_of_ble_eq_true rfl) rfl (fun y => [some (.ref (q_ad G b)), some (.int a0), some (.ref (q_ad G a1)), some (.int y), none, none, none]) (fun _ => rfl) (fun x3_1 ex3_1 => ?_)
  replace h := h x3_1 ex3_1
  refine q_aload_n hX rfl dX1_crossBorder_4 5 rfl ?_
  refine q_iload_n hX rfl dX1_crossBorder_5 6 rfl ?_
  refine cl_X1_67 hX hb ⟨Nat.le_of_ble_eq_true rfl, Nat.le_of_ble_eq_true rfl⟩ (Nat.le_of_ble_eq_true rfl) dX1_crossBorder_6 9 rfl (sn_X1_has b x3_1 hb mem _ h) (fun r_2 m_3 h => ?_)
  refine q_if_eq hX dX1_crossBorder_9 12 20 rfl (by decide) (fun c_4 => ?_) (fun c_4 => ?_)
  · replace h := h.1 c_4
    refine q_aload_n hX rfl dX1_crossBorder_20 21 rfl ?_
    refine q_iconst hX (0 : Int32) q_ki_0 dX1_crossBorder_21 22 rfl ?_
    obtain ⟨g_5, h⟩ := h
    refine q_iald hX g_5 dX1_crossBorder_22 23 rfl ?_
    exact q_weak [true, true, true, true, false, false, false] rfl (sn_X1_crossBorder_23 hX  b a0 a1 hb x3_1 (m_3 a1 (0 : Int32).toNatClampNeg) Q  m_3 h)
  · replace h := h.2 c_4
    refine q_aload_n hX rfl dX1_crossBorder_12 13 rfl ?_
    refine q_iload_n hX rfl dX1_crossBorder_13 14 rfl ?_
    refine cl_X1_71 hX hb ⟨Nat.le_of_ble_eq_true rfl, Nat.le_of_ble_eq_true rfl⟩ (Nat.le_of_ble_eq_true rfl) dX1_crossBorder_14 17 rfl (sn_X1_dampOf b x3_1 hb m_3 _ h) (fun r_6 m_7 h => ?_)
    refine q_goto hX dX1_crossBorder_17 23 (by decide) ?_
    exact q_weak [true, true, true, true, false, false, false] rfl (sn_X1_crossBorder_23 hX  b a0 a1 hb x3_1 r_6 Q  m_7 h)
set_option maxRecDepth 100000 in
set_option maxHeartbeats 4000000 in
theorem sn_X1_crossBorder {l : Launch} {G : q_G} (b : Nat) (a0 : Int32) (a1 : Nat) (hb : q_WB b) (mem : q_Mem) (Q : q_Mem → Prop) (h : wp_X1_crossBorder b a0 a1 mem Q) : q_MV l G yX1_crossBorder cX1_crossBorder 7 none rm_X1_crossBorder [.ref (q_ad G b), .int a0, .ref (q_ad G a1)] mem Q := by
  refine q_metV 4 (by decide +kernel) (Nat.le_of_ble_eq_true rfl) rfl (fun X hl hX => ?_)
  subst hl
  exact sn_X1_crossBorder_0 hX b a0 a1 hb Q mem h

-- X1_empty
def wp_X1_empty_7_b (K7 : Int32 → q_Mem → Prop) (b : Nat) (x1 : Int32) (mem : q_Mem) (Q : q_Mem → Prop) : Prop := (((5 : Int32) ≤ x1) → Q mem) ∧ ((¬ (5 : Int32) ≤ x1) → vp_in x1 (q_al (b + 13)) ∧ (∀ m_3 : q_Mem, m_3 = q_set mem (b + 13) (upd (mem (b + 13)) x1.toNatClampNeg (0 : Int32)) → ∀ x1_4 : Int32, x1_4 = (x1 + (1 : Int32)) → K7 x1_4 m_3))
def wp_X1_empty_7  (b : Nat) (x1 : Int32) (mem : q_Mem) (Q : q_Mem → Prop) : Prop := ∃ I : Nat → Int32 → q_Mem → Prop, (∃ n, I n x1 mem) ∧ ∀ (n : Nat) (yx1 : Int32) (ymem : q_Mem), I n yx1 ymem → wp_X1_empty_7_b  (fun (zx1 : Int32) (zmem : q_Mem) => ∃ n2, n2 < n ∧ I n2 zx1 zmem) b yx1 ymem Q
def wp_X1_empty  (b : Nat)  (mem : q_Mem) (Q : q_Mem → Prop) : Prop := ∀ m_1 : q_Mem, m_1 = q_set mem b (upd (mem b) 11 (0 : Int32)) → wp_X1_empty_7  b (0 : Int32) m_1 Q
set_option maxRecDepth 100000 in
set_option maxHeartbeats 4000000 in
theorem sn_X1_empty_7_b {X : q_X} {G : q_G} (hX : q_C X cX1_empty 2 RX1 none 0 0) (b : Nat) (hb : q_WB b) (x1 : Int32) (Q : q_Mem → Prop) (K7 : Int32 → q_Mem → Prop) (hK7 : ∀ (yx1 : Int32) (ymem : q_Mem), K7 yx1 ymem → q_J X G 2 (q_QV X G Q) 7 [some (.ref (q_ad G b)), some (.int yx1)] [] ymem) (mem : q_Mem) (h : wp_X1_empty_7_b K7 b x1 mem Q) : q_J X G 2 (q_QV X G Q) 7 [some (.ref (q_ad G b)), some (.int x1)] [] mem := by
  unfold wp_X1_empty_7_b at h
  refine q_iload_n hX rfl dX1_empty_7 8 rfl ?_
  refine q_iconst hX (5 : Int32) q_ki_5 dX1_empty_8 9 rfl ?_
  refine q_icmp_ge hX dX1_empty_9 12 25 rfl (by decide) (fun c_1 => ?_) (fun c_1 => ?_)
  · replace h := h.1 c_1
    exact q_vret hX dX1_empty_25 h
  · replace h := h.2 c_1
    refine q_aload_n hX rfl dX1_empty_12 13 rfl ?_
    refine gf_X1_41 hX hb dX1_empty_13 16 rfl ?_
    refine q_iload_n hX rfl dX1_empty_16 17 rfl ?_
    refine q_iconst hX (0 : Int32) q_ki_0 dX1_empty_17 18 rfl ?_
    obtain ⟨g_2, h⟩ := h
    refine q_iast hX g_2 dX1_empty_18 19 rfl (fun m_3 em_3 => ?_)
    replace h := h m_3 em_3
    refine q_iinc hX (1 : Int32) q_ki_1 rfl dX1_empty_19 22 rfl (Nat.le_of_ble_eq_true rfl) rfl (fun y => [some (.ref (q_ad G b)), some (.int y)]) (fun _ => rfl) (fun x1_4 ex1_4 => ?_)
    replace h := h x1_4 ex1_4
    refine q_goto hX dX1_empty_22 7 (by decide) ?_
    exact q_weak [true, true] rfl (hK7 x1_4 m_3 h)
set_option maxRecDepth 100000 in
set_option maxHeartbeats 4000000 in
theorem sn_X1_empty_7 {X : q_X} {G : q_G} (hX : q_C X cX1_empty 2 RX1 none 0 0) (b : Nat) (hb : q_WB b) (x1 : Int32) (Q : q_Mem → Prop)  (mem : q_Mem) (h : wp_X1_empty_7  b x1 mem Q) : q_J X G 2 (q_QV X G Q) 7 [some (.ref (q_ad G b)), some (.int x1)] [] mem := by
  obtain ⟨I, ⟨n, h0⟩, hs⟩ := h
  have key : ∀ (n : Nat) (yx1 : Int32) (ymem : q_Mem), I n yx1 ymem → q_J X G 2 (q_QV X G Q) 7 [some (.ref (q_ad G b)), some (.int yx1)] [] ymem := by
    intro n
    induction n using Nat.strongRecOn with
    | ind n ih =>
      intro yx1 ymem hI
      exact sn_X1_empty_7_b hX  b hb yx1 Q  (fun (zx1 : Int32) (zmem : q_Mem) => ∃ n2, n2 < n ∧ I n2 zx1 zmem) (fun zx1 zmem hz => by obtain ⟨n2, h1, h2⟩ := hz; exact ih n2 h1 zx1 zmem h2) ymem (hs n yx1 ymem hI)
  exact key n x1 mem h0
set_option maxRecDepth 100000 in
set_option maxHeartbeats 4000000 in
theorem sn_X1_empty_0 {X : q_X} {G : q_G} (hX : q_C X cX1_empty 2 RX1 none 0 0) (b : Nat) (hb : q_WB b)  (Q : q_Mem → Prop)  (mem : q_Mem) (h : wp_X1_empty  b  mem Q) : q_J X G 2 (q_QV X G Q) 0 [some (.ref (q_ad G b)), none] [] mem := by
  unfold wp_X1_empty at h
  refine q_aload_n hX rfl dX1_empty_0 1 rfl ?_
  refine q_iconst hX (0 : Int32) q_ki_0 dX1_empty_1 2 rfl ?_
  refine pf_X1_47 hX hb dX1_empty_2 5 rfl (fun m_1 em_1 => ?_)
  replace h := h m_1 em_1
  refine q_iconst hX (0 : Int32) q_ki_0 dX1_empty_5 6 rfl ?_
  refine q_istore_n hX dX1_empty_6 7 rfl (Nat.le_of_ble_eq_true rfl) rfl (fun y => [some (.ref (q_ad G b)), some (.int y)]) (fun _ => rfl) (fun x1_2 ex1_2 => ?_)
  replace ex1_2 := ex1_2.symm; subst ex1_2
  exact q_weak [true, true] rfl (sn_X1_empty_7 hX  b hb (0 : Int32) Q  m_1 h)
set_option maxRecDepth 100000 in
set_option maxHeartbeats 4000000 in
theorem sn_X1_empty {l : Launch} {G : q_G} (b : Nat) (hb : q_WB b) (mem : q_Mem) (Q : q_Mem → Prop) (h : wp_X1_empty b mem Q) : q_MV l G yX1_empty cX1_empty 2 none rm_X1_empty [.ref (q_ad G b)] mem Q := by
  refine q_metV 1 (by decide +kernel) (Nat.le_of_ble_eq_true rfl) rfl (fun X hl hX => ?_)
  subst hl
  exact sn_X1_empty_0 hX b hb Q mem h

-- X1_feelWarmth
def wp_X1_feelWarmth_26_b (K26 : Int32 → Int32 → q_Mem → Prop) (b : Nat) (a0 : Int32) (a1 : Int32) (x3 : Int32) (x4 : Int32) (x5 : Int32) (mem : q_Mem) (Q : q_Mem → Prop) : Prop := (((mem b 11) ≤ x5) → Q mem) ∧ ((¬ (mem b 11) ≤ x5) → vp_in x5 (q_al (b + 7)) ∧ (∀ x6_3 : Int32, x6_3 = (((2 : Int32) + ((2 : Int32) * x4)) + (mem (b + 7) x5.toNatClampNeg)) → wp_X2_partDown ((a1 - a0) * x6_3) x3 mem (fun r_4 m_5 => vp_in x5 (q_al (b + 12)) ∧ (∀ m_7 : q_Mem, m_7 = q_set m_5 (b + 12) (upd (m_5 (b + 12)) x5.toNatClampNeg (a0 + r_4)) → wp_X1_countFrost b x5 m_7 (fun m_9 => wp_X1_countMould b x5 m_9 (fun m_11 => vp_in x5 (q_al (b + 7)) ∧ (∀ x4_13 : Int32, x4_13 = (x4 + (m_11 (b + 7) x5.toNatClampNeg)) → ∀ x5_14 : Int32, x5_14 = (x5 + (1 : Int32)) → K26 x4_13 x5_14 m_11)))))))
def wp_X1_feelWarmth_26  (b : Nat) (a0 : Int32) (a1 : Int32) (x3 : Int32) (x4 : Int32) (x5 : Int32) (mem : q_Mem) (Q : q_Mem → Prop) : Prop := ∃ I : Nat → Int32 → Int32 → q_Mem → Prop, (∃ n, I n x4 x5 mem) ∧ ∀ (n : Nat) (yx4 : Int32) (yx5 : Int32) (ymem : q_Mem), I n yx4 yx5 ymem → wp_X1_feelWarmth_26_b  (fun (zx4 : Int32) (zx5 : Int32) (zmem : q_Mem) => ∃ n2, n2 < n ∧ I n2 zx4 zx5 zmem) b a0 a1 x3 yx4 yx5 ymem Q
def wp_X1_feelWarmth  (b : Nat) (a0 : Int32) (a1 : Int32)  (mem : q_Mem) (Q : q_Mem → Prop) : Prop := wp_X1_firstLayers (mem b 11) mem (fun r_1 m_2 => wp_X1_resistOf b (b + 7) r_1 m_2 (fun r_3 m_4 => ∀ x3_5 : Int32, x3_5 = ((4 : Int32) + ((2 : Int32) * r_3)) → wp_X1_feelWarmth_26  b a0 a1 x3_5 (0 : Int32) (0 : Int32) m_4 Q))
set_option maxRecDepth 100000 in
set_option maxHeartbeats 4000000 in
theorem sn_X1_feelWarmth_26_b {X : q_X} {G : q_G} (hX : q_C X cX1_feelWarmth 7 RX1 none 3 66) (b : Nat) (a0 : Int32) (a1 : Int32) (hb : q_WB b) (x3 : Int32) (x4 : Int32) (x5 : Int32) (Q : q_Mem → Prop) (K26 : Int32 → Int32 → q_Mem → Prop) (hK26 : ∀ (yx4 : Int32) (yx5 : Int32) (ymem : q_Mem), K26 yx4 yx5 ymem → q_J X G 7 (q_QV X G Q) 26 [some (.ref (q_ad G b)), some (.int a0), some (.int a1), some (.int x3), some (.int yx4), some (.int yx5), none] [] ymem) (mem : q_Mem) (h : wp_X1_feelWarmth_26_b K26 b a0 a1 x3 x4 x5 mem Q) : q_J X G 7 (q_QV X G Q) 26 [some (.ref (q_ad G b)), some (.int a0), some (.int a1), some (.int x3), some (.int x4), some (.int x5), none] [] mem := by
  unfold wp_X1_feelWarmth_26_b at h
  refine q_iload hX rfl dX1_feelWarmth_26 28 rfl ?_
  refine q_aload_n hX rfl dX1_feelWarmth_28 29 rfl ?_
  refine gf_X1_47 hX hb dX1_feelWarmth_29 32 rfl ?_
  refine q_icmp_ge hX dX1_feelWarmth_32 35 100 rfl (by decide) (fun c_1 => ?_) (fun c_1 => ?_)
  · replace h := h.1 c_1
    exact q_vret hX dX1_feelWarmth_100 h
  · replace h := h.2 c_1
    refine q_iconst hX (2 : Int32) q_ki_2 dX1_feelWarmth_35 36 rfl ?_
    refine q_iconst hX (2 : Int32) q_ki_2 dX1_feelWarmth_36 37 rfl ?_
    refine q_iload hX rfl dX1_feelWarmth_37 39 rfl ?_
    refine q_imul hX dX1_feelWarmth_39 40 rfl ?_
    refine q_iadd hX dX1_feelWarmth_40 41 rfl ?_
    refine q_aload_n hX rfl dX1_feelWarmth_41 42 rfl ?_
    refine gf_X1_23 hX hb dX1_feelWarmth_42 45 rfl ?_
    refine q_iload hX rfl dX1_feelWarmth_45 47 rfl ?_
    obtain ⟨g_2, h⟩ := h
    refine q_iald hX g_2 dX1_feelWarmth_47 48 rfl ?_
    refine q_iadd hX dX1_feelWarmth_48 49 rfl ?_
    refine q_istore hX dX1_feelWarmth_49 51 rfl (Nat.le_of_ble_eq_true rfl) rfl (fun y => [some (.ref (q_ad G b)), some (.int a0), some (.int a1), some (.int x3), some (.int x4), some (.int x5), some (.int y)]) (fun _ => rfl) (fun x6_3 ex6_3 => ?_)
    replace h := h x6_3 ex6_3
    refine q_aload_n hX rfl dX1_feelWarmth_51 52 rfl ?_
    refine gf_X1_38 hX hb dX1_feelWarmth_52 55 rfl ?_
    refine q_iload hX rfl dX1_feelWarmth_55 57 rfl ?_
    refine q_iload_n hX rfl dX1_feelWarmth_57 58 rfl ?_
    refine q_iload_n hX rfl dX1_feelWarmth_58 59 rfl ?_
    refine q_iload_n hX rfl dX1_feelWarmth_59 60 rfl ?_
    refine q_isub hX dX1_feelWarmth_60 61 rfl ?_
    refine q_iload hX rfl dX1_feelWarmth_61 63 rfl ?_
    refine q_imul hX dX1_feelWarmth_63 64 rfl ?_
    refine q_iload_n hX rfl dX1_feelWarmth_64 65 rfl ?_
    refine cl_X1_75 hX  ⟨Nat.le_of_ble_eq_true rfl, Nat.le_of_ble_eq_true rfl⟩ (Nat.le_of_ble_eq_true rfl) dX1_feelWarmth_65 68 rfl (sn_X2_partDown ((a1 - a0) * x6_3) x3  mem _ h) (fun r_4 m_5 h => ?_)
    refine q_iadd hX dX1_feelWarmth_68 69 rfl ?_
    obtain ⟨g_6, h⟩ := h
    refine q_iast hX g_6 dX1_feelWarmth_69 70 rfl (fun m_7 em_7 => ?_)
    replace h := h m_7 em_7
    refine q_aload_n hX rfl dX1_feelWarmth_70 71 rfl ?_
    refine q_iload hX rfl dX1_feelWarmth_71 73 rfl ?_
    refine cl_X1_123 hX hb ⟨Nat.le_of_ble_eq_true rfl, Nat.le_of_ble_eq_true rfl⟩ (Nat.le_of_ble_eq_true rfl) dX1_feelWarmth_73 76 rfl (sn_X1_countFrost b x5 hb m_7 _ h) (fun m_9 h => ?_)
    refine q_aload_n hX rfl dX1_feelWarmth_76 77 rfl ?_
    refine q_iload hX rfl dX1_feelWarmth_77 79 rfl ?_
    refine cl_X1_126 hX hb ⟨Nat.le_of_ble_eq_true rfl, Nat.le_of_ble_eq_true rfl⟩ (Nat.le_of_ble_eq_true rfl) dX1_feelWarmth_79 82 rfl (sn_X1_countMould b x5 hb m_9 _ h) (fun m_11 h => ?_)
    refine q_iload hX rfl dX1_feelWarmth_82 84 rfl ?_
    refine q_aload_n hX rfl dX1_feelWarmth_84 85 rfl ?_
    refine gf_X1_23 hX hb dX1_feelWarmth_85 88 rfl ?_
    refine q_iload hX rfl dX1_feelWarmth_88 90 rfl ?_
    obtain ⟨g_12, h⟩ := h
    refine q_iald hX g_12 dX1_feelWarmth_90 91 rfl ?_
    refine q_iadd hX dX1_feelWarmth_91 92 rfl ?_
    refine q_istore hX dX1_feelWarmth_92 94 rfl (Nat.le_of_ble_eq_true rfl) rfl (fun y => [some (.ref (q_ad G b)), some (.int a0), some (.int a1), some (.int x3), some (.int y), some (.int x5), some (.int x6_3)]) (fun _ => rfl) (fun x4_13 ex4_13 => ?_)
    replace h := h x4_13 ex4_13
    refine q_iinc hX (1 : Int32) q_ki_1 rfl dX1_feelWarmth_94 97 rfl (Nat.le_of_ble_eq_true rfl) rfl (fun y => [some (.ref (q_ad G b)), some (.int a0), some (.int a1), some (.int x3), some (.int x4_13), some (.int y), some (.int x6_3)]) (fun _ => rfl) (fun x5_14 ex5_14 => ?_)
    replace h := h x5_14 ex5_14
    refine q_goto hX dX1_feelWarmth_97 26 (by decide) ?_
    exact q_weak [true, true, true, true, true, true, false] rfl (hK26 x4_13 x5_14 m_11 h)
set_option maxRecDepth 100000 in
set_option maxHeartbeats 4000000 in
theorem sn_X1_feelWarmth_26 {X : q_X} {G : q_G} (hX : q_C X cX1_feelWarmth 7 RX1 none 3 66) (b : Nat) (a0 : Int32) (a1 : Int32) (hb : q_WB b) (x3 : Int32) (x4 : Int32) (x5 : Int32) (Q : q_Mem → Prop)  (mem : q_Mem) (h : wp_X1_feelWarmth_26  b a0 a1 x3 x4 x5 mem Q) : q_J X G 7 (q_QV X G Q) 26 [some (.ref (q_ad G b)), some (.int a0), some (.int a1), some (.int x3), some (.int x4), some (.int x5), none] [] mem := by
  obtain ⟨I, ⟨n, h0⟩, hs⟩ := h
  have key : ∀ (n : Nat) (yx4 : Int32) (yx5 : Int32) (ymem : q_Mem), I n yx4 yx5 ymem → q_J X G 7 (q_QV X G Q) 26 [some (.ref (q_ad G b)), some (.int a0), some (.int a1), some (.int x3), some (.int yx4), some (.int yx5), none] [] ymem := by
    intro n
    induction n using Nat.strongRecOn with
    | ind n ih =>
      intro yx4 yx5 ymem hI
      exact sn_X1_feelWarmth_26_b hX  b a0 a1 hb x3 yx4 yx5 Q  (fun (zx4 : Int32) (zx5 : Int32) (zmem : q_Mem) => ∃ n2, n2 < n ∧ I n2 zx4 zx5 zmem) (fun zx4 zx5 zmem hz => by obtain ⟨n2, h1, h2⟩ := hz; exact ih n2 h1 zx4 zx5 zmem h2) ymem (hs n yx4 yx5 ymem hI)
  exact key n x4 x5 mem h0
set_option maxRecDepth 100000 in
set_option maxHeartbeats 4000000 in
theorem sn_X1_feelWarmth_0 {X : q_X} {G : q_G} (hX : q_C X cX1_feelWarmth 7 RX1 none 3 66) (b : Nat) (a0 : Int32) (a1 : Int32) (hb : q_WB b)  (Q : q_Mem → Prop)  (mem : q_Mem) (h : wp_X1_feelWarmth  b a0 a1  mem Q) : q_J X G 7 (q_QV X G Q) 0 [some (.ref (q_ad G b)), some (.int a0), some (.int a1), none, none, none, none] [] mem := by
  unfold wp_X1_feelWarmth at h
  refine q_iconst hX (4 : Int32) q_ki_4 dX1_feelWarmth_0 1 rfl ?_
  refine q_iconst hX (2 : Int32) q_ki_2 dX1_feelWarmth_1 2 rfl ?_
  refine q_aload_n hX rfl dX1_feelWarmth_2 3 rfl ?_
  refine q_aload_n hX rfl dX1_feelWarmth_3 4 rfl ?_
  refine gf_X1_23 hX hb dX1_feelWarmth_4 7 rfl ?_
  refine q_aload_n hX rfl dX1_feelWarmth_7 8 rfl ?_
  refine gf_X1_47 hX hb dX1_feelWarmth_8 11 rfl ?_
  refine cl_X1_116 hX  ⟨Nat.le_of_ble_eq_true rfl, Nat.le_of_ble_eq_true rfl⟩ (Nat.le_of_ble_eq_true rfl) dX1_feelWarmth_11 14 rfl (sn_X1_firstLayers (mem b 11)  mem _ h) (fun r_1 m_2 h => ?_)
  refine cl_X1_119 hX hb ⟨Nat.le_of_ble_eq_true rfl, Nat.le_of_ble_eq_true rfl⟩ (Nat.le_of_ble_eq_true rfl) dX1_feelWarmth_14 17 rfl (sn_X1_resistOf b (b + 7) r_1 hb m_2 _ h) (fun r_3 m_4 h => ?_)
  refine q_imul hX dX1_feelWarmth_17 18 rfl ?_
  refine q_iadd hX dX1_feelWarmth_18 19 rfl ?_
  refine q_istore_n hX dX1_feelWarmth_19 20 rfl (Nat.le_of_ble_eq_true rfl) rfl (fun y => [some (.ref (q_ad G b)), some (.int a0), some (.int a1), some (.int y), none, none, none]) (fun _ => rfl) (fun x3_5 ex3_5 => ?_)
  replace h := h x3_5 ex3_5
  refine q_iconst hX (0 : Int32) q_ki_0 dX1_feelWarmth_20 21 rfl ?_
  refine q_istore hX dX1_feelWarmth_21 23 rfl (Nat.le_of_ble_eq_true rfl) rfl (fun y => [some (.ref (q_ad G b)), some (.int a0), some (.int a1), some (.int x3_5), some (.int y), none, none]) (fun _ => rfl) (fun x4_6 ex4_6 => ?_)
  replace ex4_6 := ex4_6.symm; subst ex4_6
  refine q_iconst hX (0 : Int32) q_ki_0 dX1_feelWarmth_23 24 rfl ?_
  refine q_istore hX dX1_feelWarmth_24 26 rfl (Nat.le_of_ble_eq_true rfl) rfl (fun y => [some (.ref (q_ad G b)), some (.int a0), some (.int a1), some (.int x3_5), some (.int (0 : Int32)), some (.int y), none]) (fun _ => rfl) (fun x5_7 ex5_7 => ?_)
  replace ex5_7 := ex5_7.symm; subst ex5_7
  exact q_weak [true, true, true, true, true, true, false] rfl (sn_X1_feelWarmth_26 hX  b a0 a1 hb x3_5 (0 : Int32) (0 : Int32) Q  m_4 h)
set_option maxRecDepth 100000 in
set_option maxHeartbeats 4000000 in
theorem sn_X1_feelWarmth {l : Launch} {G : q_G} (b : Nat) (a0 : Int32) (a1 : Int32) (hb : q_WB b) (mem : q_Mem) (Q : q_Mem → Prop) (h : wp_X1_feelWarmth b a0 a1 mem Q) : q_MV l G yX1_feelWarmth cX1_feelWarmth 7 none rm_X1_feelWarmth [.ref (q_ad G b), .int a0, .int a1] mem Q := by
  refine q_metV 4 (by decide +kernel) (Nat.le_of_ble_eq_true rfl) rfl (fun X hl hX => ?_)
  subst hl
  exact sn_X1_feelWarmth_0 hX b a0 a1 hb Q mem h

-- X1_holdsSameWaterAs
def wp_X1_holdsSameWaterAs_2_b (K2 : Int32 → q_Mem → Prop) (b : Nat) (w0 : Nat) (x2 : Int32) (mem : q_Mem) (Q : Int32 → q_Mem → Prop) : Prop := (((mem b 11) ≤ x2) → Q (1 : Int32) mem) ∧ ((¬ (mem b 11) ≤ x2) → vp_in x2 (q_al (b + 9)) ∧ (vp_in x2 (q_al (w0 + 9)) ∧ ((((mem (b + 9) x2.toNatClampNeg) = (mem (w0 + 9) x2.toNatClampNeg)) → ∀ x2_5 : Int32, x2_5 = (x2 + (1 : Int32)) → K2 x2_5 mem) ∧ ((¬ (mem (b + 9) x2.toNatClampNeg) = (mem (w0 + 9) x2.toNatClampNeg)) → Q (0 : Int32) mem))))
def wp_X1_holdsSameWaterAs_2  (b : Nat) (w0 : Nat) (x2 : Int32) (mem : q_Mem) (Q : Int32 → q_Mem → Prop) : Prop := ∃ I : Nat → Int32 → q_Mem → Prop, (∃ n, I n x2 mem) ∧ ∀ (n : Nat) (yx2 : Int32) (ymem : q_Mem), I n yx2 ymem → wp_X1_holdsSameWaterAs_2_b  (fun (zx2 : Int32) (zmem : q_Mem) => ∃ n2, n2 < n ∧ I n2 zx2 zmem) b w0 yx2 ymem Q
def wp_X1_holdsSameWaterAs  (b : Nat) (w0 : Nat)  (mem : q_Mem) (Q : Int32 → q_Mem → Prop) : Prop := wp_X1_holdsSameWaterAs_2  b w0 (0 : Int32) mem Q
set_option maxRecDepth 100000 in
set_option maxHeartbeats 4000000 in
theorem sn_X1_holdsSameWaterAs_2_b {X : q_X} {G : q_G} (hX : q_C X cX1_holdsSameWaterAs 3 RX1 (some .boolean) 0 0) (b : Nat) (w0 : Nat) (hb : q_WB b) (hw0 : q_WB w0) (x2 : Int32) (Q : Int32 → q_Mem → Prop) (K2 : Int32 → q_Mem → Prop) (hK2 : ∀ (yx2 : Int32) (ymem : q_Mem), K2 yx2 ymem → q_J X G 3 (q_QI X G Q) 2 [some (.ref (q_ad G b)), some (.ref (q_ad G w0)), some (.int yx2)] [] ymem) (mem : q_Mem) (h : wp_X1_holdsSameWaterAs_2_b K2 b w0 x2 mem Q) : q_J X G 3 (q_QI X G Q) 2 [some (.ref (q_ad G b)), some (.ref (q_ad G w0)), some (.int x2)] [] mem := by
  unfold wp_X1_holdsSameWaterAs_2_b at h
  refine q_iload_n hX rfl dX1_holdsSameWaterAs_2 3 rfl ?_
  refine q_aload_n hX rfl dX1_holdsSameWaterAs_3 4 rfl ?_
  refine gf_X1_47 hX hb dX1_holdsSameWaterAs_4 7 rfl ?_
  refine q_icmp_ge hX dX1_holdsSameWaterAs_7 10 33 rfl (by decide) (fun c_1 => ?_) (fun c_1 => ?_)
  · replace h := h.1 c_1
    refine q_iconst hX (1 : Int32) q_ki_1 dX1_holdsSameWaterAs_33 34 rfl ?_
    exact q_zret hX dX1_holdsSameWaterAs_34 (by decide) h
  · replace h := h.2 c_1
    refine q_aload_n hX rfl dX1_holdsSameWaterAs_10 11 rfl ?_
    refine gf_X1_29 hX hb dX1_holdsSameWaterAs_11 14 rfl ?_
    refine q_iload_n hX rfl dX1_holdsSameWaterAs_14 15 rfl ?_
    obtain ⟨g_2, h⟩ := h
    refine q_iald hX g_2 dX1_holdsSameWaterAs_15 16 rfl ?_
    refine q_aload_n hX rfl dX1_holdsSameWaterAs_16 17 rfl ?_
    refine gf_X1_29 hX hw0 dX1_holdsSameWaterAs_17 20 rfl ?_
    refine q_iload_n hX rfl dX1_holdsSameWaterAs_20 21 rfl ?_
    obtain ⟨g_3, h⟩ := h
    refine q_iald hX g_3 dX1_holdsSameWaterAs_21 22 rfl ?_
    refine q_icmp_eq hX dX1_holdsSameWaterAs_22 25 27 rfl (by decide) (fun c_4 => ?_) (fun c_4 => ?_)
    · replace h := h.1 c_4
      refine q_iinc hX (1 : Int32) q_ki_1 rfl dX1_holdsSameWaterAs_27 30 rfl (Nat.le_of_ble_eq_true rfl) rfl (fun y => [some (.ref (q_ad G b)), some (.ref (q_ad G w0)), some (.int y)]) (fun _ => rfl) (fun x2_5 ex2_5 => ?_)
      replace h := h x2_5 ex2_5
      refine q_goto hX dX1_holdsSameWaterAs_30 2 (by decide) ?_
      exact q_weak [true, true, true] rfl (hK2 x2_5 mem h)
    · replace h := h.2 c_4
      refine q_iconst hX (0 : Int32) q_ki_0 dX1_holdsSameWaterAs_25 26 rfl ?_
      exact q_zret hX dX1_holdsSameWaterAs_26 (by decide) h
set_option maxRecDepth 100000 in
set_option maxHeartbeats 4000000 in
theorem sn_X1_holdsSameWaterAs_2 {X : q_X} {G : q_G} (hX : q_C X cX1_holdsSameWaterAs 3 RX1 (some .boolean) 0 0) (b : Nat) (w0 : Nat) (hb : q_WB b) (hw0 : q_WB w0) (x2 : Int32) (Q : Int32 → q_Mem → Prop)  (mem : q_Mem) (h : wp_X1_holdsSameWaterAs_2  b w0 x2 mem Q) : q_J X G 3 (q_QI X G Q) 2 [some (.ref (q_ad G b)), some (.ref (q_ad G w0)), some (.int x2)] [] mem := by
  obtain ⟨I, ⟨n, h0⟩, hs⟩ := h
  have key : ∀ (n : Nat) (yx2 : Int32) (ymem : q_Mem), I n yx2 ymem → q_J X G 3 (q_QI X G Q) 2 [some (.ref (q_ad G b)), some (.ref (q_ad G w0)), some (.int yx2)] [] ymem := by
    intro n
    induction n using Nat.strongRecOn with
    | ind n ih =>
      intro yx2 ymem hI
      exact sn_X1_holdsSameWaterAs_2_b hX  b w0 hb hw0 yx2 Q  (fun (zx2 : Int32) (zmem : q_Mem) => ∃ n2, n2 < n ∧ I n2 zx2 zmem) (fun zx2 zmem hz => by obtain ⟨n2, h1, h2⟩ := hz; exact ih n2 h1 zx2 zmem h2) ymem (hs n yx2 ymem hI)
  exact key n x2 mem h0
set_option maxRecDepth 100000 in
set_option maxHeartbeats 4000000 in
theorem sn_X1_holdsSameWaterAs_0 {X : q_X} {G : q_G} (hX : q_C X cX1_holdsSameWaterAs 3 RX1 (some .boolean) 0 0) (b : Nat) (w0 : Nat) (hb : q_WB b) (hw0 : q_WB w0)  (Q : Int32 → q_Mem → Prop)  (mem : q_Mem) (h : wp_X1_holdsSameWaterAs  b w0  mem Q) : q_J X G 3 (q_QI X G Q) 0 [some (.ref (q_ad G b)), some (.ref (q_ad G w0)), none] [] mem := by
  unfold wp_X1_holdsSameWaterAs at h
  refine q_iconst hX (0 : Int32) q_ki_0 dX1_holdsSameWaterAs_0 1 rfl ?_
  refine q_istore_n hX dX1_holdsSameWaterAs_1 2 rfl (Nat.le_of_ble_eq_true rfl) rfl (fun y => [some (.ref (q_ad G b)), some (.ref (q_ad G w0)), some (.int y)]) (fun _ => rfl) (fun x2_1 ex2_1 => ?_)
  replace ex2_1 := ex2_1.symm; subst ex2_1
  exact q_weak [true, true, true] rfl (sn_X1_holdsSameWaterAs_2 hX  b w0 hb hw0 (0 : Int32) Q  mem h)
set_option maxRecDepth 100000 in
set_option maxHeartbeats 4000000 in
theorem sn_X1_holdsSameWaterAs {l : Launch} {G : q_G} (b : Nat) (w0 : Nat) (hb : q_WB b) (hw0 : q_WB w0) (mem : q_Mem) (Q : Int32 → q_Mem → Prop) (h : wp_X1_holdsSameWaterAs b w0 mem Q) : q_MI l G yX1_holdsSameWaterAs cX1_holdsSameWaterAs 3 (some .boolean) rm_X1_holdsSameWaterAs [.ref (q_ad G b), .ref (q_ad G w0)] mem Q := by
  refine q_metI 1 (by decide +kernel) (Nat.le_of_ble_eq_true rfl) rfl (fun X hl hX => ?_)
  subst hl
  exact sn_X1_holdsSameWaterAs_0 hX b w0 hb hw0 Q mem h

-- X1_takeRain
def wp_X1_takeRain  (b : Nat) (a0 : Int32)  (mem : q_Mem) (Q : q_Mem → Prop) : Prop := wp_X1_freeRoom b (0 : Int32) mem (fun r_1 m_2 => ∀ x2_3 : Int32, x2_3 = (if r_1 < a0 then r_1 else a0) → vp_in (0 : Int32) (q_al (b + 9)) ∧ (vp_in (0 : Int32) (q_al (b + 9)) ∧ (∀ m_6 : q_Mem, m_6 = q_set m_2 (b + 9) (upd (m_2 (b + 9)) (0 : Int32).toNatClampNeg ((m_2 (b + 9) (0 : Int32).toNatClampNeg) + x2_3)) → vp_in (0 : Int32) (q_al (b + 13)) ∧ (vp_in (0 : Int32) (q_al (b + 13)) ∧ (∀ m_9 : q_Mem, m_9 = q_set m_6 (b + 13) (upd (m_6 (b + 13)) (0 : Int32).toNatClampNeg ((m_6 (b + 13) (0 : Int32).toNatClampNeg) + x2_3)) → vp_in (1 : Int32) (q_al (b + 13)) ∧ (vp_in (1 : Int32) (q_al (b + 13)) ∧ (∀ m_12 : q_Mem, m_12 = q_set m_9 (b + 13) (upd (m_9 (b + 13)) (1 : Int32).toNatClampNeg ((m_9 (b + 13) (1 : Int32).toNatClampNeg) + (a0 - x2_3))) → Q m_12)))))))
set_option maxRecDepth 100000 in
set_option maxHeartbeats 4000000 in
theorem sn_X1_takeRain_0 {X : q_X} {G : q_G} (hX : q_C X cX1_takeRain 3 RX1 none 2 42) (b : Nat) (a0 : Int32) (hb : q_WB b)  (Q : q_Mem → Prop)  (mem : q_Mem) (h : wp_X1_takeRain  b a0  mem Q) : q_J X G 3 (q_QV X G Q) 0 [some (.ref (q_ad G b)), some (.int a0), none] [] mem := by
  unfold wp_X1_takeRain at h
  refine q_iload_n hX rfl dX1_takeRain_0 1 rfl ?_
  refine q_aload_n hX rfl dX1_takeRain_1 2 rfl ?_
  refine q_iconst hX (0 : Int32) q_ki_0 dX1_takeRain_2 3 rfl ?_
  refine cl_X1_95 hX hb ⟨Nat.le_of_ble_eq_true rfl, Nat.le_of_ble_eq_true rfl⟩ (Nat.le_of_ble_eq_true rfl) dX1_takeRain_3 6 rfl (sn_X1_freeRoom b (0 : Int32) hb mem _ h) (fun r_1 m_2 h => ?_)
  refine q_min hX (Nat.le_of_ble_eq_true rfl) (Nat.le_of_ble_eq_true rfl) tw_268 tw_269 tw_64 tw_270 dX1_takeRain_6 9 rfl ?_
  refine q_istore_n hX dX1_takeRain_9 10 rfl (Nat.le_of_ble_eq_true rfl) rfl (fun y => [some (.ref (q_ad G b)), some (.int a0), some (.int y)]) (fun _ => rfl) (fun x2_3 ex2_3 => ?_)
  replace h := h x2_3 ex2_3
  refine q_aload_n hX rfl dX1_takeRain_10 11 rfl ?_
  refine gf_X1_29 hX hb dX1_takeRain_11 14 rfl ?_
  refine q_iconst hX (0 : Int32) q_ki_0 dX1_takeRain_14 15 rfl ?_
  refine q_dup2 hX rfl rfl dX1_takeRain_15 16 rfl ?_
  obtain ⟨g_4, h⟩ := h
  refine q_iald hX g_4 dX1_takeRain_16 17 rfl ?_
  refine q_iload_n hX rfl dX1_takeRain_17 18 rfl ?_
  refine q_iadd hX dX1_takeRain_18 19 rfl ?_
  obtain ⟨g_5, h⟩ := h
  refine q_iast hX g_5 dX1_takeRain_19 20 rfl (fun m_6 em_6 => ?_)
  replace h := h m_6 em_6
  refine q_aload_n hX rfl dX1_takeRain_20 21 rfl ?_
  refine gf_X1_41 hX hb dX1_takeRain_21 24 rfl ?_
  refine q_iconst hX (0 : Int32) q_ki_0 dX1_takeRain_24 25 rfl ?_
  refine q_dup2 hX rfl rfl dX1_takeRain_25 26 rfl ?_
  obtain ⟨g_7, h⟩ := h
  refine q_iald hX g_7 dX1_takeRain_26 27 rfl ?_
  refine q_iload_n hX rfl dX1_takeRain_27 28 rfl ?_
  refine q_iadd hX dX1_takeRain_28 29 rfl ?_
  obtain ⟨g_8, h⟩ := h
  refine q_iast hX g_8 dX1_takeRain_29 30 rfl (fun m_9 em_9 => ?_)
  replace h := h m_9 em_9
  refine q_aload_n hX rfl dX1_takeRain_30 31 rfl ?_
  refine gf_X1_41 hX hb dX1_takeRain_31 34 rfl ?_
  refine q_iconst hX (1 : Int32) q_ki_1 dX1_takeRain_34 35 rfl ?_
  refine q_dup2 hX rfl rfl dX1_takeRain_35 36 rfl ?_
  obtain ⟨g_10, h⟩ := h
  refine q_iald hX g_10 dX1_takeRain_36 37 rfl ?_
  refine q_iload_n hX rfl dX1_takeRain_37 38 rfl ?_
  refine q_iload_n hX rfl dX1_takeRain_38 39 rfl ?_
  refine q_isub hX dX1_takeRain_39 40 rfl ?_
  refine q_iadd hX dX1_takeRain_40 41 rfl ?_
  obtain ⟨g_11, h⟩ := h
  refine q_iast hX g_11 dX1_takeRain_41 42 rfl (fun m_12 em_12 => ?_)
  replace h := h m_12 em_12
  exact q_vret hX dX1_takeRain_42 h
set_option maxRecDepth 100000 in
set_option maxHeartbeats 4000000 in
theorem sn_X1_takeRain {l : Launch} {G : q_G} (b : Nat) (a0 : Int32) (hb : q_WB b) (mem : q_Mem) (Q : q_Mem → Prop) (h : wp_X1_takeRain b a0 mem Q) : q_MV l G yX1_takeRain cX1_takeRain 3 none rm_X1_takeRain [.ref (q_ad G b), .int a0] mem Q := by
  refine q_metV 1 (by decide +kernel) (Nat.le_of_ble_eq_true rfl) rfl (fun X hl hX => ?_)
  subst hl
  exact sn_X1_takeRain_0 hX b a0 hb Q mem h

-- X1_moveWater
def wp_X1_moveWater_16_b (K16 : Int32 → q_Mem → Prop) (b : Nat) (a0 : Nat) (a1 : Int32) (x3 : Int32) (mem : q_Mem) (Q : q_Mem → Prop) : Prop := (((mem b 11) < x3) → Q mem) ∧ ((¬ (mem b 11) < x3) → wp_X1_crossBorder b x3 a0 mem (fun m_3 => ∀ x3_4 : Int32, x3_4 = (x3 + (1 : Int32)) → K16 x3_4 m_3))
def wp_X1_moveWater_16  (b : Nat) (a0 : Nat) (a1 : Int32) (x3 : Int32) (mem : q_Mem) (Q : q_Mem → Prop) : Prop := ∃ I : Nat → Int32 → q_Mem → Prop, (∃ n, I n x3 mem) ∧ ∀ (n : Nat) (yx3 : Int32) (ymem : q_Mem), I n yx3 ymem → wp_X1_moveWater_16_b  (fun (zx3 : Int32) (zmem : q_Mem) => ∃ n2, n2 < n ∧ I n2 zx3 zmem) b a0 a1 yx3 ymem Q
def wp_X1_moveWater  (b : Nat) (a0 : Nat) (a1 : Int32)  (mem : q_Mem) (Q : q_Mem → Prop) : Prop := vp_in (2 : Int32) (q_al a0) ∧ (wp_X2_partDown ((mem a0 (2 : Int32).toNatClampNeg) * a1) (10 : Int32) mem (fun r_2 m_3 => wp_X1_takeRain b r_2 m_3 (fun m_5 => wp_X1_moveWater_16  b a0 a1 (0 : Int32) m_5 Q)))
set_option maxRecDepth 100000 in
set_option maxHeartbeats 4000000 in
theorem sn_X1_moveWater_16_b {X : q_X} {G : q_G} (hX : q_C X cX1_moveWater 4 RX1 none 3 71) (b : Nat) (a0 : Nat) (a1 : Int32) (hb : q_WB b) (x3 : Int32) (Q : q_Mem → Prop) (K16 : Int32 → q_Mem → Prop) (hK16 : ∀ (yx3 : Int32) (ymem : q_Mem), K16 yx3 ymem → q_J X G 4 (q_QV X G Q) 16 [some (.ref (q_ad G b)), some (.ref (q_ad G a0)), some (.int a1), some (.int yx3)] [] ymem) (mem : q_Mem) (h : wp_X1_moveWater_16_b K16 b a0 a1 x3 mem Q) : q_J X G 4 (q_QV X G Q) 16 [some (.ref (q_ad G b)), some (.ref (q_ad G a0)), some (.int a1), some (.int x3)] [] mem := by
  unfold wp_X1_moveWater_16_b at h
  refine q_iload_n hX rfl dX1_moveWater_16 17 rfl ?_
  refine q_aload_n hX rfl dX1_moveWater_17 18 rfl ?_
  refine gf_X1_47 hX hb dX1_moveWater_18 21 rfl ?_
  refine q_icmp_gt hX dX1_moveWater_21 24 36 rfl (by decide) (fun c_1 => ?_) (fun c_1 => ?_)
  · replace h := h.1 c_1
    exact q_vret hX dX1_moveWater_36 h
  · replace h := h.2 c_1
    refine q_aload_n hX rfl dX1_moveWater_24 25 rfl ?_
    refine q_iload_n hX rfl dX1_moveWater_25 26 rfl ?_
    refine q_aload_n hX rfl dX1_moveWater_26 27 rfl ?_
    refine cl_X1_91 hX hb ⟨Nat.le_of_ble_eq_true rfl, Nat.le_of_ble_eq_true rfl⟩ (Nat.le_of_ble_eq_true rfl) dX1_moveWater_27 30 rfl (sn_X1_crossBorder b x3 a0 hb mem _ h) (fun m_3 h => ?_)
    refine q_iinc hX (1 : Int32) q_ki_1 rfl dX1_moveWater_30 33 rfl (Nat.le_of_ble_eq_true rfl) rfl (fun y => [some (.ref (q_ad G b)), some (.ref (q_ad G a0)), some (.int a1), some (.int y)]) (fun _ => rfl) (fun x3_4 ex3_4 => ?_)
    replace h := h x3_4 ex3_4
    refine q_goto hX dX1_moveWater_33 16 (by decide) ?_
    exact q_weak [true, true, true, true] rfl (hK16 x3_4 m_3 h)
set_option maxRecDepth 100000 in
set_option maxHeartbeats 4000000 in
theorem sn_X1_moveWater_16 {X : q_X} {G : q_G} (hX : q_C X cX1_moveWater 4 RX1 none 3 71) (b : Nat) (a0 : Nat) (a1 : Int32) (hb : q_WB b) (x3 : Int32) (Q : q_Mem → Prop)  (mem : q_Mem) (h : wp_X1_moveWater_16  b a0 a1 x3 mem Q) : q_J X G 4 (q_QV X G Q) 16 [some (.ref (q_ad G b)), some (.ref (q_ad G a0)), some (.int a1), some (.int x3)] [] mem := by
  obtain ⟨I, ⟨n, h0⟩, hs⟩ := h
  have key : ∀ (n : Nat) (yx3 : Int32) (ymem : q_Mem), I n yx3 ymem → q_J X G 4 (q_QV X G Q) 16 [some (.ref (q_ad G b)), some (.ref (q_ad G a0)), some (.int a1), some (.int yx3)] [] ymem := by
    intro n
    induction n using Nat.strongRecOn with
    | ind n ih =>
      intro yx3 ymem hI
      exact sn_X1_moveWater_16_b hX  b a0 a1 hb yx3 Q  (fun (zx3 : Int32) (zmem : q_Mem) => ∃ n2, n2 < n ∧ I n2 zx3 zmem) (fun zx3 zmem hz => by obtain ⟨n2, h1, h2⟩ := hz; exact ih n2 h1 zx3 zmem h2) ymem (hs n yx3 ymem hI)
  exact key n x3 mem h0
set_option maxRecDepth 100000 in
set_option maxHeartbeats 4000000 in
theorem sn_X1_moveWater_0 {X : q_X} {G : q_G} (hX : q_C X cX1_moveWater 4 RX1 none 3 71) (b : Nat) (a0 : Nat) (a1 : Int32) (hb : q_WB b)  (Q : q_Mem → Prop)  (mem : q_Mem) (h : wp_X1_moveWater  b a0 a1  mem Q) : q_J X G 4 (q_QV X G Q) 0 [some (.ref (q_ad G b)), some (.ref (q_ad G a0)), some (.int a1), none] [] mem := by
  unfold wp_X1_moveWater at h
  refine q_aload_n hX rfl dX1_moveWater_0 1 rfl ?_
  refine q_aload_n hX rfl dX1_moveWater_1 2 rfl ?_
  refine q_iconst hX (2 : Int32) q_ki_2 dX1_moveWater_2 3 rfl ?_
  obtain ⟨g_1, h⟩ := h
  refine q_iald hX g_1 dX1_moveWater_3 4 rfl ?_
  refine q_iload_n hX rfl dX1_moveWater_4 5 rfl ?_
  refine q_imul hX dX1_moveWater_5 6 rfl ?_
  refine q_bipush hX (10 : Int32) q_kb_10 dX1_moveWater_6 8 rfl ?_
  refine cl_X1_75 hX  ⟨Nat.le_of_ble_eq_true rfl, Nat.le_of_ble_eq_true rfl⟩ (Nat.le_of_ble_eq_true rfl) dX1_moveWater_8 11 rfl (sn_X2_partDown ((mem a0 (2 : Int32).toNatClampNeg) * a1) (10 : Int32)  mem _ h) (fun r_2 m_3 h => ?_)
  refine cl_X1_87 hX hb ⟨Nat.le_of_ble_eq_true rfl, Nat.le_of_ble_eq_true rfl⟩ (Nat.le_of_ble_eq_true rfl) dX1_moveWater_11 14 rfl (sn_X1_takeRain b r_2 hb m_3 _ h) (fun m_5 h => ?_)
  refine q_iconst hX (0 : Int32) q_ki_0 dX1_moveWater_14 15 rfl ?_
  refine q_istore_n hX dX1_moveWater_15 16 rfl (Nat.le_of_ble_eq_true rfl) rfl (fun y => [some (.ref (q_ad G b)), some (.ref (q_ad G a0)), some (.int a1), some (.int y)]) (fun _ => rfl) (fun x3_6 ex3_6 => ?_)
  replace ex3_6 := ex3_6.symm; subst ex3_6
  exact q_weak [true, true, true, true] rfl (sn_X1_moveWater_16 hX  b a0 a1 hb (0 : Int32) Q  m_5 h)
set_option maxRecDepth 100000 in
set_option maxHeartbeats 4000000 in
theorem sn_X1_moveWater {l : Launch} {G : q_G} (b : Nat) (a0 : Nat) (a1 : Int32) (hb : q_WB b) (mem : q_Mem) (Q : q_Mem → Prop) (h : wp_X1_moveWater b a0 a1 mem Q) : q_MV l G yX1_moveWater cX1_moveWater 4 none rm_X1_moveWater [.ref (q_ad G b), .ref (q_ad G a0), .int a1] mem Q := by
  refine q_metV 1 (by decide +kernel) (Nat.le_of_ble_eq_true rfl) rfl (fun X hl hX => ?_)
  subst hl
  exact sn_X1_moveWater_0 hX b a0 a1 hb Q mem h

-- X1_letHourPass
def wp_X1_letHourPass  (b : Nat) (a0 : Nat) (a1 : Int32)  (mem : q_Mem) (Q : q_Mem → Prop) : Prop := wp_X1_moveWater b a0 a1 mem (fun m_2 => vp_in (1 : Int32) (q_al a0) ∧ (vp_in (4 : Int32) (q_al a0) ∧ (wp_X1_feelWarmth b (m_2 a0 (1 : Int32).toNatClampNeg) (m_2 a0 (4 : Int32).toNatClampNeg) m_2 (fun m_6 => Q m_6))))
set_option maxRecDepth 100000 in
set_option maxHeartbeats 4000000 in
theorem sn_X1_letHourPass_0 {X : q_X} {G : q_G} (hX : q_C X cX1_letHourPass 3 RX1 none 4 94) (b : Nat) (a0 : Nat) (a1 : Int32) (hb : q_WB b)  (Q : q_Mem → Prop)  (mem : q_Mem) (h : wp_X1_letHourPass  b a0 a1  mem Q) : q_J X G 3 (q_QV X G Q) 0 [some (.ref (q_ad G b)), some (.ref (q_ad G a0)), some (.int a1)] [] mem := by
  unfold wp_X1_letHourPass at h
  refine q_aload_n hX rfl dX1_letHourPass_0 1 rfl ?_
  refine q_aload_n hX rfl dX1_letHourPass_1 2 rfl ?_
  refine q_iload_n hX rfl dX1_letHourPass_2 3 rfl ?_
  refine cl_X1_79 hX hb ⟨Nat.le_of_ble_eq_true rfl, Nat.le_of_ble_eq_true rfl⟩ (Nat.le_of_ble_eq_true rfl) dX1_letHourPass_3 6 rfl (sn_X1_moveWater b a0 a1 hb mem _ h) (fun m_2 h => ?_)
  refine q_aload_n hX rfl dX1_letHourPass_6 7 rfl ?_
  refine q_aload_n hX rfl dX1_letHourPass_7 8 rfl ?_
  refine q_iconst hX (1 : Int32) q_ki_1 dX1_letHourPass_8 9 rfl ?_
  obtain ⟨g_3, h⟩ := h
  refine q_iald hX g_3 dX1_letHourPass_9 10 rfl ?_
  refine q_aload_n hX rfl dX1_letHourPass_10 11 rfl ?_
  refine q_iconst hX (4 : Int32) q_ki_4 dX1_letHourPass_11 12 rfl ?_
  obtain ⟨g_4, h⟩ := h
  refine q_iald hX g_4 dX1_letHourPass_12 13 rfl ?_
  refine cl_X1_83 hX hb ⟨Nat.le_of_ble_eq_true rfl, Nat.le_of_ble_eq_true rfl⟩ (Nat.le_of_ble_eq_true rfl) dX1_letHourPass_13 16 rfl (sn_X1_feelWarmth b (m_2 a0 (1 : Int32).toNatClampNeg) (m_2 a0 (4 : Int32).toNatClampNeg) hb m_2 _ h) (fun m_6 h => ?_)
  exact q_vret hX dX1_letHourPass_16 h
set_option maxRecDepth 100000 in
set_option maxHeartbeats 4000000 in
theorem sn_X1_letHourPass {l : Launch} {G : q_G} (b : Nat) (a0 : Nat) (a1 : Int32) (hb : q_WB b) (mem : q_Mem) (Q : q_Mem → Prop) (h : wp_X1_letHourPass b a0 a1 mem Q) : q_MV l G yX1_letHourPass cX1_letHourPass 3 none rm_X1_letHourPass [.ref (q_ad G b), .ref (q_ad G a0), .int a1] mem Q := by
  refine q_metV 0 (by decide +kernel) (Nat.le_of_ble_eq_true rfl) rfl (fun X hl hX => ?_)
  subst hl
  exact sn_X1_letHourPass_0 hX b a0 a1 hb Q mem h

-- X1_reorder
def wp_X1_reorder_42 (K10 : Int32 → q_Mem → Prop) (b : Nat) (a0 : Nat) (a1 : Nat) (x3 : Int32) (mem : q_Mem) (Q : q_Mem → Prop) : Prop := ∀ x3_1 : Int32, x3_1 = (x3 + (1 : Int32)) → K10 x3_1 mem
def wp_X1_reorder_10_b (K10 : Int32 → q_Mem → Prop) (b : Nat) (a0 : Nat) (a1 : Nat) (x3 : Int32) (mem : q_Mem) (Q : q_Mem → Prop) : Prop := (((mem b 11) ≤ x3) → Q mem) ∧ ((¬ (mem b 11) ≤ x3) → vp_in x3 (q_al a1) ∧ (∀ x4_3 : Int32, x4_3 = (mem a1 x3.toNatClampNeg) → wp_X1_has b x4_3 mem (fun r_4 m_5 => ((r_4 = 0) → wp_X1_reorder_42 K10 b a0 a1 x3 m_5 Q) ∧ ((¬ r_4 = 0) → vp_in x4_3 (q_al (b + 14)) ∧ (vp_in x3 (q_al a0) ∧ (∀ m_9 : q_Mem, m_9 = q_set m_5 a0 (upd (m_5 a0) x3.toNatClampNeg (m_5 (b + 14) x4_3.toNatClampNeg)) → wp_X1_reorder_42 K10 b a0 a1 x3 m_9 Q))))))
def wp_X1_reorder_10  (b : Nat) (a0 : Nat) (a1 : Nat) (x3 : Int32) (mem : q_Mem) (Q : q_Mem → Prop) : Prop := ∃ I : Nat → Int32 → q_Mem → Prop, (∃ n, I n x3 mem) ∧ ∀ (n : Nat) (yx3 : Int32) (ymem : q_Mem), I n yx3 ymem → wp_X1_reorder_10_b  (fun (zx3 : Int32) (zmem : q_Mem) => ∃ n2, n2 < n ∧ I n2 zx3 zmem) b a0 a1 yx3 ymem Q
def wp_X1_reorder  (b : Nat) (a0 : Nat) (a1 : Nat)  (mem : q_Mem) (Q : q_Mem → Prop) : Prop := wp_X1_copyRow a0 (b + 14) mem (fun m_2 => wp_X1_reorder_10  b a0 a1 (0 : Int32) m_2 Q)
set_option maxRecDepth 100000 in
set_option maxHeartbeats 4000000 in
theorem sn_X1_reorder_42 {X : q_X} {G : q_G} (hX : q_C X cX1_reorder 5 RX1 none 2 47) (b : Nat) (a0 : Nat) (a1 : Nat) (hb : q_WB b) (x3 : Int32) (Q : q_Mem → Prop) (K10 : Int32 → q_Mem → Prop) (hK10 : ∀ (yx3 : Int32) (ymem : q_Mem), K10 yx3 ymem → q_J X G 5 (q_QV X G Q) 10 [some (.ref (q_ad G b)), some (.ref (q_ad G a0)), some (.ref (q_ad G a1)), some (.int yx3), none] [] ymem) (mem : q_Mem) (h : wp_X1_reorder_42 K10 b a0 a1 x3 mem Q) : q_J X G 5 (q_QV X G Q) 42 [some (.ref (q_ad G b)), some (.ref (q_ad G a0)), some (.ref (q_ad G a1)), some (.int x3), none] [] mem := by
  unfold wp_X1_reorder_42 at h
  refine q_iinc hX (1 : Int32) q_ki_1 rfl dX1_reorder_42 45 rfl (Nat.le_of_ble_eq_true rfl) rfl (fun y => [some (.ref (q_ad G b)), some (.ref (q_ad G a0)), some (.ref (q_ad G a1)), some (.int y), none]) (fun _ => rfl) (fun x3_1 ex3_1 => ?_)
  replace h := h x3_1 ex3_1
  refine q_goto hX dX1_reorder_45 10 (by decide) ?_
  exact q_weak [true, true, true, true, false] rfl (hK10 x3_1 mem h)
set_option maxRecDepth 100000 in
set_option maxHeartbeats 4000000 in
theorem sn_X1_reorder_10_b {X : q_X} {G : q_G} (hX : q_C X cX1_reorder 5 RX1 none 2 47) (b : Nat) (a0 : Nat) (a1 : Nat) (hb : q_WB b) (x3 : Int32) (Q : q_Mem → Prop) (K10 : Int32 → q_Mem → Prop) (hK10 : ∀ (yx3 : Int32) (ymem : q_Mem), K10 yx3 ymem → q_J X G 5 (q_QV X G Q) 10 [some (.ref (q_ad G b)), some (.ref (q_ad G a0)), some (.ref (q_ad G a1)), some (.int yx3), none] [] ymem) (mem : q_Mem) (h : wp_X1_reorder_10_b K10 b a0 a1 x3 mem Q) : q_J X G 5 (q_QV X G Q) 10 [some (.ref (q_ad G b)), some (.ref (q_ad G a0)), some (.ref (q_ad G a1)), some (.int x3), none] [] mem := by
  unfold wp_X1_reorder_10_b at h
  refine q_iload_n hX rfl dX1_reorder_10 11 rfl ?_
  refine q_aload_n hX rfl dX1_reorder_11 12 rfl ?_
  refine gf_X1_47 hX hb dX1_reorder_12 15 rfl ?_
  refine q_icmp_ge hX dX1_reorder_15 18 48 rfl (by decide) (fun c_1 => ?_) (fun c_1 => ?_)
  · replace h := h.1 c_1
    exact q_vret hX dX1_reorder_48 h
  · replace h := h.2 c_1
    refine q_aload_n hX rfl dX1_reorder_18 19 rfl ?_
    refine q_iload_n hX rfl dX1_reorder_19 20 rfl ?_
    obtain ⟨g_2, h⟩ := h
    refine q_iald hX g_2 dX1_reorder_20 21 rfl ?_
    refine q_istore hX dX1_reorder_21 23 rfl (Nat.le_of_ble_eq_true rfl) rfl (fun y => [some (.ref (q_ad G b)), some (.ref (q_ad G a0)), some (.ref (q_ad G a1)), some (.int x3), some (.int y)]) (fun _ => rfl) (fun x4_3 ex4_3 => ?_)
    replace h := h x4_3 ex4_3
    refine q_aload_n hX rfl dX1_reorder_23 24 rfl ?_
    refine q_iload hX rfl dX1_reorder_24 26 rfl ?_
    refine cl_X1_67 hX hb ⟨Nat.le_of_ble_eq_true rfl, Nat.le_of_ble_eq_true rfl⟩ (Nat.le_of_ble_eq_true rfl) dX1_reorder_26 29 rfl (sn_X1_has b x4_3 hb mem _ h) (fun r_4 m_5 h => ?_)
    refine q_if_eq hX dX1_reorder_29 32 42 rfl (by decide) (fun c_6 => ?_) (fun c_6 => ?_)
    · replace h := h.1 c_6
      exact q_weak [true, true, true, true, false] rfl (sn_X1_reorder_42 hX  b a0 a1 hb x3 Q K10 hK10 m_5 h)
    · replace h := h.2 c_6
      refine q_aload_n hX rfl dX1_reorder_32 33 rfl ?_
      refine q_iload_n hX rfl dX1_reorder_33 34 rfl ?_
      refine q_aload_n hX rfl dX1_reorder_34 35 rfl ?_
      refine gf_X1_44 hX hb dX1_reorder_35 38 rfl ?_
      refine q_iload hX rfl dX1_reorder_38 40 rfl ?_
      obtain ⟨g_7, h⟩ := h
      refine q_iald hX g_7 dX1_reorder_40 41 rfl ?_
      obtain ⟨g_8, h⟩ := h
      refine q_iast hX g_8 dX1_reorder_41 42 rfl (fun m_9 em_9 => ?_)
      replace h := h m_9 em_9
      exact q_weak [true, true, true, true, false] rfl (sn_X1_reorder_42 hX  b a0 a1 hb x3 Q K10 hK10 m_9 h)
set_option maxRecDepth 100000 in
set_option maxHeartbeats 4000000 in
theorem sn_X1_reorder_10 {X : q_X} {G : q_G} (hX : q_C X cX1_reorder 5 RX1 none 2 47) (b : Nat) (a0 : Nat) (a1 : Nat) (hb : q_WB b) (x3 : Int32) (Q : q_Mem → Prop)  (mem : q_Mem) (h : wp_X1_reorder_10  b a0 a1 x3 mem Q) : q_J X G 5 (q_QV X G Q) 10 [some (.ref (q_ad G b)), some (.ref (q_ad G a0)), some (.ref (q_ad G a1)), some (.int x3), none] [] mem := by
  obtain ⟨I, ⟨n, h0⟩, hs⟩ := h
  have key : ∀ (n : Nat) (yx3 : Int32) (ymem : q_Mem), I n yx3 ymem → q_J X G 5 (q_QV X G Q) 10 [some (.ref (q_ad G b)), some (.ref (q_ad G a0)), some (.ref (q_ad G a1)), some (.int yx3), none] [] ymem := by
    intro n
    induction n using Nat.strongRecOn with
    | ind n ih =>
      intro yx3 ymem hI
      exact sn_X1_reorder_10_b hX  b a0 a1 hb yx3 Q  (fun (zx3 : Int32) (zmem : q_Mem) => ∃ n2, n2 < n ∧ I n2 zx3 zmem) (fun zx3 zmem hz => by obtain ⟨n2, h1, h2⟩ := hz; exact ih n2 h1 zx3 zmem h2) ymem (hs n yx3 ymem hI)
  exact key n x3 mem h0
set_option maxRecDepth 100000 in
set_option maxHeartbeats 4000000 in
theorem sn_X1_reorder_0 {X : q_X} {G : q_G} (hX : q_C X cX1_reorder 5 RX1 none 2 47) (b : Nat) (a0 : Nat) (a1 : Nat) (hb : q_WB b)  (Q : q_Mem → Prop)  (mem : q_Mem) (h : wp_X1_reorder  b a0 a1  mem Q) : q_J X G 5 (q_QV X G Q) 0 [some (.ref (q_ad G b)), some (.ref (q_ad G a0)), some (.ref (q_ad G a1)), none, none] [] mem := by
  unfold wp_X1_reorder at h
  refine q_aload_n hX rfl dX1_reorder_0 1 rfl ?_
  refine q_aload_n hX rfl dX1_reorder_1 2 rfl ?_
  refine gf_X1_44 hX hb dX1_reorder_2 5 rfl ?_
  refine cl_X1_60 hX  ⟨Nat.le_of_ble_eq_true rfl, Nat.le_of_ble_eq_true rfl⟩ (Nat.le_of_ble_eq_true rfl) dX1_reorder_5 8 rfl (sn_X1_copyRow a0 (b + 14)  mem _ h) (fun m_2 h => ?_)
  refine q_iconst hX (0 : Int32) q_ki_0 dX1_reorder_8 9 rfl ?_
  refine q_istore_n hX dX1_reorder_9 10 rfl (Nat.le_of_ble_eq_true rfl) rfl (fun y => [some (.ref (q_ad G b)), some (.ref (q_ad G a0)), some (.ref (q_ad G a1)), some (.int y), none]) (fun _ => rfl) (fun x3_3 ex3_3 => ?_)
  replace ex3_3 := ex3_3.symm; subst ex3_3
  exact q_weak [true, true, true, true, false] rfl (sn_X1_reorder_10 hX  b a0 a1 hb (0 : Int32) Q  m_2 h)
set_option maxRecDepth 100000 in
set_option maxHeartbeats 4000000 in
theorem sn_X1_reorder {l : Launch} {G : q_G} (b : Nat) (a0 : Nat) (a1 : Nat) (hb : q_WB b) (mem : q_Mem) (Q : q_Mem → Prop) (h : wp_X1_reorder b a0 a1 mem Q) : q_MV l G yX1_reorder cX1_reorder 5 none rm_X1_reorder [.ref (q_ad G b), .ref (q_ad G a0), .ref (q_ad G a1)] mem Q := by
  refine q_metV 2 (by decide +kernel) (Nat.le_of_ble_eq_true rfl) rfl (fun X hl hX => ?_)
  subst hl
  exact sn_X1_reorder_0 hX b a0 a1 hb Q mem h

-- X1_standInOrder
def wp_X1_standInOrder  (b : Nat) (a0 : Nat)  (mem : q_Mem) (Q : q_Mem → Prop) : Prop := wp_X1_reorder b (b + 5) a0 mem (fun m_2 => wp_X1_reorder b (b + 6) a0 m_2 (fun m_4 => wp_X1_reorder b (b + 7) a0 m_4 (fun m_6 => wp_X1_reorder b (b + 8) a0 m_6 (fun m_8 => wp_X1_reorder b (b + 9) a0 m_8 (fun m_10 => wp_X1_reorder b (b + 10) a0 m_10 (fun m_12 => wp_X1_reorder b (b + 11) a0 m_12 (fun m_14 => wp_X1_reorder b (b + 12) a0 m_14 (fun m_16 => Q m_16))))))))
set_option maxRecDepth 100000 in
set_option maxHeartbeats 4000000 in
theorem sn_X1_standInOrder_0 {X : q_X} {G : q_G} (hX : q_C X cX1_standInOrder 2 RX1 none 3 71) (b : Nat) (a0 : Nat) (hb : q_WB b)  (Q : q_Mem → Prop)  (mem : q_Mem) (h : wp_X1_standInOrder  b a0  mem Q) : q_J X G 2 (q_QV X G Q) 0 [some (.ref (q_ad G b)), some (.ref (q_ad G a0))] [] mem := by
  unfold wp_X1_standInOrder at h
  refine q_aload_n hX rfl dX1_standInOrder_0 1 rfl ?_
  refine q_aload_n hX rfl dX1_standInOrder_1 2 rfl ?_
  refine gf_X1_16 hX hb dX1_standInOrder_2 5 rfl ?_
  refine q_aload_n hX rfl dX1_standInOrder_5 6 rfl ?_
  refine cl_X1_64 hX hb ⟨Nat.le_of_ble_eq_true rfl, Nat.le_of_ble_eq_true rfl⟩ (Nat.le_of_ble_eq_true rfl) dX1_standInOrder_6 9 rfl (sn_X1_reorder b (b + 5) a0 hb mem _ h) (fun m_2 h => ?_)
  refine q_aload_n hX rfl dX1_standInOrder_9 10 rfl ?_
  refine q_aload_n hX rfl dX1_standInOrder_10 11 rfl ?_
  refine gf_X1_20 hX hb dX1_standInOrder_11 14 rfl ?_
  refine q_aload_n hX rfl dX1_standInOrder_14 15 rfl ?_
  refine cl_X1_64 hX hb ⟨Nat.le_of_ble_eq_true rfl, Nat.le_of_ble_eq_true rfl⟩ (Nat.le_of_ble_eq_true rfl) dX1_standInOrder_15 18 rfl (sn_X1_reorder b (b + 6) a0 hb m_2 _ h) (fun m_4 h => ?_)
  refine q_aload_n hX rfl dX1_standInOrder_18 19 rfl ?_
  refine q_aload_n hX rfl dX1_standInOrder_19 20 rfl ?_
  refine gf_X1_23 hX hb dX1_standInOrder_20 23 rfl ?_
  refine q_aload_n hX rfl dX1_standInOrder_23 24 rfl ?_
  refine cl_X1_64 hX hb ⟨Nat.le_of_ble_eq_true rfl, Nat.le_of_ble_eq_true rfl⟩ (Nat.le_of_ble_eq_true rfl) dX1_standInOrder_24 27 rfl (sn_X1_reorder b (b + 7) a0 hb m_4 _ h) (fun m_6 h => ?_)
  refine q_aload_n hX rfl dX1_standInOrder_27 28 rfl ?_
  refine q_aload_n hX rfl dX1_standInOrder_28 29 rfl ?_
  refine gf_X1_26 hX hb dX1_standInOrder_29 32 rfl ?_
  refine q_aload_n hX rfl dX1_standInOrder_32 33 rfl ?_
  refine cl_X1_64 hX hb ⟨Nat.le_of_ble_eq_true rfl, Nat.le_of_ble_eq_true rfl⟩ (Nat.le_of_ble_eq_true rfl) dX1_standInOrder_33 36 rfl (sn_X1_reorder b (b + 8) a0 hb m_6 _ h) (fun m_8 h => ?_)
  refine q_aload_n hX rfl dX1_standInOrder_36 37 rfl ?_
  refine q_aload_n hX rfl dX1_standInOrder_37 38 rfl ?_
  refine gf_X1_29 hX hb dX1_standInOrder_38 41 rfl ?_
  refine q_aload_n hX rfl dX1_standInOrder_41 42 rfl ?_
  refine cl_X1_64 hX hb ⟨Nat.le_of_ble_eq_true rfl, Nat.le_of_ble_eq_true rfl⟩ (Nat.le_of_ble_eq_true rfl) dX1_standInOrder_42 45 rfl (sn_X1_reorder b (b + 9) a0 hb m_8 _ h) (fun m_10 h => ?_)
  refine q_aload_n hX rfl dX1_standInOrder_45 46 rfl ?_
  refine q_aload_n hX rfl dX1_standInOrder_46 47 rfl ?_
  refine gf_X1_32 hX hb dX1_standInOrder_47 50 rfl ?_
  refine q_aload_n hX rfl dX1_standInOrder_50 51 rfl ?_
  refine cl_X1_64 hX hb ⟨Nat.le_of_ble_eq_true rfl, Nat.le_of_ble_eq_true rfl⟩ (Nat.le_of_ble_eq_true rfl) dX1_standInOrder_51 54 rfl (sn_X1_reorder b (b + 10) a0 hb m_10 _ h) (fun m_12 h => ?_)
  refine q_aload_n hX rfl dX1_standInOrder_54 55 rfl ?_
  refine q_aload_n hX rfl dX1_standInOrder_55 56 rfl ?_
  refine gf_X1_35 hX hb dX1_standInOrder_56 59 rfl ?_
  refine q_aload_n hX rfl dX1_standInOrder_59 60 rfl ?_
  refine cl_X1_64 hX hb ⟨Nat.le_of_ble_eq_true rfl, Nat.le_of_ble_eq_true rfl⟩ (Nat.le_of_ble_eq_true rfl) dX1_standInOrder_60 63 rfl (sn_X1_reorder b (b + 11) a0 hb m_12 _ h) (fun m_14 h => ?_)
  refine q_aload_n hX rfl dX1_standInOrder_63 64 rfl ?_
  refine q_aload_n hX rfl dX1_standInOrder_64 65 rfl ?_
  refine gf_X1_38 hX hb dX1_standInOrder_65 68 rfl ?_
  refine q_aload_n hX rfl dX1_standInOrder_68 69 rfl ?_
  refine cl_X1_64 hX hb ⟨Nat.le_of_ble_eq_true rfl, Nat.le_of_ble_eq_true rfl⟩ (Nat.le_of_ble_eq_true rfl) dX1_standInOrder_69 72 rfl (sn_X1_reorder b (b + 12) a0 hb m_14 _ h) (fun m_16 h => ?_)
  exact q_vret hX dX1_standInOrder_72 h
set_option maxRecDepth 100000 in
set_option maxHeartbeats 4000000 in
theorem sn_X1_standInOrder {l : Launch} {G : q_G} (b : Nat) (a0 : Nat) (hb : q_WB b) (mem : q_Mem) (Q : q_Mem → Prop) (h : wp_X1_standInOrder b a0 mem Q) : q_MV l G yX1_standInOrder cX1_standInOrder 2 none rm_X1_standInOrder [.ref (q_ad G b), .ref (q_ad G a0)] mem Q := by
  refine q_metV 0 (by decide +kernel) (Nat.le_of_ble_eq_true rfl) rfl (fun X hl hX => ?_)
  subst hl
  exact sn_X1_standInOrder_0 hX b a0 hb Q mem h

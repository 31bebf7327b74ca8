-- X0_bestBehind
def wp_X0_bestBehind_70  (a0 : Int32) (a1 : Int32) (x3 : Int32) (mem : q_Mem) (Q : Int32 → q_Mem → Prop) : Prop := Q x3 mem
def wp_X0_bestBehind_64 (K5 : Int32 → Int32 → q_Mem → Prop) (a0 : Int32) (a1 : Int32) (x3 : Int32) (x4 : Int32) (mem : q_Mem) (Q : Int32 → q_Mem → Prop) : Prop := ∀ x4_1 : Int32, x4_1 = (x4 + (1 : Int32)) → K5 x3 x4_1 mem
def wp_X0_bestBehind_61 (K5 : Int32 → Int32 → q_Mem → Prop) (a0 : Int32) (a1 : Int32) (x4 : Int32) (mem : q_Mem) (Q : Int32 → q_Mem → Prop) : Prop := wp_X0_bestBehind_64 K5 a0 a1 x4 x4 mem Q
def wp_X0_bestBehind_25 (K5 : Int32 → Int32 → q_Mem → Prop) (a0 : Int32) (a1 : Int32) (x3 : Int32) (x4 : Int32) (s1 : Int32) (mem : q_Mem) (Q : Int32 → q_Mem → Prop) : Prop := ((s1 = 0) → wp_X0_bestBehind_64 K5 a0 a1 x3 x4 mem Q) ∧ ((¬ s1 = 0) → ((x3 = (-1 : Int32)) → wp_X0_bestBehind_61 K5 a0 a1 x4 mem Q) ∧ ((¬ x3 = (-1 : Int32)) → vp_in (a0 ||| ((1 : Int32) <<< (x4 &&& 31))) (q_al 32) ∧ (vp_in (a0 ||| ((1 : Int32) <<< (x3 &&& 31))) (q_al 32) ∧ ((((mem 32 (a0 ||| ((1 : Int32) <<< (x3 &&& 31))).toNatClampNeg) ≤ (mem 32 (a0 ||| ((1 : Int32) <<< (x4 &&& 31))).toNatClampNeg)) → wp_X0_bestBehind_64 K5 a0 a1 x3 x4 mem Q) ∧ ((¬ (mem 32 (a0 ||| ((1 : Int32) <<< (x3 &&& 31))).toNatClampNeg) ≤ (mem 32 (a0 ||| ((1 : Int32) <<< (x4 &&& 31))).toNatClampNeg)) → wp_X0_bestBehind_61 K5 a0 a1 x4 mem Q)))))
def wp_X0_bestBehind_5_b (K5 : Int32 → Int32 → q_Mem → Prop) (a0 : Int32) (a1 : Int32) (x3 : Int32) (x4 : Int32) (mem : q_Mem) (Q : Int32 → q_Mem → Prop) : Prop := ((a1 ≤ x4) → wp_X0_bestBehind_70  a0 a1 x3 mem Q) ∧ ((¬ a1 ≤ x4) → ((¬ (a0 &&& ((1 : Int32) <<< (x4 &&& 31))) = 0) → wp_X0_bestBehind_25 K5 a0 a1 x3 x4 (0 : Int32) mem Q) ∧ (((a0 &&& ((1 : Int32) <<< (x4 &&& 31))) = 0) → wp_X0_bestBehind_25 K5 a0 a1 x3 x4 (1 : Int32) mem Q))
def wp_X0_bestBehind_5  (a0 : Int32) (a1 : Int32) (x3 : Int32) (x4 : Int32) (mem : q_Mem) (Q : Int32 → q_Mem → Prop) : Prop := ∃ I : Nat → Int32 → Int32 → q_Mem → Prop, (∃ n, I n x3 x4 mem) ∧ ∀ (n : Nat) (yx3 : Int32) (yx4 : Int32) (ymem : q_Mem), I n yx3 yx4 ymem → wp_X0_bestBehind_5_b  (fun (zx3 : Int32) (zx4 : Int32) (zmem : q_Mem) => ∃ n2, n2 < n ∧ I n2 zx3 zx4 zmem) a0 a1 yx3 yx4 ymem Q
def wp_X0_bestBehind  (a0 : Int32) (a1 : Int32)  (mem : q_Mem) (Q : Int32 → q_Mem → Prop) : Prop := wp_X0_bestBehind_5  a0 a1 (-1 : Int32) (0 : Int32) mem Q
set_option maxRecDepth 100000 in
set_option maxHeartbeats 4000000 in
theorem sn_X0_bestBehind_70 {X : q_X} {G : q_G} (hX : q_C X cX0_bestBehind 6 RX0 (some .int) 0 0) (a0 : Int32) (a1 : Int32)  (x3 : Int32) (Q : Int32 → q_Mem → Prop)  (mem : q_Mem) (h : wp_X0_bestBehind_70  a0 a1 x3 mem Q) : q_J X G 6 (q_QI X G Q) 70 [some (.ref (q_ad G 31)), some (.int a0), some (.int a1), some (.int x3), none, none] [] mem := by
  unfold wp_X0_bestBehind_70 at h
  refine q_iload_n hX rfl dX0_bestBehind_70 71 rfl ?_
  exact q_iret hX dX0_bestBehind_71 h
set_option maxRecDepth 100000 in
set_option maxHeartbeats 4000000 in
theorem sn_X0_bestBehind_64 {X : q_X} {G : q_G} (hX : q_C X cX0_bestBehind 6 RX0 (some .int) 0 0) (a0 : Int32) (a1 : Int32)  (x3 : Int32) (x4 : Int32) (Q : Int32 → q_Mem → Prop) (K5 : Int32 → Int32 → q_Mem → Prop) (hK5 : ∀ (yx3 : Int32) (yx4 : Int32) (ymem : q_Mem), K5 yx3 yx4 ymem → q_J X G 6 (q_QI X G Q) 5 [some (.ref (q_ad G 31)), some (.int a0), some (.int a1), some (.int yx3), some (.int yx4), none] [] ymem) (mem : q_Mem) (h : wp_X0_bestBehind_64 K5 a0 a1 x3 x4 mem Q) : q_J X G 6 (q_QI X G Q) 64 [some (.ref (q_ad G 31)), some (.int a0), some (.int a1), some (.int x3), some (.int x4), none] [] mem := by
  unfold wp_X0_bestBehind_64 at h
  refine q_iinc hX (1 : Int32) q_ki_1 rfl dX0_bestBehind_64 67 rfl (Nat.le_of_ble_eq_true rfl) rfl (fun y => [some (.ref (q_ad G 31)), some (.int a0), some (.int a1), some (.int x3), some (.int y), none]) (fun _ => rfl) (fun x4_1 ex4_1 => ?_)
  replace h := h x4_1 ex4_1
  refine q_goto hX dX0_bestBehind_67 5 (by decide) ?_
  exact q_weak [true, true, true, true, true, false] rfl (hK5 x3 x4_1 mem h)
set_option maxRecDepth 100000 in
set_option maxHeartbeats 4000000 in
theorem sn_X0_bestBehind_61 {X : q_X} {G : q_G} (hX : q_C X cX0_bestBehind 6 RX0 (some .int) 0 0) (a0 : Int32) (a1 : Int32)  (x4 : Int32) (Q : Int32 → q_Mem → Prop) (K5 : Int32 → Int32 → q_Mem → Prop) (hK5 : ∀ (yx3 : Int32) (yx4 : Int32) (ymem : q_Mem), K5 yx3 yx4 ymem → q_J X G 6 (q_QI X G Q) 5 [some (.ref (q_ad G 31)), some (.int a0), some (.int a1), some (.int yx3), some (.int yx4), none] [] ymem) (mem : q_Mem) (h : wp_X0_bestBehind_61 K5 a0 a1 x4 mem Q) : q_J X G 6 (q_QI X G Q) 61 [some (.ref (q_ad G 31)), some (.int a0), some (.int a1), none, some (.int x4), none] [] mem := by
  unfold wp_X0_bestBehind_61 at h
  refine q_iload hX rfl dX0_bestBehind_61 63 rfl ?_
  refine q_istore_n hX dX0_bestBehind_63 64 rfl (Nat.le_of_ble_eq_true rfl) rfl (fun y => [some (.ref (q_ad G 31)), some (.int a0), some (.int a1), some (.int y), some (.int x4), none]) (fun _ => rfl) (fun x3_1 ex3_1 => ?_)
  replace ex3_1 := ex3_1.symm; subst ex3_1
  exact q_weak [true, true, true, true, true, false] rfl (sn_X0_bestBehind_64 hX  a0 a1  x4 x4 Q K5 hK5 mem h)
set_option maxRecDepth 100000 in
set_option maxHeartbeats 4000000 in
theorem sn_X0_bestBehind_25 {X : q_X} {G : q_G} (hX : q_C X cX0_bestBehind 6 RX0 (some .int) 0 0) (a0 : Int32) (a1 : Int32)  (x3 : Int32) (x4 : Int32) (s1 : Int32) (Q : Int32 → q_Mem → Prop) (K5 : Int32 → Int32 → q_Mem → Prop) (hK5 : ∀ (yx3 : Int32) (yx4 : Int32) (ymem : q_Mem), K5 yx3 yx4 ymem → q_J X G 6 (q_QI X G Q) 5 [some (.ref (q_ad G 31)), some (.int a0), some (.int a1), some (.int yx3), some (.int yx4), none] [] ymem) (mem : q_Mem) (h : wp_X0_bestBehind_25 K5 a0 a1 x3 x4 s1 mem Q) : q_J X G 6 (q_QI X G Q) 25 [some (.ref (q_ad G 31)), some (.int a0), some (.int a1), some (.int x3), some (.int x4), none] [.int s1] mem := by
  unfold wp_X0_bestBehind_25 at h
  refine q_istore hX dX0_bestBehind_25 27 rfl (Nat.le_of_ble_eq_true rfl) rfl (fun y => [some (.ref (q_ad G 31)), some (.int a0), some (.int a1), some (.int x3), some (.int x4), some (.int y)]) (fun _ => rfl) (fun x5_1 ex5_1 => ?_)
  replace ex5_1 := ex5_1.symm; subst ex5_1
  refine q_iload hX rfl dX0_bestBehind_27 29 rfl ?_
  refine q_if_eq hX dX0_bestBehind_29 32 64 rfl (by decide) (fun c_2 => ?_) (fun c_2 => ?_)
  · replace h := h.1 c_2
    exact q_weak [true, true, true, true, true, false] rfl (sn_X0_bestBehind_64 hX  a0 a1  x3 x4 Q K5 hK5 mem h)
  · replace h := h.2 c_2
    refine q_iload_n hX rfl dX0_bestBehind_32 33 rfl ?_
    refine q_iconst hX (-1 : Int32) q_ki_m1 dX0_bestBehind_33 34 rfl ?_
    refine q_icmp_eq hX dX0_bestBehind_34 37 61 rfl (by decide) (fun c_3 => ?_) (fun c_3 => ?_)
    · replace h := h.1 c_3
      exact q_weak [true, true, true, false, true, false] rfl (sn_X0_bestBehind_61 hX  a0 a1  x4 Q K5 hK5 mem h)
    · replace h := h.2 c_3
      refine q_aload_n hX rfl dX0_bestBehind_37 38 rfl ?_
      refine gf_X0_9 hX dX0_bestBehind_38 41 rfl ?_
      refine q_iload_n hX rfl dX0_bestBehind_41 42 rfl ?_
      refine q_iconst hX (1 : Int32) q_ki_1 dX0_bestBehind_42 43 rfl ?_
      refine q_iload hX rfl dX0_bestBehind_43 45 rfl ?_
      refine q_ishl hX dX0_bestBehind_45 46 rfl ?_
      refine q_ior hX dX0_bestBehind_46 47 rfl ?_
      obtain ⟨g_4, h⟩ := h
      refine q_iald hX g_4 dX0_bestBehind_47 48 rfl ?_
      refine q_aload_n hX rfl dX0_bestBehind_48 49 rfl ?_
      refine gf_X0_9 hX dX0_bestBehind_49 52 rfl ?_
      refine q_iload_n hX rfl dX0_bestBehind_52 53 rfl ?_
      refine q_iconst hX (1 : Int32) q_ki_1 dX0_bestBehind_53 54 rfl ?_
      refine q_iload_n hX rfl dX0_bestBehind_54 55 rfl ?_
      refine q_ishl hX dX0_bestBehind_55 56 rfl ?_
      refine q_ior hX dX0_bestBehind_56 57 rfl ?_
      obtain ⟨g_5, h⟩ := h
      refine q_iald hX g_5 dX0_bestBehind_57 58 rfl ?_
      refine q_icmp_ge hX dX0_bestBehind_58 61 64 rfl (by decide) (fun c_6 => ?_) (fun c_6 => ?_)
      · replace h := h.1 c_6
        exact q_weak [true, true, true, true, true, false] rfl (sn_X0_bestBehind_64 hX  a0 a1  x3 x4 Q K5 hK5 mem h)
      · replace h := h.2 c_6
        exact q_weak [true, true, true, false, true, false] rfl (sn_X0_bestBehind_61 hX  a0 a1  x4 Q K5 hK5 mem h)
set_option maxRecDepth 100000 in
set_option maxHeartbeats 4000000 in
theorem sn_X0_bestBehind_5_b {X : q_X} {G : q_G} (hX : q_C X cX0_bestBehind 6 RX0 (some .int) 0 0) (a0 : Int32) (a1 : Int32)  (x3 : Int32) (x4 : Int32) (Q : Int32 → q_Mem → Prop) (K5 : Int32 → Int32 → q_Mem → Prop) (hK5 : ∀ (yx3 : Int32) (yx4 : Int32) (ymem : q_Mem), K5 yx3 yx4 ymem → q_J X G 6 (q_QI X G Q) 5 [some (.ref (q_ad G 31)), some (.int a0), some (.int a1), some (.int yx3), some (.int yx4), none] [] ymem) (mem : q_Mem) (h : wp_X0_bestBehind_5_b K5 a0 a1 x3 x4 mem Q) : q_J X G 6 (q_QI X G Q) 5 [some (.ref (q_ad G 31)), some (.int a0), some (.int a1), some (.int x3), some (.int x4), none] [] mem := by
  unfold wp_X0_bestBehind_5_b at h
  refine q_iload hX rfl dX0_bestBehind_5 7 rfl ?_
  refine q_iload_n hX rfl dX0_bestBehind_7 8 rfl ?_
  refine q_icmp_ge hX dX0_bestBehind_8 11 70 rfl (by decide) (fun c_1 => ?_) (fun c_1 => ?_)
  · replace h := h.1 c_1
    exact q_weak [true, true, true, true, false, false] rfl (sn_X0_bestBehind_70 hX  a0 a1  x3 Q  mem h)
  · replace h := h.2 c_1
    refine q_iload_n hX rfl dX0_bestBehind_11 12 rfl ?_
    refine q_iconst hX (1 : Int32) q_ki_1 dX0_bestBehind_12 13 rfl ?_
    refine q_iload hX rfl dX0_bestBehind_13 15 rfl ?_
    refine q_ishl hX dX0_bestBehind_15 16 rfl ?_
    refine q_iand hX dX0_bestBehind_16 17 rfl ?_
    refine q_if_ne hX dX0_bestBehind_17 20 24 rfl (by decide) (fun c_2 => ?_) (fun c_2 => ?_)
    · replace h := h.1 c_2
      refine q_iconst hX (0 : Int32) q_ki_0 dX0_bestBehind_24 25 rfl ?_
      exact q_weak [true, true, true, true, true, false] rfl (sn_X0_bestBehind_25 hX  a0 a1  x3 x4 (0 : Int32) Q K5 hK5 mem h)
    · replace h := h.2 c_2
      refine q_iconst hX (1 : Int32) q_ki_1 dX0_bestBehind_20 21 rfl ?_
      refine q_goto hX dX0_bestBehind_21 25 (by decide) ?_
      exact q_weak [true, true, true, true, true, false] rfl (sn_X0_bestBehind_25 hX  a0 a1  x3 x4 (1 : Int32) Q K5 hK5 mem h)
set_option maxRecDepth 100000 in
set_option maxHeartbeats 4000000 in
theorem sn_X0_bestBehind_5 {X : q_X} {G : q_G} (hX : q_C X cX0_bestBehind 6 RX0 (some .int) 0 0) (a0 : Int32) (a1 : Int32)  (x3 : Int32) (x4 : Int32) (Q : Int32 → q_Mem → Prop)  (mem : q_Mem) (h : wp_X0_bestBehind_5  a0 a1 x3 x4 mem Q) : q_J X G 6 (q_QI X G Q) 5 [some (.ref (q_ad G 31)), some (.int a0), some (.int a1), some (.int x3), some (.int x4), none] [] mem := by
  obtain ⟨I, ⟨n, h0⟩, hs⟩ := h
  have key : ∀ (n : Nat) (yx3 : Int32) (yx4 : Int32) (ymem : q_Mem), I n yx3 yx4 ymem → q_J X G 6 (q_QI X G Q) 5 [some (.ref (q_ad G 31)), some (.int a0), some (.int a1), some (.int yx3), some (.int yx4), none] [] ymem := by
    intro n
    induction n using Nat.strongRecOn with
    | ind n ih =>
      intro yx3 yx4 ymem hI
      exact sn_X0_bestBehind_5_b hX  a0 a1  yx3 yx4 Q  (fun (zx3 : Int32) (zx4 : Int32) (zmem : q_Mem) => ∃ n2, n2 < n ∧ I n2 zx3 zx4 zmem) (fun zx3 zx4 zmem hz => by obtain ⟨n2, h1, h2⟩ := hz; exact ih n2 h1 zx3 zx4 zmem h2) ymem (hs n yx3 yx4 ymem hI)
  exact key n x3 x4 mem h0
set_option maxRecDepth 100000 in
set_option maxHeartbeats 4000000 in
theorem sn_X0_bestBehind_0 {X : q_X} {G : q_G} (hX : q_C X cX0_bestBehind 6 RX0 (some .int) 0 0) (a0 : Int32) (a1 : Int32)   (Q : Int32 → q_Mem → Prop)  (mem : q_Mem) (h : wp_X0_bestBehind  a0 a1  mem Q) : q_J X G 6 (q_QI X G Q) 0 [some (.ref (q_ad G 31)), some (.int a0), some (.int a1), none, none, none] [] mem := by
  unfold wp_X0_bestBehind at h
  refine q_iconst hX (-1 : Int32) q_ki_m1 dX0_bestBehind_0 1 rfl ?_
  refine q_istore_n hX dX0_bestBehind_1 2 rfl (Nat.le_of_ble_eq_true rfl) rfl (fun y => [some (.ref (q_ad G 31)), some (.int a0), some (.int a1), some (.int y), none, none]) (fun _ => rfl) (fun x3_1 ex3_1 => ?_)
  replace ex3_1 := ex3_1.symm; subst ex3_1
  refine q_iconst hX (0 : Int32) q_ki_0 dX0_bestBehind_2 3 rfl ?_
  refine q_istore hX dX0_bestBehind_3 5 rfl (Nat.le_of_ble_eq_true rfl) rfl (fun y => [some (.ref (q_ad G 31)), some (.int a0), some (.int a1), some (.int (-1 : Int32)), some (.int y), none]) (fun _ => rfl) (fun x4_2 ex4_2 => ?_)
  replace ex4_2 := ex4_2.symm; subst ex4_2
  exact q_weak [true, true, true, true, true, false] rfl (sn_X0_bestBehind_5 hX  a0 a1  (-1 : Int32) (0 : Int32) Q  mem h)
set_option maxRecDepth 100000 in
set_option maxHeartbeats 4000000 in
theorem sn_X0_bestBehind {l : Launch} {G : q_G} (a0 : Int32) (a1 : Int32)  (mem : q_Mem) (Q : Int32 → q_Mem → Prop) (h : wp_X0_bestBehind a0 a1 mem Q) : q_MI l G yX0_bestBehind cX0_bestBehind 6 (some .int) rm_X0_bestBehind [.ref (q_ad G 31), .int a0, .int a1] mem Q := by
  refine q_metI 3 (by decide +kernel) (Nat.le_of_ble_eq_true rfl) rfl (fun X hl hX => ?_)
  subst hl
  exact sn_X0_bestBehind_0 hX a0 a1  Q mem h

-- X2_partDown
def wp_X2_partDown  (a0 : Int32) (a1 : Int32)  (mem : q_Mem) (Q : Int32 → q_Mem → Prop) : Prop := (((1 : Int32) ≤ a1) → (¬ a1 = 0) ∧ (((0 ≤ (a0 - a0 / a1 * a1)) → (¬ a1 = 0) ∧ (Q (a0 / a1) mem)) ∧ ((¬ 0 ≤ (a0 - a0 / a1 * a1)) → (¬ a1 = 0) ∧ (Q ((a0 / a1) - (1 : Int32)) mem)))) ∧ ((¬ (1 : Int32) ≤ a1) → Q (0 : Int32) mem)
set_option maxRecDepth 100000 in
set_option maxHeartbeats 4000000 in
theorem sn_X2_partDown_0 {X : q_X} {G : q_G} (hX : q_C X cX2_partDown 2 RX2 (some .int) 0 0) (a0 : Int32) (a1 : Int32)   (Q : Int32 → q_Mem → Prop)  (mem : q_Mem) (h : wp_X2_partDown  a0 a1  mem Q) : q_J X G 2 (q_QI X G Q) 0 [some (.int a0), some (.int a1)] [] mem := by
  unfold wp_X2_partDown at h
  refine q_iload_n hX rfl dX2_partDown_0 1 rfl ?_
  refine q_iconst hX (1 : Int32) q_ki_1 dX2_partDown_1 2 rfl ?_
  refine q_icmp_ge hX dX2_partDown_2 5 7 rfl (by decide) (fun c_1 => ?_) (fun c_1 => ?_)
  · replace h := h.1 c_1
    refine q_iload_n hX rfl dX2_partDown_7 8 rfl ?_
    refine q_iload_n hX rfl dX2_partDown_8 9 rfl ?_
    obtain ⟨g_2, h⟩ := h
    refine q_irem hX g_2 dX2_partDown_9 10 rfl ?_
    refine q_if_ge hX dX2_partDown_10 13 21 rfl (by decide) (fun c_3 => ?_) (fun c_3 => ?_)
    · replace h := h.1 c_3
      refine q_iload_n hX rfl dX2_partDown_21 22 rfl ?_
      refine q_iload_n hX rfl dX2_partDown_22 23 rfl ?_
      obtain ⟨g_4, h⟩ := h
      refine q_idiv hX g_4 dX2_partDown_23 24 rfl ?_
      exact q_iret hX dX2_partDown_24 h
    · replace h := h.2 c_3
      refine q_iload_n hX rfl dX2_partDown_13 14 rfl ?_
      refine q_iload_n hX rfl dX2_partDown_14 15 rfl ?_
      obtain ⟨g_5, h⟩ := h
      refine q_idiv hX g_5 dX2_partDown_15 16 rfl ?_
      refine q_iconst hX (1 : Int32) q_ki_1 dX2_partDown_16 17 rfl ?_
      refine q_isub hX dX2_partDown_17 18 rfl ?_
      refine q_goto hX dX2_partDown_18 24 (by decide) ?_
      exact q_iret hX dX2_partDown_24 h
  · replace h := h.2 c_1
    refine q_iconst hX (0 : Int32) q_ki_0 dX2_partDown_5 6 rfl ?_
    exact q_iret hX dX2_partDown_6 h
set_option maxRecDepth 100000 in
set_option maxHeartbeats 4000000 in
theorem sn_X2_partDown {l : Launch} {G : q_G} (a0 : Int32) (a1 : Int32)  (mem : q_Mem) (Q : Int32 → q_Mem → Prop) (h : wp_X2_partDown a0 a1 mem Q) : q_MI l G yX2_partDown cX2_partDown 2 (some .int) rm_X2_partDown [.int a0, .int a1] mem Q := by
  refine q_metI 0 (by decide +kernel) (Nat.le_of_ble_eq_true rfl) rfl (fun X hl hX => ?_)
  subst hl
  exact sn_X2_partDown_0 hX a0 a1  Q mem h

-- X0_between
def wp_X0_between  (a0 : Int32) (a1 : Int32) (a2 : Int32) (a3 : Int32)  (mem : q_Mem) (Q : Int32 → q_Mem → Prop) : Prop := wp_X2_partDown ((a1 - a0) * ((1 : Int32) + a2)) ((2 : Int32) + a3) mem (fun r_1 m_2 => Q (a0 + r_1) m_2)
set_option maxRecDepth 100000 in
set_option maxHeartbeats 4000000 in
theorem sn_X0_between_0 {X : q_X} {G : q_G} (hX : q_C X cX0_between 4 RX0 (some .int) 1 21) (a0 : Int32) (a1 : Int32) (a2 : Int32) (a3 : Int32)   (Q : Int32 → q_Mem → Prop)  (mem : q_Mem) (h : wp_X0_between  a0 a1 a2 a3  mem Q) : q_J X G 4 (q_QI X G Q) 0 [some (.int a0), some (.int a1), some (.int a2), some (.int a3)] [] mem := by
  unfold wp_X0_between at h
  refine q_iload_n hX rfl dX0_between_0 1 rfl ?_
  refine q_iload_n hX rfl dX0_between_1 2 rfl ?_
  refine q_iload_n hX rfl dX0_between_2 3 rfl ?_
  refine q_isub hX dX0_between_3 4 rfl ?_
  refine q_iconst hX (1 : Int32) q_ki_1 dX0_between_4 5 rfl ?_
  refine q_iload_n hX rfl dX0_between_5 6 rfl ?_
  refine q_iadd hX dX0_between_6 7 rfl ?_
  refine q_imul hX dX0_between_7 8 rfl ?_
  refine q_iconst hX (2 : Int32) q_ki_2 dX0_between_8 9 rfl ?_
  refine q_iload_n hX rfl dX0_between_9 10 rfl ?_
  refine q_iadd hX dX0_between_10 11 rfl ?_
  refine cl_X0_22 hX  ⟨Nat.le_of_ble_eq_true rfl, Nat.le_of_ble_eq_true rfl⟩ (Nat.le_of_ble_eq_true rfl) dX0_between_11 14 rfl (sn_X2_partDown ((a1 - a0) * ((1 : Int32) + a2)) ((2 : Int32) + a3)  mem _ h) (fun r_1 m_2 h => ?_)
  refine q_iadd hX dX0_between_14 15 rfl ?_
  exact q_iret hX dX0_between_15 h
set_option maxRecDepth 100000 in
set_option maxHeartbeats 4000000 in
theorem sn_X0_between {l : Launch} {G : q_G} (a0 : Int32) (a1 : Int32) (a2 : Int32) (a3 : Int32)  (mem : q_Mem) (Q : Int32 → q_Mem → Prop) (h : wp_X0_between a0 a1 a2 a3 mem Q) : q_MI l G yX0_between cX0_between 4 (some .int) rm_X0_between [.int a0, .int a1, .int a2, .int a3] mem Q := by
  refine q_metI 0 (by decide +kernel) (Nat.le_of_ble_eq_true rfl) rfl (fun X hl hX => ?_)
  subst hl
  exact sn_X0_between_0 hX a0 a1 a2 a3  Q mem h

-- X0_saturation
def wp_X0_saturation  (a0 : Int32)  (mem : q_Mem) (Q : Int32 → q_Mem → Prop) : Prop := ((0 ≤ a0) → Q ((600 : Int32) + ((40 : Int32) * a0)) mem) ∧ ((¬ 0 ≤ a0) → Q ((600 : Int32) + ((20 : Int32) * a0)) mem)
set_option maxRecDepth 100000 in
set_option maxHeartbeats 4000000 in
theorem sn_X0_saturation_0 {X : q_X} {G : q_G} (hX : q_C X cX0_saturation 1 RX0 (some .int) 0 0) (a0 : Int32)   (Q : Int32 → q_Mem → Prop)  (mem : q_Mem) (h : wp_X0_saturation  a0  mem Q) : q_J X G 1 (q_QI X G Q) 0 [some (.int a0)] [] mem := by
  unfold wp_X0_saturation at h
  refine q_iload_n hX rfl dX0_saturation_0 1 rfl ?_
  refine q_if_ge hX dX0_saturation_1 4 15 rfl (by decide) (fun c_1 => ?_) (fun c_1 => ?_)
  · replace h := h.1 c_1
    refine q_sipush hX (600 : Int32) q_ks_600 dX0_saturation_15 18 rfl ?_
    refine q_bipush hX (40 : Int32) q_kb_40 dX0_saturation_18 20 rfl ?_
    refine q_iload_n hX rfl dX0_saturation_20 21 rfl ?_
    refine q_imul hX dX0_saturation_21 22 rfl ?_
    refine q_iadd hX dX0_saturation_22 23 rfl ?_
    exact q_iret hX dX0_saturation_23 h
  · replace h := h.2 c_1
    refine q_sipush hX (600 : Int32) q_ks_600 dX0_saturation_4 7 rfl ?_
    refine q_bipush hX (20 : Int32) q_kb_20 dX0_saturation_7 9 rfl ?_
    refine q_iload_n hX rfl dX0_saturation_9 10 rfl ?_
    refine q_imul hX dX0_saturation_10 11 rfl ?_
    refine q_iadd hX dX0_saturation_11 12 rfl ?_
    refine q_goto hX dX0_saturation_12 23 (by decide) ?_
    exact q_iret hX dX0_saturation_23 h
set_option maxRecDepth 100000 in
set_option maxHeartbeats 4000000 in
theorem sn_X0_saturation {l : Launch} {G : q_G} (a0 : Int32)  (mem : q_Mem) (Q : Int32 → q_Mem → Prop) (h : wp_X0_saturation a0 mem Q) : q_MI l G yX0_saturation cX0_saturation 1 (some .int) rm_X0_saturation [.int a0] mem Q := by
  refine q_metI 0 (by decide +kernel) (Nat.le_of_ble_eq_true rfl) rfl (fun X hl hX => ?_)
  subst hl
  exact sn_X0_saturation_0 hX a0  Q mem h

-- X0_pressureIn
def wp_X0_pressureIn  (a0 : Int32) (a1 : Int32)  (mem : q_Mem) (Q : Int32 → q_Mem → Prop) : Prop := wp_X0_saturation a1 mem (fun r_1 m_2 => wp_X2_partDown (a0 * r_1) (1000 : Int32) m_2 (fun r_3 m_4 => Q r_3 m_4))
set_option maxRecDepth 100000 in
set_option maxHeartbeats 4000000 in
theorem sn_X0_pressureIn_0 {X : q_X} {G : q_G} (hX : q_C X cX0_pressureIn 2 RX0 (some .int) 1 21) (a0 : Int32) (a1 : Int32)   (Q : Int32 → q_Mem → Prop)  (mem : q_Mem) (h : wp_X0_pressureIn  a0 a1  mem Q) : q_J X G 2 (q_QI X G Q) 0 [some (.int a0), some (.int a1)] [] mem := by
  unfold wp_X0_pressureIn at h
  refine q_iload_n hX rfl dX0_pressureIn_0 1 rfl ?_
  refine q_iload_n hX rfl dX0_pressureIn_1 2 rfl ?_
  refine cl_X0_18 hX  ⟨Nat.le_of_ble_eq_true rfl, Nat.le_of_ble_eq_true rfl⟩ (Nat.le_of_ble_eq_true rfl) dX0_pressureIn_2 5 rfl (sn_X0_saturation a1  mem _ h) (fun r_1 m_2 h => ?_)
  refine q_imul hX dX0_pressureIn_5 6 rfl ?_
  refine q_sipush hX (1000 : Int32) q_ks_1000 dX0_pressureIn_6 9 rfl ?_
  refine cl_X0_22 hX  ⟨Nat.le_of_ble_eq_true rfl, Nat.le_of_ble_eq_true rfl⟩ (Nat.le_of_ble_eq_true rfl) dX0_pressureIn_9 12 rfl (sn_X2_partDown (a0 * r_1) (1000 : Int32)  m_2 _ h) (fun r_3 m_4 h => ?_)
  exact q_iret hX dX0_pressureIn_12 h
set_option maxRecDepth 100000 in
set_option maxHeartbeats 4000000 in
theorem sn_X0_pressureIn {l : Launch} {G : q_G} (a0 : Int32) (a1 : Int32)  (mem : q_Mem) (Q : Int32 → q_Mem → Prop) (h : wp_X0_pressureIn a0 a1 mem Q) : q_MI l G yX0_pressureIn cX0_pressureIn 2 (some .int) rm_X0_pressureIn [.int a0, .int a1] mem Q := by
  refine q_metI 0 (by decide +kernel) (Nat.le_of_ble_eq_true rfl) rfl (fun X hl hX => ?_)
  subst hl
  exact sn_X0_pressureIn_0 hX a0 a1  Q mem h

-- X1_firstLayers
def wp_X1_firstLayers  (a0 : Int32)  (mem : q_Mem) (Q : Int32 → q_Mem → Prop) : Prop := Q (((1 : Int32) <<< (a0 &&& 31)) - (1 : Int32)) mem
set_option maxRecDepth 100000 in
set_option maxHeartbeats 4000000 in
theorem sn_X1_firstLayers_0 {X : q_X} {G : q_G} (hX : q_C X cX1_firstLayers 1 RX1 (some .int) 0 0) (a0 : Int32)   (Q : Int32 → q_Mem → Prop)  (mem : q_Mem) (h : wp_X1_firstLayers  a0  mem Q) : q_J X G 1 (q_QI X G Q) 0 [some (.int a0)] [] mem := by
  unfold wp_X1_firstLayers at h
  refine q_iconst hX (1 : Int32) q_ki_1 dX1_firstLayers_0 1 rfl ?_
  refine q_iload_n hX rfl dX1_firstLayers_1 2 rfl ?_
  refine q_ishl hX dX1_firstLayers_2 3 rfl ?_
  refine q_iconst hX (1 : Int32) q_ki_1 dX1_firstLayers_3 4 rfl ?_
  refine q_isub hX dX1_firstLayers_4 5 rfl ?_
  exact q_iret hX dX1_firstLayers_5 h
set_option maxRecDepth 100000 in
set_option maxHeartbeats 4000000 in
theorem sn_X1_firstLayers {l : Launch} {G : q_G} (a0 : Int32)  (mem : q_Mem) (Q : Int32 → q_Mem → Prop) (h : wp_X1_firstLayers a0 mem Q) : q_MI l G yX1_firstLayers cX1_firstLayers 1 (some .int) rm_X1_firstLayers [.int a0] mem Q := by
  refine q_metI 0 (by decide +kernel) (Nat.le_of_ble_eq_true rfl) rfl (fun X hl hX => ?_)
  subst hl
  exact sn_X1_firstLayers_0 hX a0  Q mem h

-- X1_resistOf
def wp_X1_resistOf_36  (b : Nat) (a0 : Nat) (a1 : Int32) (x3 : Int32) (mem : q_Mem) (Q : Int32 → q_Mem → Prop) : Prop := Q x3 mem
def wp_X1_resistOf_30 (K5 : Int32 → Int32 → q_Mem → Prop) (b : Nat) (a0 : Nat) (a1 : Int32) (x3 : Int32) (x4 : Int32) (mem : q_Mem) (Q : Int32 → q_Mem → Prop) : Prop := ∀ x4_1 : Int32, x4_1 = (x4 + (1 : Int32)) → K5 x3 x4_1 mem
def wp_X1_resistOf_5_b (K5 : Int32 → Int32 → q_Mem → Prop) (b : Nat) (a0 : Nat) (a1 : Int32) (x3 : Int32) (x4 : Int32) (mem : q_Mem) (Q : Int32 → q_Mem → Prop) : Prop := (((mem b 11) ≤ x4) → wp_X1_resistOf_36  b a0 a1 x3 mem Q) ∧ ((¬ (mem b 11) ≤ x4) → (((a1 &&& ((1 : Int32) <<< (x4 &&& 31))) = 0) → wp_X1_resistOf_30 K5 b a0 a1 x3 x4 mem Q) ∧ ((¬ (a1 &&& ((1 : Int32) <<< (x4 &&& 31))) = 0) → vp_in x4 (q_al a0) ∧ (∀ x3_4 : Int32, x3_4 = (x3 + (mem a0 x4.toNatClampNeg)) → wp_X1_resistOf_30 K5 b a0 a1 x3_4 x4 mem Q)))
def wp_X1_resistOf_5  (b : Nat) (a0 : Nat) (a1 : Int32) (x3 : Int32) (x4 : Int32) (mem : q_Mem) (Q : Int32 → q_Mem → Prop) : Prop := ∃ I : Nat → Int32 → Int32 → q_Mem → Prop, (∃ n, I n x3 x4 mem) ∧ ∀ (n : Nat) (yx3 : Int32) (yx4 : Int32) (ymem : q_Mem), I n yx3 yx4 ymem → wp_X1_resistOf_5_b  (fun (zx3 : Int32) (zx4 : Int32) (zmem : q_Mem) => ∃ n2, n2 < n ∧ I n2 zx3 zx4 zmem) b a0 a1 yx3 yx4 ymem Q
def wp_X1_resistOf  (b : Nat) (a0 : Nat) (a1 : Int32)  (mem : q_Mem) (Q : Int32 → q_Mem → Prop) : Prop := wp_X1_resistOf_5  b a0 a1 (0 : Int32) (0 : Int32) mem Q
set_option maxRecDepth 100000 in
set_option maxHeartbeats 4000000 in
theorem sn_X1_resistOf_36 {X : q_X} {G : q_G} (hX : q_C X cX1_resistOf 5 RX1 (some .int) 0 0) (b : Nat) (a0 : Nat) (a1 : Int32) (hb : q_WB b) (x3 : Int32) (Q : Int32 → q_Mem → Prop)  (mem : q_Mem) (h : wp_X1_resistOf_36  b a0 a1 x3 mem Q) : q_J X G 5 (q_QI X G Q) 36 [some (.ref (q_ad G b)), some (.ref (q_ad G a0)), some (.int a1), some (.int x3), none] [] mem := by
  unfold wp_X1_resistOf_36 at h
  refine q_iload_n hX rfl dX1_resistOf_36 37 rfl ?_
  exact q_iret hX dX1_resistOf_37 h
set_option maxRecDepth 100000 in
set_option maxHeartbeats 4000000 in
theorem sn_X1_resistOf_30 {X : q_X} {G : q_G} (hX : q_C X cX1_resistOf 5 RX1 (some .int) 0 0) (b : Nat) (a0 : Nat) (a1 : Int32) (hb : q_WB b) (x3 : Int32) (x4 : Int32) (Q : Int32 → q_Mem → Prop) (K5 : Int32 → Int32 → q_Mem → Prop) (hK5 : ∀ (yx3 : Int32) (yx4 : Int32) (ymem : q_Mem), K5 yx3 yx4 ymem → q_J X G 5 (q_QI X G Q) 5 [some (.ref (q_ad G b)), some (.ref (q_ad G a0)), some (.int a1), some (.int yx3), some (.int yx4)] [] ymem) (mem : q_Mem) (h : wp_X1_resistOf_30 K5 b a0 a1 x3 x4 mem Q) : q_J X G 5 (q_QI X G Q) 30 [some (.ref (q_ad G b)), some (.ref (q_ad G a0)), some (.int a1), some (.int x3), some (.int x4)] [] mem := by
  unfold wp_X1_resistOf_30 at h
  refine q_iinc hX (1 : Int32) q_ki_1 rfl dX1_resistOf_30 33 rfl (Nat.le_of_ble_eq_true rfl) rfl (fun y => [some (.ref (q_ad G b)), some (.ref (q_ad G a0)), some (.int a1), some (.int x3), some (.int y)]) (fun _ => rfl) (fun x4_1 ex4_1 => ?_)
  replace h := h x4_1 ex4_1
  refine q_goto hX dX1_resistOf_33 5 (by decide) ?_
  exact q_weak [true, true, true, true, true] rfl (hK5 x3 x4_1 mem h)
set_option maxRecDepth 100000 in
set_option maxHeartbeats 4000000 in
theorem sn_X1_resistOf_5_b {X : q_X} {G : q_G} (hX : q_C X cX1_resistOf 5 RX1 (some .int) 0 0) (b : Nat) (a0 : Nat) (a1 : Int32) (hb : q_WB b) (x3 : Int32) (x4 : Int32) (Q : Int32 → q_Mem → Prop) (K5 : Int32 → Int32 → q_Mem → Prop) (hK5 : ∀ (yx3 : Int32) (yx4 : Int32) (ymem : q_Mem), K5 yx3 yx4 ymem → q_J X G 5 (q_QI X G Q) 5 [some (.ref (q_ad G b)), some (.ref (q_ad G a0)), some (.int a1), some (.int yx3), some (.int yx4)] [] ymem) (mem : q_Mem) (h : wp_X1_resistOf_5_b K5 b a0 a1 x3 x4 mem Q) : q_J X G 5 (q_QI X G Q) 5 [some (.ref (q_ad G b)), some (.ref (q_ad G a0)), some (.int a1), some (.int x3), some (.int x4)] [] mem := by
  unfold wp_X1_resistOf_5_b at h
  refine q_iload hX rfl dX1_resistOf_5 7 rfl ?_
  refine q_aload_n hX rfl dX1_resistOf_7 8 rfl ?_
  refine gf_X1_47 hX hb dX1_resistOf_8 11 rfl ?_
  refine q_icmp_ge hX dX1_resistOf_11 14 36 rfl (by decide) (fun c_1 => ?_) (fun c_1 => ?_)
  · replace h := h.1 c_1
    exact q_weak [true, true, true, true, false] rfl (sn_X1_resistOf_36 hX  b a0 a1 hb x3 Q  mem h)
  · replace h := h.2 c_1
    refine q_iload_n hX rfl dX1_resistOf_14 15 rfl ?_
    refine q_iconst hX (1 : Int32) q_ki_1 dX1_resistOf_15 16 rfl ?_
    refine q_iload hX rfl dX1_resistOf_16 18 rfl ?_
    refine q_ishl hX dX1_resistOf_18 19 rfl ?_
    refine q_iand hX dX1_resistOf_19 20 rfl ?_
    refine q_if_eq hX dX1_resistOf_20 23 30 rfl (by decide) (fun c_2 => ?_) (fun c_2 => ?_)
    · replace h := h.1 c_2
      exact q_weak [true, true, true, true, true] rfl (sn_X1_resistOf_30 hX  b a0 a1 hb x3 x4 Q K5 hK5 mem h)
    · replace h := h.2 c_2
      refine q_iload_n hX rfl dX1_resistOf_23 24 rfl ?_
      refine q_aload_n hX rfl dX1_resistOf_24 25 rfl ?_
      refine q_iload hX rfl dX1_resistOf_25 27 rfl ?_
      obtain ⟨g_3, h⟩ := h
      refine q_iald hX g_3 dX1_resistOf_27 28 rfl ?_
      refine q_iadd hX dX1_resistOf_28 29 rfl ?_
      refine q_istore_n hX dX1_resistOf_29 30 rfl (Nat.le_of_ble_eq_true rfl) rfl (fun y => [some (.ref (q_ad G b)), some (.ref (q_ad G a0)), some (.int a1), some (.int y), some (.int x4)]) (fun _ => rfl) (fun x3_4 ex3_4 => ?_)
      replace h := h x3_4 ex3_4
      exact q_weak [true, true, true, true, true] rfl (sn_X1_resistOf_30 hX  b a0 a1 hb x3_4 x4 Q K5 hK5 mem h)
set_option maxRecDepth 100000 in
set_option maxHeartbeats 4000000 in
theorem sn_X1_resistOf_5 {X : q_X} {G : q_G} (hX : q_C X cX1_resistOf 5 RX1 (some .int) 0 0) (b : Nat) (a0 : Nat) (a1 : Int32) (hb : q_WB b) (x3 : Int32) (x4 : Int32) (Q : Int32 → q_Mem → Prop)  (mem : q_Mem) (h : wp_X1_resistOf_5  b a0 a1 x3 x4 mem Q) : q_J X G 5 (q_QI X G Q) 5 [some (.ref (q_ad G b)), some (.ref (q_ad G a0)), some (.int a1), some (.int x3), some (.int x4)] [] mem := by
  obtain ⟨I, ⟨n, h0⟩, hs⟩ := h
  have key : ∀ (n : Nat) (yx3 : Int32) (yx4 : Int32) (ymem : q_Mem), I n yx3 yx4 ymem → q_J X G 5 (q_QI X G Q) 5 [some (.ref (q_ad G b)), some (.ref (q_ad G a0)), some (.int a1), some (.int yx3), some (.int yx4)] [] ymem := by
    intro n
    induction n using Nat.strongRecOn with
    | ind n ih =>
      intro yx3 yx4 ymem hI
      exact sn_X1_resistOf_5_b hX  b a0 a1 hb yx3 yx4 Q  (fun (zx3 : Int32) (zx4 : Int32) (zmem : q_Mem) => ∃ n2, n2 < n ∧ I n2 zx3 zx4 zmem) (fun zx3 zx4 zmem hz => by obtain ⟨n2, h1, h2⟩ := hz; exact ih n2 h1 zx3 zx4 zmem h2) ymem (hs n yx3 yx4 ymem hI)
  exact key n x3 x4 mem h0
set_option maxRecDepth 100000 in
set_option maxHeartbeats 4000000 in
theorem sn_X1_resistOf_0 {X : q_X} {G : q_G} (hX : q_C X cX1_resistOf 5 RX1 (some .int) 0 0) (b : Nat) (a0 : Nat) (a1 : Int32) (hb : q_WB b)  (Q : Int32 → q_Mem → Prop)  (mem : q_Mem) (h : wp_X1_resistOf  b a0 a1  mem Q) : q_J X G 5 (q_QI X G Q) 0 [some (.ref (q_ad G b)), some (.ref (q_ad G a0)), some (.int a1), none, none] [] mem := by
  unfold wp_X1_resistOf at h
  refine q_iconst hX (0 : Int32) q_ki_0 dX1_resistOf_0 1 rfl ?_
  refine q_istore_n hX dX1_resistOf_1 2 rfl (Nat.le_of_ble_eq_true rfl) rfl (fun y => [some (.ref (q_ad G b)), some (.ref (q_ad G a0)), some (.int a1), some (.int y), none]) (fun _ => rfl) (fun x3_1 ex3_1 => ?_)
  replace ex3_1 := ex3_1.symm; subst ex3_1
  refine q_iconst hX (0 : Int32) q_ki_0 dX1_resistOf_2 3 rfl ?_
  refine q_istore hX dX1_resistOf_3 5 rfl (Nat.le_of_ble_eq_true rfl) rfl (fun y => [some (.ref (q_ad G b)), some (.ref (q_ad G a0)), some (.int a1), some (.int (0 : Int32)), some (.int y)]) (fun _ => rfl) (fun x4_2 ex4_2 => ?_)
  replace ex4_2 := ex4_2.symm; subst ex4_2
  exact q_weak [true, true, true, true, true] rfl (sn_X1_resistOf_5 hX  b a0 a1 hb (0 : Int32) (0 : Int32) Q  mem h)
set_option maxRecDepth 100000 in
set_option maxHeartbeats 4000000 in
theorem sn_X1_resistOf {l : Launch} {G : q_G} (b : Nat) (a0 : Nat) (a1 : Int32) (hb : q_WB b) (mem : q_Mem) (Q : Int32 → q_Mem → Prop) (h : wp_X1_resistOf b a0 a1 mem Q) : q_MI l G yX1_resistOf cX1_resistOf 5 (some .int) rm_X1_resistOf [.ref (q_ad G b), .ref (q_ad G a0), .int a1] mem Q := by
  refine q_metI 2 (by decide +kernel) (Nat.le_of_ble_eq_true rfl) rfl (fun X hl hX => ?_)
  subst hl
  exact sn_X1_resistOf_0 hX b a0 a1 hb Q mem h

-- X0_pressureBehind
def wp_X0_pressureBehind  (w0 : Nat) (a1 : Nat) (a2 : Int32)  (mem : q_Mem) (Q : Int32 → q_Mem → Prop) : Prop := vp_in (0 : Int32) (q_al a1) ∧ (vp_in (1 : Int32) (q_al a1) ∧ (wp_X0_pressureIn (mem a1 (0 : Int32).toNatClampNeg) (mem a1 (1 : Int32).toNatClampNeg) mem (fun r_3 m_4 => vp_in (3 : Int32) (q_al a1) ∧ (vp_in (4 : Int32) (q_al a1) ∧ (wp_X0_pressureIn (m_4 a1 (3 : Int32).toNatClampNeg) (m_4 a1 (4 : Int32).toNatClampNeg) m_4 (fun r_8 m_9 => wp_X1_firstLayers (m_9 w0 11) m_9 (fun r_11 m_12 => wp_X1_resistOf w0 (w0 + 6) r_11 m_12 (fun r_13 m_14 => wp_X1_resistOf w0 (w0 + 6) a2 m_14 (fun r_16 m_17 => wp_X0_between r_3 r_8 r_16 r_13 m_17 (fun r_18 m_19 => Q r_18 m_19))))))))))
set_option maxRecDepth 100000 in
set_option maxHeartbeats 4000000 in
theorem sn_X0_pressureBehind_0 {X : q_X} {G : q_G} (hX : q_C X cX0_pressureBehind 7 RX0 (some .int) 2 44) (w0 : Nat) (a1 : Nat) (a2 : Int32) (hw0 : q_WB w0)  (Q : Int32 → q_Mem → Prop)  (mem : q_Mem) (h : wp_X0_pressureBehind  w0 a1 a2  mem Q) : q_J X G 7 (q_QI X G Q) 0 [some (.ref (q_ad G 31)), some (.ref (q_ad G w0)), some (.ref (q_ad G a1)), some (.int a2), none, none, none] [] mem := by
  unfold wp_X0_pressureBehind at h
  refine q_aload_n hX rfl dX0_pressureBehind_0 1 rfl ?_
  refine q_iconst hX (0 : Int32) q_ki_0 dX0_pressureBehind_1 2 rfl ?_
  obtain ⟨g_1, h⟩ := h
  refine q_iald hX g_1 dX0_pressureBehind_2 3 rfl ?_
  refine q_aload_n hX rfl dX0_pressureBehind_3 4 rfl ?_
  refine q_iconst hX (1 : Int32) q_ki_1 dX0_pressureBehind_4 5 rfl ?_
  obtain ⟨g_2, h⟩ := h
  refine q_iald hX g_2 dX0_pressureBehind_5 6 rfl ?_
  refine cl_X0_26 hX  ⟨Nat.le_of_ble_eq_true rfl, Nat.le_of_ble_eq_true rfl⟩ (Nat.le_of_ble_eq_true rfl) dX0_pressureBehind_6 9 rfl (sn_X0_pressureIn (mem a1 (0 : Int32).toNatClampNeg) (mem a1 (1 : Int32).toNatClampNeg)  mem _ h) (fun r_3 m_4 h => ?_)
  refine q_istore hX dX0_pressureBehind_9 11 rfl (Nat.le_of_ble_eq_true rfl) rfl (fun y => [some (.ref (q_ad G 31)), some (.ref (q_ad G w0)), some (.ref (q_ad G a1)), some (.int a2), some (.int y), none, none]) (fun _ => rfl) (fun x4_5 ex4_5 => ?_)
  replace ex4_5 := ex4_5.symm; subst ex4_5
  refine q_aload_n hX rfl dX0_pressureBehind_11 12 rfl ?_
  refine q_iconst hX (3 : Int32) q_ki_3 dX0_pressureBehind_12 13 rfl ?_
  obtain ⟨g_6, h⟩ := h
  refine q_iald hX g_6 dX0_pressureBehind_13 14 rfl ?_
  refine q_aload_n hX rfl dX0_pressureBehind_14 15 rfl ?_
  refine q_iconst hX (4 : Int32) q_ki_4 dX0_pressureBehind_15 16 rfl ?_
  obtain ⟨g_7, h⟩ := h
  refine q_iald hX g_7 dX0_pressureBehind_16 17 rfl ?_
  refine cl_X0_26 hX  ⟨Nat.le_of_ble_eq_true rfl, Nat.le_of_ble_eq_true rfl⟩ (Nat.le_of_ble_eq_true rfl) dX0_pressureBehind_17 20 rfl (sn_X0_pressureIn (m_4 a1 (3 : Int32).toNatClampNeg) (m_4 a1 (4 : Int32).toNatClampNeg)  m_4 _ h) (fun r_8 m_9 h => ?_)
  refine q_istore hX dX0_pressureBehind_20 22 rfl (Nat.le_of_ble_eq_true rfl) rfl (fun y => [some (.ref (q_ad G 31)), some (.ref (q_ad G w0)), some (.ref (q_ad G a1)), some (.int a2), some (.int r_3), some (.int y), none]) (fun _ => rfl) (fun x5_10 ex5_10 => ?_)
  replace ex5_10 := ex5_10.symm; subst ex5_10
  refine q_aload_n hX rfl dX0_pressureBehind_22 23 rfl ?_
  refine q_aload_n hX rfl dX0_pressureBehind_23 24 rfl ?_
  refine gf_X0_45 hX hw0 dX0_pressureBehind_24 27 rfl ?_
  refine q_aload_n hX rfl dX0_pressureBehind_27 28 rfl ?_
  refine gf_X0_29 hX hw0 dX0_pressureBehind_28 31 rfl ?_
  refine cl_X0_35 hX  ⟨Nat.le_of_ble_eq_true rfl, Nat.le_of_ble_eq_true rfl⟩ (Nat.le_of_ble_eq_true rfl) dX0_pressureBehind_31 34 rfl (sn_X1_firstLayers (m_9 w0 11)  m_9 _ h) (fun r_11 m_12 h => ?_)
  refine cl_X0_48 hX hw0 ⟨Nat.le_of_ble_eq_true rfl, Nat.le_of_ble_eq_true rfl⟩ (Nat.le_of_ble_eq_true rfl) dX0_pressureBehind_34 37 rfl (sn_X1_resistOf w0 (w0 + 6) r_11 hw0 m_12 _ h) (fun r_13 m_14 h => ?_)
  refine q_istore hX dX0_pressureBehind_37 39 rfl (Nat.le_of_ble_eq_true rfl) rfl (fun y => [some (.ref (q_ad G 31)), some (.ref (q_ad G w0)), some (.ref (q_ad G a1)), some (.int a2), some (.int r_3), some (.int r_8), some (.int y)]) (fun _ => rfl) (fun x6_15 ex6_15 => ?_)
  replace ex6_15 := ex6_15.symm; subst ex6_15
  refine q_iload hX rfl dX0_pressureBehind_39 41 rfl ?_
  refine q_iload hX rfl dX0_pressureBehind_41 43 rfl ?_
  refine q_aload_n hX rfl dX0_pressureBehind_43 44 rfl ?_
  refine q_aload_n hX rfl dX0_pressureBehind_44 45 rfl ?_
  refine gf_X0_45 hX hw0 dX0_pressureBehind_45 48 rfl ?_
  refine q_iload_n hX rfl dX0_pressureBehind_48 49 rfl ?_
  refine cl_X0_48 hX hw0 ⟨Nat.le_of_ble_eq_true rfl, Nat.le_of_ble_eq_true rfl⟩ (Nat.le_of_ble_eq_true rfl) dX0_pressureBehind_49 52 rfl (sn_X1_resistOf w0 (w0 + 6) a2 hw0 m_14 _ h) (fun r_16 m_17 h => ?_)
  refine q_iload hX rfl dX0_pressureBehind_52 54 rfl ?_
  refine cl_X0_52 hX  ⟨Nat.le_of_ble_eq_true rfl, Nat.le_of_ble_eq_true rfl⟩ (Nat.le_of_ble_eq_true rfl) dX0_pressureBehind_54 57 rfl (sn_X0_between r_3 r_8 r_16 r_13  m_17 _ h) (fun r_18 m_19 h => ?_)
  exact q_iret hX dX0_pressureBehind_57 h
set_option maxRecDepth 100000 in
set_option maxHeartbeats 4000000 in
theorem sn_X0_pressureBehind {l : Launch} {G : q_G} (w0 : Nat) (a1 : Nat) (a2 : Int32) (hw0 : q_WB w0) (mem : q_Mem) (Q : Int32 → q_Mem → Prop) (h : wp_X0_pressureBehind w0 a1 a2 mem Q) : q_MI l G yX0_pressureBehind cX0_pressureBehind 7 (some .int) rm_X0_pressureBehind [.ref (q_ad G 31), .ref (q_ad G w0), .ref (q_ad G a1), .int a2] mem Q := by
  refine q_metI 3 (by decide +kernel) (Nat.le_of_ble_eq_true rfl) rfl (fun X hl hX => ?_)
  subst hl
  exact sn_X0_pressureBehind_0 hX w0 a1 a2 hw0 Q mem h

-- X0_warmthBehind
def wp_X0_warmthBehind  (w0 : Nat) (a1 : Nat) (a2 : Int32)  (mem : q_Mem) (Q : Int32 → q_Mem → Prop) : Prop := wp_X1_firstLayers (mem w0 11) mem (fun r_1 m_2 => wp_X1_resistOf w0 (w0 + 7) r_1 m_2 (fun r_3 m_4 => vp_in (1 : Int32) (q_al a1) ∧ (vp_in (4 : Int32) (q_al a1) ∧ (wp_X1_resistOf w0 (w0 + 7) a2 m_4 (fun r_8 m_9 => wp_X0_between (m_4 a1 (1 : Int32).toNatClampNeg) (m_4 a1 (4 : Int32).toNatClampNeg) r_8 r_3 m_9 (fun r_10 m_11 => Q r_10 m_11))))))
set_option maxRecDepth 100000 in
set_option maxHeartbeats 4000000 in
theorem sn_X0_warmthBehind_0 {X : q_X} {G : q_G} (hX : q_C X cX0_warmthBehind 5 RX0 (some .int) 2 44) (w0 : Nat) (a1 : Nat) (a2 : Int32) (hw0 : q_WB w0)  (Q : Int32 → q_Mem → Prop)  (mem : q_Mem) (h : wp_X0_warmthBehind  w0 a1 a2  mem Q) : q_J X G 5 (q_QI X G Q) 0 [some (.ref (q_ad G 31)), some (.ref (q_ad G w0)), some (.ref (q_ad G a1)), some (.int a2), none] [] mem := by
  unfold wp_X0_warmthBehind at h
  refine q_aload_n hX rfl dX0_warmthBehind_0 1 rfl ?_
  refine q_aload_n hX rfl dX0_warmthBehind_1 2 rfl ?_
  refine gf_X0_56 hX hw0 dX0_warmthBehind_2 5 rfl ?_
  refine q_aload_n hX rfl dX0_warmthBehind_5 6 rfl ?_
  refine gf_X0_29 hX hw0 dX0_warmthBehind_6 9 rfl ?_
  refine cl_X0_35 hX  ⟨Nat.le_of_ble_eq_true rfl, Nat.le_of_ble_eq_true rfl⟩ (Nat.le_of_ble_eq_true rfl) dX0_warmthBehind_9 12 rfl (sn_X1_firstLayers (mem w0 11)  mem _ h) (fun r_1 m_2 h => ?_)
  refine cl_X0_48 hX hw0 ⟨Nat.le_of_ble_eq_true rfl, Nat.le_of_ble_eq_true rfl⟩ (Nat.le_of_ble_eq_true rfl) dX0_warmthBehind_12 15 rfl (sn_X1_resistOf w0 (w0 + 7) r_1 hw0 m_2 _ h) (fun r_3 m_4 h => ?_)
  refine q_istore hX dX0_warmthBehind_15 17 rfl (Nat.le_of_ble_eq_true rfl) rfl (fun y => [some (.ref (q_ad G 31)), some (.ref (q_ad G w0)), some (.ref (q_ad G a1)), some (.int a2), some (.int y)]) (fun _ => rfl) (fun x4_5 ex4_5 => ?_)
  replace ex4_5 := ex4_5.symm; subst ex4_5
  refine q_aload_n hX rfl dX0_warmthBehind_17 18 rfl ?_
  refine q_iconst hX (1 : Int32) q_ki_1 dX0_warmthBehind_18 19 rfl ?_
  obtain ⟨g_6, h⟩ := h
  refine q_iald hX g_6 dX0_warmthBehind_19 20 rfl ?_
  refine q_aload_n hX rfl dX0_warmthBehind_20 21 rfl ?_
  refine q_iconst hX (4 : Int32) q_ki_4 dX0_warmthBehind_21 22 rfl ?_
  obtain ⟨g_7, h⟩ := h
  refine q_iald hX g_7 dX0_warmthBehind_22 23 rfl ?_
  refine q_aload_n hX rfl dX0_warmthBehind_23 24 rfl ?_
  refine q_aload_n hX rfl dX0_warmthBehind_24 25 rfl ?_
  refine gf_X0_56 hX hw0 dX0_warmthBehind_25 28 rfl ?_
  refine q_iload_n hX rfl dX0_warmthBehind_28 29 rfl ?_
  refine cl_X0_48 hX hw0 ⟨Nat.le_of_ble_eq_true rfl, Nat.le_of_ble_eq_true rfl⟩ (Nat.le_of_ble_eq_true rfl) dX0_warmthBehind_29 32 rfl (sn_X1_resistOf w0 (w0 + 7) a2 hw0 m_4 _ h) (fun r_8 m_9 h => ?_)
  refine q_iload hX rfl dX0_warmthBehind_32 34 rfl ?_
  refine cl_X0_52 hX  ⟨Nat.le_of_ble_eq_true rfl, Nat.le_of_ble_eq_true rfl⟩ (Nat.le_of_ble_eq_true rfl) dX0_warmthBehind_34 37 rfl (sn_X0_between (m_4 a1 (1 : Int32).toNatClampNeg) (m_4 a1 (4 : Int32).toNatClampNeg) r_8 r_3  m_9 _ h) (fun r_10 m_11 h => ?_)
  exact q_iret hX dX0_warmthBehind_37 h
set_option maxRecDepth 100000 in
set_option maxHeartbeats 4000000 in
theorem sn_X0_warmthBehind {l : Launch} {G : q_G} (w0 : Nat) (a1 : Nat) (a2 : Int32) (hw0 : q_WB w0) (mem : q_Mem) (Q : Int32 → q_Mem → Prop) (h : wp_X0_warmthBehind w0 a1 a2 mem Q) : q_MI l G yX0_warmthBehind cX0_warmthBehind 5 (some .int) rm_X0_warmthBehind [.ref (q_ad G 31), .ref (q_ad G w0), .ref (q_ad G a1), .int a2] mem Q := by
  refine q_metI 1 (by decide +kernel) (Nat.le_of_ble_eq_true rfl) rfl (fun X hl hX => ?_)
  subst hl
  exact sn_X0_warmthBehind_0 hX w0 a1 a2 hw0 Q mem h

-- X0_excessBehind
def wp_X0_excessBehind  (w0 : Nat) (a1 : Nat) (a2 : Int32)  (mem : q_Mem) (Q : Int32 → q_Mem → Prop) : Prop := wp_X0_warmthBehind w0 a1 a2 mem (fun r_1 m_2 => wp_X0_saturation r_1 m_2 (fun r_3 m_4 => wp_X0_pressureBehind w0 a1 a2 m_4 (fun r_6 m_7 => Q (if (r_6 - r_3) < (0 : Int32) then (0 : Int32) else r_6 - r_3) m_7)))
set_option maxRecDepth 100000 in
set_option maxHeartbeats 4000000 in
theorem sn_X0_excessBehind_0 {X : q_X} {G : q_G} (hX : q_C X cX0_excessBehind 5 RX0 (some .int) 3 70) (w0 : Nat) (a1 : Nat) (a2 : Int32) (hw0 : q_WB w0)  (Q : Int32 → q_Mem → Prop)  (mem : q_Mem) (h : wp_X0_excessBehind  w0 a1 a2  mem Q) : q_J X G 5 (q_QI X G Q) 0 [some (.ref (q_ad G 31)), some (.ref (q_ad G w0)), some (.ref (q_ad G a1)), some (.int a2), none] [] mem := by
  unfold wp_X0_excessBehind at h
  refine q_aload_n hX rfl dX0_excessBehind_0 1 rfl ?_
  refine q_aload_n hX rfl dX0_excessBehind_1 2 rfl ?_
  refine q_aload_n hX rfl dX0_excessBehind_2 3 rfl ?_
  refine q_iload_n hX rfl dX0_excessBehind_3 4 rfl ?_
  refine cl_X0_42 hX  ⟨Nat.le_of_ble_eq_true rfl, Nat.le_of_ble_eq_true rfl⟩ (Nat.le_of_ble_eq_true rfl) dX0_excessBehind_4 7 rfl (sn_X0_warmthBehind w0 a1 a2 hw0 mem _ h) (fun r_1 m_2 h => ?_)
  refine cl_X0_18 hX  ⟨Nat.le_of_ble_eq_true rfl, Nat.le_of_ble_eq_true rfl⟩ (Nat.le_of_ble_eq_true rfl) dX0_excessBehind_7 10 rfl (sn_X0_saturation r_1  m_2 _ h) (fun r_3 m_4 h => ?_)
  refine q_istore hX dX0_excessBehind_10 12 rfl (Nat.le_of_ble_eq_true rfl) rfl (fun y => [some (.ref (q_ad G 31)), some (.ref (q_ad G w0)), some (.ref (q_ad G a1)), some (.int a2), some (.int y)]) (fun _ => rfl) (fun x4_5 ex4_5 => ?_)
  replace ex4_5 := ex4_5.symm; subst ex4_5
  refine q_aload_n hX rfl dX0_excessBehind_12 13 rfl ?_
  refine q_aload_n hX rfl dX0_excessBehind_13 14 rfl ?_
  refine q_aload_n hX rfl dX0_excessBehind_14 15 rfl ?_
  refine q_iload_n hX rfl dX0_excessBehind_15 16 rfl ?_
  refine cl_X0_38 hX  ⟨Nat.le_of_ble_eq_true rfl, Nat.le_of_ble_eq_true rfl⟩ (Nat.le_of_ble_eq_true rfl) dX0_excessBehind_16 19 rfl (sn_X0_pressureBehind w0 a1 a2 hw0 m_4 _ h) (fun r_6 m_7 h => ?_)
  refine q_iload hX rfl dX0_excessBehind_19 21 rfl ?_
  refine q_isub hX dX0_excessBehind_21 22 rfl ?_
  refine q_iconst hX (0 : Int32) q_ki_0 dX0_excessBehind_22 23 rfl ?_
  refine q_max hX (Nat.le_of_ble_eq_true rfl) (Nat.le_of_ble_eq_true rfl) tw_393 tw_310 tw_64 tw_311 dX0_excessBehind_23 26 rfl ?_
  exact q_iret hX dX0_excessBehind_26 h
set_option maxRecDepth 100000 in
set_option maxHeartbeats 4000000 in
theorem sn_X0_excessBehind {l : Launch} {G : q_G} (w0 : Nat) (a1 : Nat) (a2 : Int32) (hw0 : q_WB w0) (mem : q_Mem) (Q : Int32 → q_Mem → Prop) (h : wp_X0_excessBehind w0 a1 a2 mem Q) : q_MI l G yX0_excessBehind cX0_excessBehind 5 (some .int) rm_X0_excessBehind [.ref (q_ad G 31), .ref (q_ad G w0), .ref (q_ad G a1), .int a2] mem Q := by
  refine q_metI 1 (by decide +kernel) (Nat.le_of_ble_eq_true rfl) rfl (fun X hl hX => ?_)
  subst hl
  exact sn_X0_excessBehind_0 hX w0 a1 a2 hw0 Q mem h

-- X0_weighSets
def wp_X0_weighSets_86 (K20 : Int32 → q_Mem → Prop) (w0 : Nat) (a1 : Nat) (x4 : Int32) (s4 : Int32) (s3 : Int32) (s2 : Int32) (mem : q_Mem) (Q : q_Mem → Prop) : Prop := vp_in s2 (q_al 32) ∧ (∀ m_2 : q_Mem, m_2 = q_set mem 32 (upd (mem 32) s2.toNatClampNeg (s3 + s4)) → ∀ x4_3 : Int32, x4_3 = (x4 + (-1 : Int32)) → K20 x4_3 m_2)
def wp_X0_weighSets_59 (K20 : Int32 → q_Mem → Prop) (w0 : Nat) (a1 : Nat) (x4 : Int32) (s1 : Int32) (mem : q_Mem) (Q : q_Mem → Prop) : Prop := ((¬ x4 = 0) → wp_X0_excessBehind w0 a1 x4 mem (fun r_3 m_4 => wp_X0_weighSets_86 K20 w0 a1 x4 r_3 s1 x4 m_4 Q)) ∧ ((x4 = 0) → wp_X0_weighSets_86 K20 w0 a1 x4 (0 : Int32) s1 x4 mem Q)
def wp_X0_weighSets_20_b (K20 : Int32 → q_Mem → Prop) (w0 : Nat) (a1 : Nat) (x4 : Int32) (mem : q_Mem) (Q : q_Mem → Prop) : Prop := ((x4 < 0) → Q mem) ∧ ((¬ x4 < 0) → wp_X0_bestBehind x4 (mem w0 11) mem (fun r_2 m_3 => ((¬ r_2 = (-1 : Int32)) → vp_in (x4 ||| ((1 : Int32) <<< (r_2 &&& 31))) (q_al 32) ∧ (wp_X0_weighSets_59 K20 w0 a1 x4 (m_3 32 (x4 ||| ((1 : Int32) <<< (r_2 &&& 31))).toNatClampNeg) m_3 Q)) ∧ ((r_2 = (-1 : Int32)) → wp_X0_weighSets_59 K20 w0 a1 x4 (0 : Int32) m_3 Q)))
def wp_X0_weighSets_20  (w0 : Nat) (a1 : Nat) (x4 : Int32) (mem : q_Mem) (Q : q_Mem → Prop) : Prop := ∃ I : Nat → Int32 → q_Mem → Prop, (∃ n, I n x4 mem) ∧ ∀ (n : Nat) (yx4 : Int32) (ymem : q_Mem), I n yx4 ymem → wp_X0_weighSets_20_b  (fun (zx4 : Int32) (zmem : q_Mem) => ∃ n2, n2 < n ∧ I n2 zx4 zmem) w0 a1 yx4 ymem Q
def wp_X0_weighSets  (w0 : Nat) (a1 : Nat)  (mem : q_Mem) (Q : q_Mem → Prop) : Prop := wp_X1_firstLayers (mem w0 11) mem (fun r_1 m_2 => vp_in r_1 (q_al 32) ∧ (∀ m_5 : q_Mem, m_5 = q_set m_2 32 (upd (m_2 32) r_1.toNatClampNeg (0 : Int32)) → ∀ x4_6 : Int32, x4_6 = (r_1 - (1 : Int32)) → wp_X0_weighSets_20  w0 a1 x4_6 m_5 Q))
set_option maxRecDepth 100000 in
set_option maxHeartbeats 4000000 in
theorem sn_X0_weighSets_86 {X : q_X} {G : q_G} (hX : q_C X cX0_weighSets 7 RX0 none 4 94) (w0 : Nat) (a1 : Nat) (hw0 : q_WB w0) (x4 : Int32) (s4 : Int32) (s3 : Int32) (s2 : Int32) (Q : q_Mem → Prop) (K20 : Int32 → q_Mem → Prop) (hK20 : ∀ (yx4 : Int32) (ymem : q_Mem), K20 yx4 ymem → q_J X G 7 (q_QV X G Q) 20 [some (.ref (q_ad G 31)), some (.ref (q_ad G w0)), some (.ref (q_ad G a1)), none, some (.int yx4), none, none] [] ymem) (mem : q_Mem) (h : wp_X0_weighSets_86 K20 w0 a1 x4 s4 s3 s2 mem Q) : q_J X G 7 (q_QV X G Q) 86 [some (.ref (q_ad G 31)), some (.ref (q_ad G w0)), some (.ref (q_ad G a1)), none, some (.int x4), none, none] [.int s4, .int s3, .int s2, .ref (q_ad G 32)] mem := by
  unfold wp_X0_weighSets_86 at h
  refine q_iadd hX dX0_weighSets_86 87 rfl ?_
  obtain ⟨g_1, h⟩ := h
  refine q_iast hX g_1 dX0_weighSets_87 88 rfl (fun m_2 em_2 => ?_)
  replace h := h m_2 em_2
  refine q_iinc hX (-1 : Int32) q_ki_m1 rfl dX0_weighSets_88 91 rfl (Nat.le_of_ble_eq_true rfl) rfl (fun y => [some (.ref (q_ad G 31)), some (.ref (q_ad G w0)), some (.ref (q_ad G a1)), none, some (.int y), none, none]) (fun _ => rfl) (fun x4_3 ex4_3 => ?_)
  replace h := h x4_3 ex4_3
  refine q_goto hX dX0_weighSets_91 20 (by decide) ?_
  exact q_weak [true, true, true, false, true, false, false] rfl (hK20 x4_3 m_2 h)
set_option maxRecDepth 100000 in
set_option maxHeartbeats 4000000 in
theorem sn_X0_weighSets_59 {X : q_X} {G : q_G} (hX : q_C X cX0_weighSets 7 RX0 none 4 94) (w0 : Nat) (a1 : Nat) (hw0 : q_WB w0) (x4 : Int32) (s1 : Int32) (Q : q_Mem → Prop) (K20 : Int32 → q_Mem → Prop) (hK20 : ∀ (yx4 : Int32) (ymem : q_Mem), K20 yx4 ymem → q_J X G 7 (q_QV X G Q) 20 [some (.ref (q_ad G 31)), some (.ref (q_ad G w0)), some (.ref (q_ad G a1)), none, some (.int yx4), none, none] [] ymem) (mem : q_Mem) (h : wp_X0_weighSets_59 K20 w0 a1 x4 s1 mem Q) : q_J X G 7 (q_QV X G Q) 59 [some (.ref (q_ad G 31)), some (.ref (q_ad G w0)), some (.ref (q_ad G a1)), none, some (.int x4), none, none] [.int s1] mem := by
  unfold wp_X0_weighSets_59 at h
  refine q_istore hX dX0_weighSets_59 61 rfl (Nat.le_of_ble_eq_true rfl) rfl (fun y => [some (.ref (q_ad G 31)), some (.ref (q_ad G w0)), some (.ref (q_ad G a1)), none, some (.int x4), none, some (.int y)]) (fun _ => rfl) (fun x6_1 ex6_1 => ?_)
  replace ex6_1 := ex6_1.symm; subst ex6_1
  refine q_aload_n hX rfl dX0_weighSets_61 62 rfl ?_
  refine gf_X0_9 hX dX0_weighSets_62 65 rfl ?_
  refine q_iload hX rfl dX0_weighSets_65 67 rfl ?_
  refine q_iload hX rfl dX0_weighSets_67 69 rfl ?_
  refine q_iload hX rfl dX0_weighSets_69 71 rfl ?_
  refine q_if_ne hX dX0_weighSets_71 74 78 rfl (by decide) (fun c_2 => ?_) (fun c_2 => ?_)
  · replace h := h.1 c_2
    refine q_aload_n hX rfl dX0_weighSets_78 79 rfl ?_
    refine q_aload_n hX rfl dX0_weighSets_79 80 rfl ?_
    refine q_aload_n hX rfl dX0_weighSets_80 81 rfl ?_
    refine q_iload hX rfl dX0_weighSets_81 83 rfl ?_
    refine cl_X0_71 hX  ⟨Nat.le_of_ble_eq_true rfl, Nat.le_of_ble_eq_true rfl⟩ (Nat.le_of_ble_eq_true rfl) dX0_weighSets_83 86 rfl (sn_X0_excessBehind w0 a1 x4 hw0 mem _ h) (fun r_3 m_4 h => ?_)
    exact q_weak [true, true, true, false, true, false, false] rfl (sn_X0_weighSets_86 hX  w0 a1 hw0 x4 r_3 s1 x4 Q K20 hK20 m_4 h)
  · replace h := h.2 c_2
    refine q_iconst hX (0 : Int32) q_ki_0 dX0_weighSets_74 75 rfl ?_
    refine q_goto hX dX0_weighSets_75 86 (by decide) ?_
    exact q_weak [true, true, true, false, true, false, false] rfl (sn_X0_weighSets_86 hX  w0 a1 hw0 x4 (0 : Int32) s1 x4 Q K20 hK20 mem h)
set_option maxRecDepth 100000 in
set_option maxHeartbeats 4000000 in
theorem sn_X0_weighSets_20_b {X : q_X} {G : q_G} (hX : q_C X cX0_weighSets 7 RX0 none 4 94) (w0 : Nat) (a1 : Nat) (hw0 : q_WB w0) (x4 : Int32) (Q : q_Mem → Prop) (K20 : Int32 → q_Mem → Prop) (hK20 : ∀ (yx4 : Int32) (ymem : q_Mem), K20 yx4 ymem → q_J X G 7 (q_QV X G Q) 20 [some (.ref (q_ad G 31)), some (.ref (q_ad G w0)), some (.ref (q_ad G a1)), none, some (.int yx4), none, none] [] ymem) (mem : q_Mem) (h : wp_X0_weighSets_20_b K20 w0 a1 x4 mem Q) : q_J X G 7 (q_QV X G Q) 20 [some (.ref (q_ad G 31)), some (.ref (q_ad G w0)), some (.ref (q_ad G a1)), none, some (.int x4), none, none] [] mem := by
  unfold wp_X0_weighSets_20_b at h
  refine q_iload hX rfl dX0_weighSets_20 22 rfl ?_
  refine q_if_lt hX dX0_weighSets_22 25 94 rfl (by decide) (fun c_1 => ?_) (fun c_1 => ?_)
  · replace h := h.1 c_1
    exact q_vret hX dX0_weighSets_94 h
  · replace h := h.2 c_1
    refine q_aload_n hX rfl dX0_weighSets_25 26 rfl ?_
    refine q_iload hX rfl dX0_weighSets_26 28 rfl ?_
    refine q_aload_n hX rfl dX0_weighSets_28 29 rfl ?_
    refine gf_X0_29 hX hw0 dX0_weighSets_29 32 rfl ?_
    refine cl_X0_68 hX  ⟨Nat.le_of_ble_eq_true rfl, Nat.le_of_ble_eq_true rfl⟩ (Nat.le_of_ble_eq_true rfl) dX0_weighSets_32 35 rfl (sn_X0_bestBehind x4 (mem w0 11)  mem _ h) (fun r_2 m_3 h => ?_)
    refine q_istore hX dX0_weighSets_35 37 rfl (Nat.le_of_ble_eq_true rfl) rfl (fun y => [some (.ref (q_ad G 31)), some (.ref (q_ad G w0)), some (.ref (q_ad G a1)), none, some (.int x4), some (.int y), none]) (fun _ => rfl) (fun x5_4 ex5_4 => ?_)
    replace ex5_4 := ex5_4.symm; subst ex5_4
    refine q_iload hX rfl dX0_weighSets_37 39 rfl ?_
    refine q_iconst hX (-1 : Int32) q_ki_m1 dX0_weighSets_39 40 rfl ?_
    refine q_icmp_ne hX dX0_weighSets_40 43 47 rfl (by decide) (fun c_5 => ?_) (fun c_5 => ?_)
    · replace h := h.1 c_5
      refine q_aload_n hX rfl dX0_weighSets_47 48 rfl ?_
      refine gf_X0_9 hX dX0_weighSets_48 51 rfl ?_
      refine q_iload hX rfl dX0_weighSets_51 53 rfl ?_
      refine q_iconst hX (1 : Int32) q_ki_1 dX0_weighSets_53 54 rfl ?_
      refine q_iload hX rfl dX0_weighSets_54 56 rfl ?_
      refine q_ishl hX dX0_weighSets_56 57 rfl ?_
      refine q_ior hX dX0_weighSets_57 58 rfl ?_
      obtain ⟨g_6, h⟩ := h
      refine q_iald hX g_6 dX0_weighSets_58 59 rfl ?_
      exact q_weak [true, true, true, false, true, false, false] rfl (sn_X0_weighSets_59 hX  w0 a1 hw0 x4 (m_3 32 (x4 ||| ((1 : Int32) <<< (r_2 &&& 31))).toNatClampNeg) Q K20 hK20 m_3 h)
    · replace h := h.2 c_5
      refine q_iconst hX (0 : Int32) q_ki_0 dX0_weighSets_43 44 rfl ?_
      refine q_goto hX dX0_weighSets_44 59 (by decide) ?_
      exact q_weak [true, true, true, false, true, false, false] rfl (sn_X0_weighSets_59 hX  w0 a1 hw0 x4 (0 : Int32) Q K20 hK20 m_3 h)
set_option maxRecDepth 100000 in
set_option maxHeartbeats 4000000 in
theorem sn_X0_weighSets_20 {X : q_X} {G : q_G} (hX : q_C X cX0_weighSets 7 RX0 none 4 94) (w0 : Nat) (a1 : Nat) (hw0 : q_WB w0) (x4 : Int32) (Q : q_Mem → Prop)  (mem : q_Mem) (h : wp_X0_weighSets_20  w0 a1 x4 mem Q) : q_J X G 7 (q_QV X G Q) 20 [some (.ref (q_ad G 31)), some (.ref (q_ad G w0)), some (.ref (q_ad G a1)), none, some (.int x4), none, none] [] mem := by
  obtain ⟨I, ⟨n, h0⟩, hs⟩ := h
  have key : ∀ (n : Nat) (yx4 : Int32) (ymem : q_Mem), I n yx4 ymem → q_J X G 7 (q_QV X G Q) 20 [some (.ref (q_ad G 31)), some (.ref (q_ad G w0)), some (.ref (q_ad G a1)), none, some (.int yx4), none, none] [] ymem := by
    intro n
    induction n using Nat.strongRecOn with
    | ind n ih =>
      intro yx4 ymem hI
      exact sn_X0_weighSets_20_b hX  w0 a1 hw0 yx4 Q  (fun (zx4 : Int32) (zmem : q_Mem) => ∃ n2, n2 < n ∧ I n2 zx4 zmem) (fun zx4 zmem hz => by obtain ⟨n2, h1, h2⟩ := hz; exact ih n2 h1 zx4 zmem h2) ymem (hs n yx4 ymem hI)
  exact key n x4 mem h0
set_option maxRecDepth 100000 in
set_option maxHeartbeats 4000000 in
theorem sn_X0_weighSets_0 {X : q_X} {G : q_G} (hX : q_C X cX0_weighSets 7 RX0 none 4 94) (w0 : Nat) (a1 : Nat) (hw0 : q_WB w0)  (Q : q_Mem → Prop)  (mem : q_Mem) (h : wp_X0_weighSets  w0 a1  mem Q) : q_J X G 7 (q_QV X G Q) 0 [some (.ref (q_ad G 31)), some (.ref (q_ad G w0)), some (.ref (q_ad G a1)), none, none, none, none] [] mem := by
  unfold wp_X0_weighSets at h
  refine q_aload_n hX rfl dX0_weighSets_0 1 rfl ?_
  refine gf_X0_29 hX hw0 dX0_weighSets_1 4 rfl ?_
  refine cl_X0_35 hX  ⟨Nat.le_of_ble_eq_true rfl, Nat.le_of_ble_eq_true rfl⟩ (Nat.le_of_ble_eq_true rfl) dX0_weighSets_4 7 rfl (sn_X1_firstLayers (mem w0 11)  mem _ h) (fun r_1 m_2 h => ?_)
  refine q_istore_n hX dX0_weighSets_7 8 rfl (Nat.le_of_ble_eq_true rfl) rfl (fun y => [some (.ref (q_ad G 31)), some (.ref (q_ad G w0)), some (.ref (q_ad G a1)), some (.int y), none, none, none]) (fun _ => rfl) (fun x3_3 ex3_3 => ?_)
  replace ex3_3 := ex3_3.symm; subst ex3_3
  refine q_aload_n hX rfl dX0_weighSets_8 9 rfl ?_
  refine gf_X0_9 hX dX0_weighSets_9 12 rfl ?_
  refine q_iload_n hX rfl dX0_weighSets_12 13 rfl ?_
  refine q_iconst hX (0 : Int32) q_ki_0 dX0_weighSets_13 14 rfl ?_
  obtain ⟨g_4, h⟩ := h
  refine q_iast hX g_4 dX0_weighSets_14 15 rfl (fun m_5 em_5 => ?_)
  replace h := h m_5 em_5
  refine q_iload_n hX rfl dX0_weighSets_15 16 rfl ?_
  refine q_iconst hX (1 : Int32) q_ki_1 dX0_weighSets_16 17 rfl ?_
  refine q_isub hX dX0_weighSets_17 18 rfl ?_
  refine q_istore hX dX0_weighSets_18 20 rfl (Nat.le_of_ble_eq_true rfl) rfl (fun y => [some (.ref (q_ad G 31)), some (.ref (q_ad G w0)), some (.ref (q_ad G a1)), some (.int r_1), some (.int y), none, none]) (fun _ => rfl) (fun x4_6 ex4_6 => ?_)
  replace h := h x4_6 ex4_6
  exact q_weak [true, true, true, false, true, false, false] rfl (sn_X0_weighSets_20 hX  w0 a1 hw0 x4_6 Q  m_5 h)
set_option maxRecDepth 100000 in
set_option maxHeartbeats 4000000 in
theorem sn_X0_weighSets {l : Launch} {G : q_G} (w0 : Nat) (a1 : Nat) (hw0 : q_WB w0) (mem : q_Mem) (Q : q_Mem → Prop) (h : wp_X0_weighSets w0 a1 mem Q) : q_MV l G yX0_weighSets cX0_weighSets 7 none rm_X0_weighSets [.ref (q_ad G 31), .ref (q_ad G w0), .ref (q_ad G a1)] mem Q := by
  refine q_metV 4 (by decide +kernel) (Nat.le_of_ble_eq_true rfl) rfl (fun X hl hX => ?_)
  subst hl
  exact sn_X0_weighSets_0 hX w0 a1 hw0 Q mem h

-- X0_findBestOrder
def wp_X0_findBestOrder_59  (w0 : Nat) (a1 : Nat)  (mem : q_Mem) (Q : Int32 → q_Mem → Prop) : Prop := vp_in (0 : Int32) (q_al 32) ∧ (Q (mem 32 (0 : Int32).toNatClampNeg) mem)
def wp_X0_findBestOrder_53 (K11 : Int32 → Int32 → q_Mem → Prop) (w0 : Nat) (a1 : Nat) (x3 : Int32) (x4 : Int32) (mem : q_Mem) (Q : Int32 → q_Mem → Prop) : Prop := ∀ x4_1 : Int32, x4_1 = (x4 + (1 : Int32)) → K11 x3 x4_1 mem
def wp_X0_findBestOrder_11_b (K11 : Int32 → Int32 → q_Mem → Prop) (w0 : Nat) (a1 : Nat) (x3 : Int32) (x4 : Int32) (mem : q_Mem) (Q : Int32 → q_Mem → Prop) : Prop := (((mem w0 11) ≤ x4) → wp_X0_findBestOrder_59  w0 a1  mem Q) ∧ ((¬ (mem w0 11) ≤ x4) → wp_X0_bestBehind x3 (mem w0 11) mem (fun r_2 m_3 => ((r_2 = (-1 : Int32)) → wp_X0_findBestOrder_53 K11 w0 a1 x3 x4 m_3 Q) ∧ ((¬ r_2 = (-1 : Int32)) → vp_in x4 (q_al 33) ∧ (∀ m_7 : q_Mem, m_7 = q_set m_3 33 (upd (m_3 33) x4.toNatClampNeg r_2) → ∀ x3_8 : Int32, x3_8 = (x3 ||| ((1 : Int32) <<< (r_2 &&& 31))) → wp_X0_findBestOrder_53 K11 w0 a1 x3_8 x4 m_7 Q))))
def wp_X0_findBestOrder_11  (w0 : Nat) (a1 : Nat) (x3 : Int32) (x4 : Int32) (mem : q_Mem) (Q : Int32 → q_Mem → Prop) : Prop := ∃ I : Nat → Int32 → Int32 → q_Mem → Prop, (∃ n, I n x3 x4 mem) ∧ ∀ (n : Nat) (yx3 : Int32) (yx4 : Int32) (ymem : q_Mem), I n yx3 yx4 ymem → wp_X0_findBestOrder_11_b  (fun (zx3 : Int32) (zx4 : Int32) (zmem : q_Mem) => ∃ n2, n2 < n ∧ I n2 zx3 zx4 zmem) w0 a1 yx3 yx4 ymem Q
def wp_X0_findBestOrder  (w0 : Nat) (a1 : Nat)  (mem : q_Mem) (Q : Int32 → q_Mem → Prop) : Prop := wp_X0_weighSets w0 a1 mem (fun m_2 => wp_X0_findBestOrder_11  w0 a1 (0 : Int32) (0 : Int32) m_2 Q)
set_option maxRecDepth 100000 in
set_option maxHeartbeats 4000000 in
theorem sn_X0_findBestOrder_59 {X : q_X} {G : q_G} (hX : q_C X cX0_findBestOrder 6 RX0 (some .int) 5 120) (w0 : Nat) (a1 : Nat) (hw0 : q_WB w0)  (Q : Int32 → q_Mem → Prop)  (mem : q_Mem) (h : wp_X0_findBestOrder_59  w0 a1  mem Q) : q_J X G 6 (q_QI X G Q) 59 [some (.ref (q_ad G 31)), some (.ref (q_ad G w0)), some (.ref (q_ad G a1)), none, none, none] [] mem := by
  unfold wp_X0_findBestOrder_59 at h
  refine q_aload_n hX rfl dX0_findBestOrder_59 60 rfl ?_
  refine gf_X0_9 hX dX0_findBestOrder_60 63 rfl ?_
  refine q_iconst hX (0 : Int32) q_ki_0 dX0_findBestOrder_63 64 rfl ?_
  obtain ⟨g_1, h⟩ := h
  refine q_iald hX g_1 dX0_findBestOrder_64 65 rfl ?_
  exact q_iret hX dX0_findBestOrder_65 h
set_option maxRecDepth 100000 in
set_option maxHeartbeats 4000000 in
theorem sn_X0_findBestOrder_53 {X : q_X} {G : q_G} (hX : q_C X cX0_findBestOrder 6 RX0 (some .int) 5 120) (w0 : Nat) (a1 : Nat) (hw0 : q_WB w0) (x3 : Int32) (x4 : Int32) (Q : Int32 → q_Mem → Prop) (K11 : Int32 → Int32 → q_Mem → Prop) (hK11 : ∀ (yx3 : Int32) (yx4 : Int32) (ymem : q_Mem), K11 yx3 yx4 ymem → q_J X G 6 (q_QI X G Q) 11 [some (.ref (q_ad G 31)), some (.ref (q_ad G w0)), some (.ref (q_ad G a1)), some (.int yx3), some (.int yx4), none] [] ymem) (mem : q_Mem) (h : wp_X0_findBestOrder_53 K11 w0 a1 x3 x4 mem Q) : q_J X G 6 (q_QI X G Q) 53 [some (.ref (q_ad G 31)), some (.ref (q_ad G w0)), some (.ref (q_ad G a1)), some (.int x3), some (.int x4), none] [] mem := by
  unfold wp_X0_findBestOrder_53 at h
  refine q_iinc hX (1 : Int32) q_ki_1 rfl dX0_findBestOrder_53 56 rfl (Nat.le_of_ble_eq_true rfl) rfl (fun y => [some (.ref (q_ad G 31)), some (.ref (q_ad G w0)), some (.ref (q_ad G a1)), some (.int x3), some (.int y), none]) (fun _ => rfl) (fun x4_1 ex4_1 => ?_)
  replace h := h x4_1 ex4_1
  refine q_goto hX dX0_findBestOrder_56 11 (by decide) ?_
  exact q_weak [true, true, true, true, true, false] rfl (hK11 x3 x4_1 mem h)
set_option maxRecDepth 100000 in
set_option maxHeartbeats 4000000 in
theorem sn_X0_findBestOrder_11_b {X : q_X} {G : q_G} (hX : q_C X cX0_findBestOrder 6 RX0 (some .int) 5 120) (w0 : Nat) (a1 : Nat) (hw0 : q_WB w0) (x3 : Int32) (x4 : Int32) (Q : Int32 → q_Mem → Prop) (K11 : Int32 → Int32 → q_Mem → Prop) (hK11 : ∀ (yx3 : Int32) (yx4 : Int32) (ymem : q_Mem), K11 yx3 yx4 ymem → q_J X G 6 (q_QI X G Q) 11 [some (.ref (q_ad G 31)), some (.ref (q_ad G w0)), some (.ref (q_ad G a1)), some (.int yx3), some (.int yx4), none] [] ymem) (mem : q_Mem) (h : wp_X0_findBestOrder_11_b K11 w0 a1 x3 x4 mem Q) : q_J X G 6 (q_QI X G Q) 11 [some (.ref (q_ad G 31)), some (.ref (q_ad G w0)), some (.ref (q_ad G a1)), some (.int x3), some (.int x4), none] [] mem := by
  unfold wp_X0_findBestOrder_11_b at h
  refine q_iload hX rfl dX0_findBestOrder_11 13 rfl ?_
  refine q_aload_n hX rfl dX0_findBestOrder_13 14 rfl ?_
  refine gf_X0_29 hX hw0 dX0_findBestOrder_14 17 rfl ?_
  refine q_icmp_ge hX dX0_findBestOrder_17 20 59 rfl (by decide) (fun c_1 => ?_) (fun c_1 => ?_)
  · replace h := h.1 c_1
    exact q_weak [true, true, true, false, false, false] rfl (sn_X0_findBestOrder_59 hX  w0 a1 hw0  Q  mem h)
  · replace h := h.2 c_1
    refine q_aload_n hX rfl dX0_findBestOrder_20 21 rfl ?_
    refine q_iload_n hX rfl dX0_findBestOrder_21 22 rfl ?_
    refine q_aload_n hX rfl dX0_findBestOrder_22 23 rfl ?_
    refine gf_X0_29 hX hw0 dX0_findBestOrder_23 26 rfl ?_
    refine cl_X0_68 hX  ⟨Nat.le_of_ble_eq_true rfl, Nat.le_of_ble_eq_true rfl⟩ (Nat.le_of_ble_eq_true rfl) dX0_findBestOrder_26 29 rfl (sn_X0_bestBehind x3 (mem w0 11)  mem _ h) (fun r_2 m_3 h => ?_)
    refine q_istore hX dX0_findBestOrder_29 31 rfl (Nat.le_of_ble_eq_true rfl) rfl (fun y => [some (.ref (q_ad G 31)), some (.ref (q_ad G w0)), some (.ref (q_ad G a1)), some (.int x3), some (.int x4), some (.int y)]) (fun _ => rfl) (fun x5_4 ex5_4 => ?_)
    replace ex5_4 := ex5_4.symm; subst ex5_4
    refine q_iload hX rfl dX0_findBestOrder_31 33 rfl ?_
    refine q_iconst hX (-1 : Int32) q_ki_m1 dX0_findBestOrder_33 34 rfl ?_
    refine q_icmp_eq hX dX0_findBestOrder_34 37 53 rfl (by decide) (fun c_5 => ?_) (fun c_5 => ?_)
    · replace h := h.1 c_5
      exact q_weak [true, true, true, true, true, false] rfl (sn_X0_findBestOrder_53 hX  w0 a1 hw0 x3 x4 Q K11 hK11 m_3 h)
    · replace h := h.2 c_5
      refine q_aload_n hX rfl dX0_findBestOrder_37 38 rfl ?_
      refine gf_X0_15 hX dX0_findBestOrder_38 41 rfl ?_
      refine q_iload hX rfl dX0_findBestOrder_41 43 rfl ?_
      refine q_iload hX rfl dX0_findBestOrder_43 45 rfl ?_
      obtain ⟨g_6, h⟩ := h
      refine q_iast hX g_6 dX0_findBestOrder_45 46 rfl (fun m_7 em_7 => ?_)
      replace h := h m_7 em_7
      refine q_iload_n hX rfl dX0_findBestOrder_46 47 rfl ?_
      refine q_iconst hX (1 : Int32) q_ki_1 dX0_findBestOrder_47 48 rfl ?_
      refine q_iload hX rfl dX0_findBestOrder_48 50 rfl ?_
      refine q_ishl hX dX0_findBestOrder_50 51 rfl ?_
      refine q_ior hX dX0_findBestOrder_51 52 rfl ?_
      refine q_istore_n hX dX0_findBestOrder_52 53 rfl (Nat.le_of_ble_eq_true rfl) rfl (fun y => [some (.ref (q_ad G 31)), some (.ref (q_ad G w0)), some (.ref (q_ad G a1)), some (.int y), some (.int x4), some (.int r_2)]) (fun _ => rfl) (fun x3_8 ex3_8 => ?_)
      replace h := h x3_8 ex3_8
      exact q_weak [true, true, true, true, true, false] rfl (sn_X0_findBestOrder_53 hX  w0 a1 hw0 x3_8 x4 Q K11 hK11 m_7 h)
set_option maxRecDepth 100000 in
set_option maxHeartbeats 4000000 in
theorem sn_X0_findBestOrder_11 {X : q_X} {G : q_G} (hX : q_C X cX0_findBestOrder 6 RX0 (some .int) 5 120) (w0 : Nat) (a1 : Nat) (hw0 : q_WB w0) (x3 : Int32) (x4 : Int32) (Q : Int32 → q_Mem → Prop)  (mem : q_Mem) (h : wp_X0_findBestOrder_11  w0 a1 x3 x4 mem Q) : q_J X G 6 (q_QI X G Q) 11 [some (.ref (q_ad G 31)), some (.ref (q_ad G w0)), some (.ref (q_ad G a1)), some (.int x3), some (.int x4), none] [] mem := by
  obtain ⟨I, ⟨n, h0⟩, hs⟩ := h
  have key : ∀ (n : Nat) (yx3 : Int32) (yx4 : Int32) (ymem : q_Mem), I n yx3 yx4 ymem → q_J X G 6 (q_QI X G Q) 11 [some (.ref (q_ad G 31)), some (.ref (q_ad G w0)), some (.ref (q_ad G a1)), some (.int yx3), some (.int yx4), none] [] ymem := by
    intro n
    induction n using Nat.strongRecOn with
    | ind n ih =>
      intro yx3 yx4 ymem hI
      exact sn_X0_findBestOrder_11_b hX  w0 a1 hw0 yx3 yx4 Q  (fun (zx3 : Int32) (zx4 : Int32) (zmem : q_Mem) => ∃ n2, n2 < n ∧ I n2 zx3 zx4 zmem) (fun zx3 zx4 zmem hz => by obtain ⟨n2, h1, h2⟩ := hz; exact ih n2 h1 zx3 zx4 zmem h2) ymem (hs n yx3 yx4 ymem hI)
  exact key n x3 x4 mem h0
set_option maxRecDepth 100000 in
set_option maxHeartbeats 4000000 in
theorem sn_X0_findBestOrder_0 {X : q_X} {G : q_G} (hX : q_C X cX0_findBestOrder 6 RX0 (some .int) 5 120) (w0 : Nat) (a1 : Nat) (hw0 : q_WB w0)  (Q : Int32 → q_Mem → Prop)  (mem : q_Mem) (h : wp_X0_findBestOrder  w0 a1  mem Q) : q_J X G 6 (q_QI X G Q) 0 [some (.ref (q_ad G 31)), some (.ref (q_ad G w0)), some (.ref (q_ad G a1)), none, none, none] [] mem := by
  unfold wp_X0_findBestOrder at h
  refine q_aload_n hX rfl dX0_findBestOrder_0 1 rfl ?_
  refine q_aload_n hX rfl dX0_findBestOrder_1 2 rfl ?_
  refine q_aload_n hX rfl dX0_findBestOrder_2 3 rfl ?_
  refine cl_X0_64 hX  ⟨Nat.le_of_ble_eq_true rfl, Nat.le_of_ble_eq_true rfl⟩ (Nat.le_of_ble_eq_true rfl) dX0_findBestOrder_3 6 rfl (sn_X0_weighSets w0 a1 hw0 mem _ h) (fun m_2 h => ?_)
  refine q_iconst hX (0 : Int32) q_ki_0 dX0_findBestOrder_6 7 rfl ?_
  refine q_istore_n hX dX0_findBestOrder_7 8 rfl (Nat.le_of_ble_eq_true rfl) rfl (fun y => [some (.ref (q_ad G 31)), some (.ref (q_ad G w0)), some (.ref (q_ad G a1)), some (.int y), none, none]) (fun _ => rfl) (fun x3_3 ex3_3 => ?_)
  replace ex3_3 := ex3_3.symm; subst ex3_3
  refine q_iconst hX (0 : Int32) q_ki_0 dX0_findBestOrder_8 9 rfl ?_
  refine q_istore hX dX0_findBestOrder_9 11 rfl (Nat.le_of_ble_eq_true rfl) rfl (fun y => [some (.ref (q_ad G 31)), some (.ref (q_ad G w0)), some (.ref (q_ad G a1)), some (.int (0 : Int32)), some (.int y), none]) (fun _ => rfl) (fun x4_4 ex4_4 => ?_)
  replace ex4_4 := ex4_4.symm; subst ex4_4
  exact q_weak [true, true, true, true, true, false] rfl (sn_X0_findBestOrder_11 hX  w0 a1 hw0 (0 : Int32) (0 : Int32) Q  m_2 h)
set_option maxRecDepth 100000 in
set_option maxHeartbeats 4000000 in
theorem sn_X0_findBestOrder {l : Launch} {G : q_G} (w0 : Nat) (a1 : Nat) (hw0 : q_WB w0) (mem : q_Mem) (Q : Int32 → q_Mem → Prop) (h : wp_X0_findBestOrder w0 a1 mem Q) : q_MI l G yX0_findBestOrder cX0_findBestOrder 6 (some .int) rm_X0_findBestOrder [.ref (q_ad G 31), .ref (q_ad G w0), .ref (q_ad G a1)] mem Q := by
  refine q_metI 3 (by decide +kernel) (Nat.le_of_ble_eq_true rfl) rfl (fun X hl hX => ?_)
  subst hl
  exact sn_X0_findBestOrder_0 hX w0 a1 hw0 Q mem h

-- X0_pressureAt
def wp_X0_pressureAt  (w0 : Nat) (a1 : Nat) (a2 : Int32)  (mem : q_Mem) (Q : Int32 → q_Mem → Prop) : Prop := ((0 < a2) → ((a2 < (mem w0 11)) → wp_X1_firstLayers a2 mem (fun r_3 m_4 => wp_X0_pressureBehind w0 a1 r_3 m_4 (fun r_5 m_6 => Q r_5 m_6))) ∧ ((¬ a2 < (mem w0 11)) → vp_in (3 : Int32) (q_al a1) ∧ (vp_in (4 : Int32) (q_al a1) ∧ (wp_X0_pressureIn (mem a1 (3 : Int32).toNatClampNeg) (mem a1 (4 : Int32).toNatClampNeg) mem (fun r_9 m_10 => Q r_9 m_10))))) ∧ ((¬ 0 < a2) → vp_in (0 : Int32) (q_al a1) ∧ (vp_in (1 : Int32) (q_al a1) ∧ (wp_X0_pressureIn (mem a1 (0 : Int32).toNatClampNeg) (mem a1 (1 : Int32).toNatClampNeg) mem (fun r_13 m_14 => Q r_13 m_14))))
set_option maxRecDepth 100000 in
set_option maxHeartbeats 4000000 in
theorem sn_X0_pressureAt_0 {X : q_X} {G : q_G} (hX : q_C X cX0_pressureAt 4 RX0 (some .int) 3 70) (w0 : Nat) (a1 : Nat) (a2 : Int32) (hw0 : q_WB w0)  (Q : Int32 → q_Mem → Prop)  (mem : q_Mem) (h : wp_X0_pressureAt  w0 a1 a2  mem Q) : q_J X G 4 (q_QI X G Q) 0 [some (.ref (q_ad G 31)), some (.ref (q_ad G w0)), some (.ref (q_ad G a1)), some (.int a2)] [] mem := by
  unfold wp_X0_pressureAt at h
  refine q_iload_n hX rfl dX0_pressureAt_0 1 rfl ?_
  refine q_if_gt hX dX0_pressureAt_1 4 14 rfl (by decide) (fun c_1 => ?_) (fun c_1 => ?_)
  · replace h := h.1 c_1
    refine q_iload_n hX rfl dX0_pressureAt_14 15 rfl ?_
    refine q_aload_n hX rfl dX0_pressureAt_15 16 rfl ?_
    refine gf_X0_29 hX hw0 dX0_pressureAt_16 19 rfl ?_
    refine q_icmp_lt hX dX0_pressureAt_19 22 32 rfl (by decide) (fun c_2 => ?_) (fun c_2 => ?_)
    · replace h := h.1 c_2
      refine q_aload_n hX rfl dX0_pressureAt_32 33 rfl ?_
      refine q_aload_n hX rfl dX0_pressureAt_33 34 rfl ?_
      refine q_aload_n hX rfl dX0_pressureAt_34 35 rfl ?_
      refine q_iload_n hX rfl dX0_pressureAt_35 36 rfl ?_
      refine cl_X0_35 hX  ⟨Nat.le_of_ble_eq_true rfl, Nat.le_of_ble_eq_true rfl⟩ (Nat.le_of_ble_eq_true rfl) dX0_pressureAt_36 39 rfl (sn_X1_firstLayers a2  mem _ h) (fun r_3 m_4 h => ?_)
      refine cl_X0_38 hX  ⟨Nat.le_of_ble_eq_true rfl, Nat.le_of_ble_eq_true rfl⟩ (Nat.le_of_ble_eq_true rfl) dX0_pressureAt_39 42 rfl (sn_X0_pressureBehind w0 a1 r_3 hw0 m_4 _ h) (fun r_5 m_6 h => ?_)
      exact q_iret hX dX0_pressureAt_42 h
    · replace h := h.2 c_2
      refine q_aload_n hX rfl dX0_pressureAt_22 23 rfl ?_
      refine q_iconst hX (3 : Int32) q_ki_3 dX0_pressureAt_23 24 rfl ?_
      obtain ⟨g_7, h⟩ := h
      refine q_iald hX g_7 dX0_pressureAt_24 25 rfl ?_
      refine q_aload_n hX rfl dX0_pressureAt_25 26 rfl ?_
      refine q_iconst hX (4 : Int32) q_ki_4 dX0_pressureAt_26 27 rfl ?_
      obtain ⟨g_8, h⟩ := h
      refine q_iald hX g_8 dX0_pressureAt_27 28 rfl ?_
      refine cl_X0_26 hX  ⟨Nat.le_of_ble_eq_true rfl, Nat.le_of_ble_eq_true rfl⟩ (Nat.le_of_ble_eq_true rfl) dX0_pressureAt_28 31 rfl (sn_X0_pressureIn (mem a1 (3 : Int32).toNatClampNeg) (mem a1 (4 : Int32).toNatClampNeg)  mem _ h) (fun r_9 m_10 h => ?_)
      exact q_iret hX dX0_pressureAt_31 h
  · replace h := h.2 c_1
    refine q_aload_n hX rfl dX0_pressureAt_4 5 rfl ?_
    refine q_iconst hX (0 : Int32) q_ki_0 dX0_pressureAt_5 6 rfl ?_
    obtain ⟨g_11, h⟩ := h
    refine q_iald hX g_11 dX0_pressureAt_6 7 rfl ?_
    refine q_aload_n hX rfl dX0_pressureAt_7 8 rfl ?_
    refine q_iconst hX (1 : Int32) q_ki_1 dX0_pressureAt_8 9 rfl ?_
    obtain ⟨g_12, h⟩ := h
    refine q_iald hX g_12 dX0_pressureAt_9 10 rfl ?_
    refine cl_X0_26 hX  ⟨Nat.le_of_ble_eq_true rfl, Nat.le_of_ble_eq_true rfl⟩ (Nat.le_of_ble_eq_true rfl) dX0_pressureAt_10 13 rfl (sn_X0_pressureIn (mem a1 (0 : Int32).toNatClampNeg) (mem a1 (1 : Int32).toNatClampNeg)  mem _ h) (fun r_13 m_14 h => ?_)
    exact q_iret hX dX0_pressureAt_13 h
set_option maxRecDepth 100000 in
set_option maxHeartbeats 4000000 in
theorem sn_X0_pressureAt {l : Launch} {G : q_G} (w0 : Nat) (a1 : Nat) (a2 : Int32) (hw0 : q_WB w0) (mem : q_Mem) (Q : Int32 → q_Mem → Prop) (h : wp_X0_pressureAt w0 a1 a2 mem Q) : q_MI l G yX0_pressureAt cX0_pressureAt 4 (some .int) rm_X0_pressureAt [.ref (q_ad G 31), .ref (q_ad G w0), .ref (q_ad G a1), .int a2] mem Q := by
  refine q_metI 0 (by decide +kernel) (Nat.le_of_ble_eq_true rfl) rfl (fun X hl hX => ?_)
  subst hl
  exact sn_X0_pressureAt_0 hX w0 a1 a2 hw0 Q mem h

-- X0_warmthAt
def wp_X0_warmthAt  (w0 : Nat) (a1 : Nat) (a2 : Int32)  (mem : q_Mem) (Q : Int32 → q_Mem → Prop) : Prop := ((0 < a2) → ((a2 < (mem w0 11)) → wp_X1_firstLayers a2 mem (fun r_3 m_4 => wp_X0_warmthBehind w0 a1 r_3 m_4 (fun r_5 m_6 => Q r_5 m_6))) ∧ ((¬ a2 < (mem w0 11)) → vp_in (4 : Int32) (q_al a1) ∧ (Q (mem a1 (4 : Int32).toNatClampNeg) mem))) ∧ ((¬ 0 < a2) → vp_in (1 : Int32) (q_al a1) ∧ (Q (mem a1 (1 : Int32).toNatClampNeg) mem))
set_option maxRecDepth 100000 in
set_option maxHeartbeats 4000000 in
theorem sn_X0_warmthAt_0 {X : q_X} {G : q_G} (hX : q_C X cX0_warmthAt 4 RX0 (some .int) 3 68) (w0 : Nat) (a1 : Nat) (a2 : Int32) (hw0 : q_WB w0)  (Q : Int32 → q_Mem → Prop)  (mem : q_Mem) (h : wp_X0_warmthAt  w0 a1 a2  mem Q) : q_J X G 4 (q_QI X G Q) 0 [some (.ref (q_ad G 31)), some (.ref (q_ad G w0)), some (.ref (q_ad G a1)), some (.int a2)] [] mem := by
  unfold wp_X0_warmthAt at h
  refine q_iload_n hX rfl dX0_warmthAt_0 1 rfl ?_
  refine q_if_gt hX dX0_warmthAt_1 4 8 rfl (by decide) (fun c_1 => ?_) (fun c_1 => ?_)
  · replace h := h.1 c_1
    refine q_iload_n hX rfl dX0_warmthAt_8 9 rfl ?_
    refine q_aload_n hX rfl dX0_warmthAt_9 10 rfl ?_
    refine gf_X0_29 hX hw0 dX0_warmthAt_10 13 rfl ?_
    refine q_icmp_lt hX dX0_warmthAt_13 16 20 rfl (by decide) (fun c_2 => ?_) (fun c_2 => ?_)
    · replace h := h.1 c_2
      refine q_aload_n hX rfl dX0_warmthAt_20 21 rfl ?_
      refine q_aload_n hX rfl dX0_warmthAt_21 22 rfl ?_
      refine q_aload_n hX rfl dX0_warmthAt_22 23 rfl ?_
      refine q_iload_n hX rfl dX0_warmthAt_23 24 rfl ?_
      refine cl_X0_35 hX  ⟨Nat.le_of_ble_eq_true rfl, Nat.le_of_ble_eq_true rfl⟩ (Nat.le_of_ble_eq_true rfl) dX0_warmthAt_24 27 rfl (sn_X1_firstLayers a2  mem _ h) (fun r_3 m_4 h => ?_)
      refine cl_X0_42 hX  ⟨Nat.le_of_ble_eq_true rfl, Nat.le_of_ble_eq_true rfl⟩ (Nat.le_of_ble_eq_true rfl) dX0_warmthAt_27 30 rfl (sn_X0_warmthBehind w0 a1 r_3 hw0 m_4 _ h) (fun r_5 m_6 h => ?_)
      exact q_iret hX dX0_warmthAt_30 h
    · replace h := h.2 c_2
      refine q_aload_n hX rfl dX0_warmthAt_16 17 rfl ?_
      refine q_iconst hX (4 : Int32) q_ki_4 dX0_warmthAt_17 18 rfl ?_
      obtain ⟨g_7, h⟩ := h
      refine q_iald hX g_7 dX0_warmthAt_18 19 rfl ?_
      exact q_iret hX dX0_warmthAt_19 h
  · replace h := h.2 c_1
    refine q_aload_n hX rfl dX0_warmthAt_4 5 rfl ?_
    refine q_iconst hX (1 : Int32) q_ki_1 dX0_warmthAt_5 6 rfl ?_
    obtain ⟨g_8, h⟩ := h
    refine q_iald hX g_8 dX0_warmthAt_6 7 rfl ?_
    exact q_iret hX dX0_warmthAt_7 h
set_option maxRecDepth 100000 in
set_option maxHeartbeats 4000000 in
theorem sn_X0_warmthAt {l : Launch} {G : q_G} (w0 : Nat) (a1 : Nat) (a2 : Int32) (hw0 : q_WB w0) (mem : q_Mem) (Q : Int32 → q_Mem → Prop) (h : wp_X0_warmthAt w0 a1 a2 mem Q) : q_MI l G yX0_warmthAt cX0_warmthAt 4 (some .int) rm_X0_warmthAt [.ref (q_ad G 31), .ref (q_ad G w0), .ref (q_ad G a1), .int a2] mem Q := by
  refine q_metI 0 (by decide +kernel) (Nat.le_of_ble_eq_true rfl) rfl (fun X hl hX => ?_)
  subst hl
  exact sn_X0_warmthAt_0 hX w0 a1 a2 hw0 Q mem h

-- X1_addInside
def wp_X1_addInside  (b : Nat) (a0 : Int32) (a1 : Int32) (a2 : Int32) (a3 : Int32)  (mem : q_Mem) (Q : q_Mem → Prop) : Prop := (((mem b 11) < (6 : Int32)) → vp_in (mem b 11) (q_al (b + 5)) ∧ (∀ m_3 : q_Mem, m_3 = q_set mem (b + 5) (upd (mem (b + 5)) (mem b 11).toNatClampNeg a0) → vp_in (m_3 b 11) (q_al (b + 6)) ∧ (∀ m_5 : q_Mem, m_5 = q_set m_3 (b + 6) (upd (m_3 (b + 6)) (m_3 b 11).toNatClampNeg a1) → vp_in (m_5 b 11) (q_al (b + 7)) ∧ (∀ m_7 : q_Mem, m_7 = q_set m_5 (b + 7) (upd (m_5 (b + 7)) (m_5 b 11).toNatClampNeg a2) → vp_in (m_7 b 11) (q_al (b + 8)) ∧ (∀ m_9 : q_Mem, m_9 = q_set m_7 (b + 8) (upd (m_7 (b + 8)) (m_7 b 11).toNatClampNeg a3) → vp_in (m_9 b 11) (q_al (b + 9)) ∧ (∀ m_11 : q_Mem, m_11 = q_set m_9 (b + 9) (upd (m_9 (b + 9)) (m_9 b 11).toNatClampNeg (0 : Int32)) → vp_in (m_11 b 11) (q_al (b + 10)) ∧ (∀ m_13 : q_Mem, m_13 = q_set m_11 (b + 10) (upd (m_11 (b + 10)) (m_11 b 11).toNatClampNeg (0 : Int32)) → vp_in (m_13 b 11) (q_al (b + 11)) ∧ (∀ m_15 : q_Mem, m_15 = q_set m_13 (b + 11) (upd (m_13 (b + 11)) (m_13 b 11).toNatClampNeg (0 : Int32)) → vp_in (m_15 b 11) (q_al (b + 12)) ∧ (∀ m_17 : q_Mem, m_17 = q_set m_15 (b + 12) (upd (m_15 (b + 12)) (m_15 b 11).toNatClampNeg (0 : Int32)) → ∀ m_18 : q_Mem, m_18 = q_set m_17 b (upd (m_17 b) 11 ((m_17 b 11) + (1 : Int32))) → Q m_18))))))))) ∧ ((¬ (mem b 11) < (6 : Int32)) → Q mem)
set_option maxRecDepth 100000 in
set_option maxHeartbeats 4000000 in
theorem sn_X1_addInside_0 {X : q_X} {G : q_G} (hX : q_C X cX1_addInside 5 RX1 none 0 0) (b : Nat) (a0 : Int32) (a1 : Int32) (a2 : Int32) (a3 : Int32) (hb : q_WB b)  (Q : q_Mem → Prop)  (mem : q_Mem) (h : wp_X1_addInside  b a0 a1 a2 a3  mem Q) : q_J X G 5 (q_QV X G Q) 0 [some (.ref (q_ad G b)), some (.int a0), some (.int a1), some (.int a2), some (.int a3)] [] mem := by
  unfold wp_X1_addInside at h
  refine q_aload_n hX rfl dX1_addInside_0 1 rfl ?_
  refine gf_X1_47 hX hb dX1_addInside_1 4 rfl ?_
  refine q_bipush hX (6 : Int32) q_kb_6 dX1_addInside_4 6 rfl ?_
  refine q_icmp_lt hX dX1_addInside_6 9 10 rfl (by decide) (fun c_1 => ?_) (fun c_1 => ?_)
  · replace h := h.1 c_1
    refine q_aload_n hX rfl dX1_addInside_10 11 rfl ?_
    refine gf_X1_16 hX hb dX1_addInside_11 14 rfl ?_
    refine q_aload_n hX rfl dX1_addInside_14 15 rfl ?_
    refine gf_X1_47 hX hb dX1_addInside_15 18 rfl ?_
    refine q_iload_n hX rfl dX1_addInside_18 19 rfl ?_
    obtain ⟨g_2, h⟩ := h
    refine q_iast hX g_2 dX1_addInside_19 20 rfl (fun m_3 em_3 => ?_)
    replace h := h m_3 em_3
    refine q_aload_n hX rfl dX1_addInside_20 21 rfl ?_
    refine gf_X1_20 hX hb dX1_addInside_21 24 rfl ?_
    refine q_aload_n hX rfl dX1_addInside_24 25 rfl ?_
    refine gf_X1_47 hX hb dX1_addInside_25 28 rfl ?_
    refine q_iload_n hX rfl dX1_addInside_28 29 rfl ?_
    obtain ⟨g_4, h⟩ := h
    refine q_iast hX g_4 dX1_addInside_29 30 rfl (fun m_5 em_5 => ?_)
    replace h := h m_5 em_5
    refine q_aload_n hX rfl dX1_addInside_30 31 rfl ?_
    refine gf_X1_23 hX hb dX1_addInside_31 34 rfl ?_
    refine q_aload_n hX rfl dX1_addInside_34 35 rfl ?_
    refine gf_X1_47 hX hb dX1_addInside_35 38 rfl ?_
    refine q_iload_n hX rfl dX1_addInside_38 39 rfl ?_
    obtain ⟨g_6, h⟩ := h
    refine q_iast hX g_6 dX1_addInside_39 40 rfl (fun m_7 em_7 => ?_)
    replace h := h m_7 em_7
    refine q_aload_n hX rfl dX1_addInside_40 41 rfl ?_
    refine gf_X1_26 hX hb dX1_addInside_41 44 rfl ?_
    refine q_aload_n hX rfl dX1_addInside_44 45 rfl ?_
    refine gf_X1_47 hX hb dX1_addInside_45 48 rfl ?_
    refine q_iload hX rfl dX1_addInside_48 50 rfl ?_
    obtain ⟨g_8, h⟩ := h
    refine q_iast hX g_8 dX1_addInside_50 51 rfl (fun m_9 em_9 => ?_)
    replace h := h m_9 em_9
    refine q_aload_n hX rfl dX1_addInside_51 52 rfl ?_
    refine gf_X1_29 hX hb dX1_addInside_52 55 rfl ?_
    refine q_aload_n hX rfl dX1_addInside_55 56 rfl ?_
    refine gf_X1_47 hX hb dX1_addInside_56 59 rfl ?_
    refine q_iconst hX (0 : Int32) q_ki_0 dX1_addInside_59 60 rfl ?_
    obtain ⟨g_10, h⟩ := h
    refine q_iast hX g_10 dX1_addInside_60 61 rfl (fun m_11 em_11 => ?_)
    replace h := h m_11 em_11
    refine q_aload_n hX rfl dX1_addInside_61 62 rfl ?_
    refine gf_X1_32 hX hb dX1_addInside_62 65 rfl ?_
    refine q_aload_n hX rfl dX1_addInside_65 66 rfl ?_
    refine gf_X1_47 hX hb dX1_addInside_66 69 rfl ?_
    refine q_iconst hX (0 : Int32) q_ki_0 dX1_addInside_69 70 rfl ?_
    obtain ⟨g_12, h⟩ := h
    refine q_iast hX g_12 dX1_addInside_70 71 rfl (fun m_13 em_13 => ?_)
    replace h := h m_13 em_13
    refine q_aload_n hX rfl dX1_addInside_71 72 rfl ?_
    refine gf_X1_35 hX hb dX1_addInside_72 75 rfl ?_
    refine q_aload_n hX rfl dX1_addInside_75 76 rfl ?_
    refine gf_X1_47 hX hb dX1_addInside_76 79 rfl ?_
    refine q_iconst hX (0 : Int32) q_ki_0 dX1_addInside_79 80 rfl ?_
    obtain ⟨g_14, h⟩ := h
    refine q_iast hX g_14 dX1_addInside_80 81 rfl (fun m_15 em_15 => ?_)
    replace h := h m_15 em_15
    refine q_aload_n hX rfl dX1_addInside_81 82 rfl ?_
    refine gf_X1_38 hX hb dX1_addInside_82 85 rfl ?_
    refine q_aload_n hX rfl dX1_addInside_85 86 rfl ?_
    refine gf_X1_47 hX hb dX1_addInside_86 89 rfl ?_
    refine q_iconst hX (0 : Int32) q_ki_0 dX1_addInside_89 90 rfl ?_
    obtain ⟨g_16, h⟩ := h
    refine q_iast hX g_16 dX1_addInside_90 91 rfl (fun m_17 em_17 => ?_)
    replace h := h m_17 em_17
    refine q_aload_n hX rfl dX1_addInside_91 92 rfl ?_
    refine q_dup hX rfl dX1_addInside_92 93 rfl ?_
    refine gf_X1_47 hX hb dX1_addInside_93 96 rfl ?_
    refine q_iconst hX (1 : Int32) q_ki_1 dX1_addInside_96 97 rfl ?_
    refine q_iadd hX dX1_addInside_97 98 rfl ?_
    refine pf_X1_47 hX hb dX1_addInside_98 101 rfl (fun m_18 em_18 => ?_)
    replace h := h m_18 em_18
    exact q_vret hX dX1_addInside_101 h
  · replace h := h.2 c_1
    exact q_vret hX dX1_addInside_9 h
set_option maxRecDepth 100000 in
set_option maxHeartbeats 4000000 in
theorem sn_X1_addInside {l : Launch} {G : q_G} (b : Nat) (a0 : Int32) (a1 : Int32) (a2 : Int32) (a3 : Int32) (hb : q_WB b) (mem : q_Mem) (Q : q_Mem → Prop) (h : wp_X1_addInside b a0 a1 a2 a3 mem Q) : q_MV l G yX1_addInside cX1_addInside 5 none rm_X1_addInside [.ref (q_ad G b), .int a0, .int a1, .int a2, .int a3] mem Q := by
  refine q_metV 0 (by decide +kernel) (Nat.le_of_ble_eq_true rfl) rfl (fun X hl hX => ?_)
  subst hl
  exact sn_X1_addInside_0 hX b a0 a1 a2 a3 hb Q mem h

-- X1_has
def wp_X1_has  (b : Nat) (a0 : Int32)  (mem : q_Mem) (Q : Int32 → q_Mem → Prop) : Prop := ((a0 < 0) → Q (0 : Int32) mem) ∧ ((¬ a0 < 0) → (((mem b 11) ≤ a0) → Q (0 : Int32) mem) ∧ ((¬ (mem b 11) ≤ a0) → Q (1 : Int32) mem))
set_option maxRecDepth 100000 in
set_option maxHeartbeats 4000000 in
theorem sn_X1_has_0 {X : q_X} {G : q_G} (hX : q_C X cX1_has 2 RX1 (some .boolean) 0 0) (b : Nat) (a0 : Int32) (hb : q_WB b)  (Q : Int32 → q_Mem → Prop)  (mem : q_Mem) (h : wp_X1_has  b a0  mem Q) : q_J X G 2 (q_QI X G Q) 0 [some (.ref (q_ad G b)), some (.int a0)] [] mem := by
  unfold wp_X1_has at h
  refine q_iload_n hX rfl dX1_has_0 1 rfl ?_
  refine q_if_lt hX dX1_has_1 4 16 rfl (by decide) (fun c_1 => ?_) (fun c_1 => ?_)
  · replace h := h.1 c_1
    refine q_iconst hX (0 : Int32) q_ki_0 dX1_has_16 17 rfl ?_
    exact q_zret hX dX1_has_17 (by decide) h
  · replace h := h.2 c_1
    refine q_iload_n hX rfl dX1_has_4 5 rfl ?_
    refine q_aload_n hX rfl dX1_has_5 6 rfl ?_
    refine gf_X1_47 hX hb dX1_has_6 9 rfl ?_
    refine q_icmp_ge hX dX1_has_9 12 16 rfl (by decide) (fun c_2 => ?_) (fun c_2 => ?_)
    · replace h := h.1 c_2
      refine q_iconst hX (0 : Int32) q_ki_0 dX1_has_16 17 rfl ?_
      exact q_zret hX dX1_has_17 (by decide) h
    · replace h := h.2 c_2
      refine q_iconst hX (1 : Int32) q_ki_1 dX1_has_12 13 rfl ?_
      refine q_goto hX dX1_has_13 17 (by decide) ?_
      exact q_zret hX dX1_has_17 (by decide) h
set_option maxRecDepth 100000 in
set_option maxHeartbeats 4000000 in
theorem sn_X1_has {l : Launch} {G : q_G} (b : Nat) (a0 : Int32) (hb : q_WB b) (mem : q_Mem) (Q : Int32 → q_Mem → Prop) (h : wp_X1_has b a0 mem Q) : q_MI l G yX1_has cX1_has 2 (some .boolean) rm_X1_has [.ref (q_ad G b), .int a0] mem Q := by
  refine q_metI 0 (by decide +kernel) (Nat.le_of_ble_eq_true rfl) rfl (fun X hl hX => ?_)
  subst hl
  exact sn_X1_has_0 hX b a0 hb Q mem h

-- X1_addWater
def wp_X1_addWater_34  (b : Nat) (a0 : Int32) (a1 : Int32) (s2 : Int32) (mem : q_Mem) (Q : q_Mem → Prop) : Prop := vp_in s2 (q_al (b + 13)) ∧ (vp_in s2 (q_al (b + 13)) ∧ (∀ m_3 : q_Mem, m_3 = q_set mem (b + 13) (upd (mem (b + 13)) s2.toNatClampNeg ((mem (b + 13) s2.toNatClampNeg) - a1)) → Q m_3))
def wp_X1_addWater  (b : Nat) (a0 : Int32) (a1 : Int32)  (mem : q_Mem) (Q : q_Mem → Prop) : Prop := wp_X1_has b a0 mem (fun r_1 m_2 => ((r_1 = 0) → ((0 ≤ a0) → wp_X1_addWater_34  b a0 a1 (3 : Int32) m_2 Q) ∧ ((¬ 0 ≤ a0) → wp_X1_addWater_34  b a0 a1 (2 : Int32) m_2 Q)) ∧ ((¬ r_1 = 0) → vp_in a0 (q_al (b + 9)) ∧ (vp_in a0 (q_al (b + 9)) ∧ (∀ m_7 : q_Mem, m_7 = q_set m_2 (b + 9) (upd (m_2 (b + 9)) a0.toNatClampNeg ((m_2 (b + 9) a0.toNatClampNeg) + a1)) → Q m_7))))
set_option maxRecDepth 100000 in
set_option maxHeartbeats 4000000 in
theorem sn_X1_addWater_34 {X : q_X} {G : q_G} (hX : q_C X cX1_addWater 3 RX1 none 1 21) (b : Nat) (a0 : Int32) (a1 : Int32) (hb : q_WB b) (s2 : Int32) (Q : q_Mem → Prop)  (mem : q_Mem) (h : wp_X1_addWater_34  b a0 a1 s2 mem Q) : q_J X G 3 (q_QV X G Q) 34 [some (.ref (q_ad G b)), some (.int a0), some (.int a1)] [.int s2, .ref (q_ad G (b + 13))] mem := by
  unfold wp_X1_addWater_34 at h
  refine q_dup2 hX rfl rfl dX1_addWater_34 35 rfl ?_
  obtain ⟨g_1, h⟩ := h
  refine q_iald hX g_1 dX1_addWater_35 36 rfl ?_
  refine q_iload_n hX rfl dX1_addWater_36 37 rfl ?_
  refine q_isub hX dX1_addWater_37 38 rfl ?_
  obtain ⟨g_2, h⟩ := h
  refine q_iast hX g_2 dX1_addWater_38 39 rfl (fun m_3 em_3 => ?_)
  replace h := h m_3 em_3
  exact q_vret hX dX1_addWater_39 h
set_option maxRecDepth 100000 in
set_option maxHeartbeats 4000000 in
theorem sn_X1_addWater_0 {X : q_X} {G : q_G} (hX : q_C X cX1_addWater 3 RX1 none 1 21) (b : Nat) (a0 : Int32) (a1 : Int32) (hb : q_WB b)  (Q : q_Mem → Prop)  (mem : q_Mem) (h : wp_X1_addWater  b a0 a1  mem Q) : q_J X G 3 (q_QV X G Q) 0 [some (.ref (q_ad G b)), some (.int a0), some (.int a1)] [] mem := by
  unfold wp_X1_addWater at h
  refine q_aload_n hX rfl dX1_addWater_0 1 rfl ?_
  refine q_iload_n hX rfl dX1_addWater_1 2 rfl ?_
  refine cl_X1_67 hX hb ⟨Nat.le_of_ble_eq_true rfl, Nat.le_of_ble_eq_true rfl⟩ (Nat.le_of_ble_eq_true rfl) dX1_addWater_2 5 rfl (sn_X1_has b a0 hb mem _ h) (fun r_1 m_2 h => ?_)
  refine q_if_eq hX dX1_addWater_5 8 21 rfl (by decide) (fun c_3 => ?_) (fun c_3 => ?_)
  · replace h := h.1 c_3
    refine q_aload_n hX rfl dX1_addWater_21 22 rfl ?_
    refine gf_X1_41 hX hb dX1_addWater_22 25 rfl ?_
    refine q_iload_n hX rfl dX1_addWater_25 26 rfl ?_
    refine q_if_ge hX dX1_addWater_26 29 33 rfl (by decide) (fun c_4 => ?_) (fun c_4 => ?_)
    · replace h := h.1 c_4
      refine q_iconst hX (3 : Int32) q_ki_3 dX1_addWater_33 34 rfl ?_
      exact q_weak [true, true, true] rfl (sn_X1_addWater_34 hX  b a0 a1 hb (3 : Int32) Q  m_2 h)
    · replace h := h.2 c_4
      refine q_iconst hX (2 : Int32) q_ki_2 dX1_addWater_29 30 rfl ?_
      refine q_goto hX dX1_addWater_30 34 (by decide) ?_
      exact q_weak [true, true, true] rfl (sn_X1_addWater_34 hX  b a0 a1 hb (2 : Int32) Q  m_2 h)
  · replace h := h.2 c_3
    refine q_aload_n hX rfl dX1_addWater_8 9 rfl ?_
    refine gf_X1_29 hX hb dX1_addWater_9 12 rfl ?_
    refine q_iload_n hX rfl dX1_addWater_12 13 rfl ?_
    refine q_dup2 hX rfl rfl dX1_addWater_13 14 rfl ?_
    obtain ⟨g_5, h⟩ := h
    refine q_iald hX g_5 dX1_addWater_14 15 rfl ?_
    refine q_iload_n hX rfl dX1_addWater_15 16 rfl ?_
    refine q_iadd hX dX1_addWater_16 17 rfl ?_
    obtain ⟨g_6, h⟩ := h
    refine q_iast hX g_6 dX1_addWater_17 18 rfl (fun m_7 em_7 => ?_)
    replace h := h m_7 em_7
    refine q_goto hX dX1_addWater_18 39 (by decide) ?_
    exact q_vret hX dX1_addWater_39 h
set_option maxRecDepth 100000 in
set_option maxHeartbeats 4000000 in
theorem sn_X1_addWater {l : Launch} {G : q_G} (b : Nat) (a0 : Int32) (a1 : Int32) (hb : q_WB b) (mem : q_Mem) (Q : q_Mem → Prop) (h : wp_X1_addWater b a0 a1 mem Q) : q_MV l G yX1_addWater cX1_addWater 3 none rm_X1_addWater [.ref (q_ad G b), .int a0, .int a1] mem Q := by
  refine q_metV 0 (by decide +kernel) (Nat.le_of_ble_eq_true rfl) rfl (fun X hl hX => ?_)
  subst hl
  exact sn_X1_addWater_0 hX b a0 a1 hb Q mem h

-- X1_allWater
def wp_X1_allWater_27  (b : Nat) (x1 : Int32) (mem : q_Mem) (Q : Int32 → q_Mem → Prop) : Prop := Q x1 mem
def wp_X1_allWater_4_b (K4 : Int32 → Int32 → q_Mem → Prop) (b : Nat) (x1 : Int32) (x2 : Int32) (mem : q_Mem) (Q : Int32 → q_Mem → Prop) : Prop := (((mem b 11) ≤ x2) → wp_X1_allWater_27  b x1 mem Q) ∧ ((¬ (mem b 11) ≤ x2) → vp_in x2 (q_al (b + 9)) ∧ (∀ x1_3 : Int32, x1_3 = (x1 + (mem (b + 9) x2.toNatClampNeg)) → ∀ x2_4 : Int32, x2_4 = (x2 + (1 : Int32)) → K4 x1_3 x2_4 mem))
def wp_X1_allWater_4  (b : Nat) (x1 : Int32) (x2 : Int32) (mem : q_Mem) (Q : Int32 → q_Mem → Prop) : Prop := ∃ I : Nat → Int32 → Int32 → q_Mem → Prop, (∃ n, I n x1 x2 mem) ∧ ∀ (n : Nat) (yx1 : Int32) (yx2 : Int32) (ymem : q_Mem), I n yx1 yx2 ymem → wp_X1_allWater_4_b  (fun (zx1 : Int32) (zx2 : Int32) (zmem : q_Mem) => ∃ n2, n2 < n ∧ I n2 zx1 zx2 zmem) b yx1 yx2 ymem Q
def wp_X1_allWater  (b : Nat)  (mem : q_Mem) (Q : Int32 → q_Mem → Prop) : Prop := wp_X1_allWater_4  b (0 : Int32) (0 : Int32) mem Q
set_option maxRecDepth 100000 in
set_option maxHeartbeats 4000000 in
theorem sn_X1_allWater_27 {X : q_X} {G : q_G} (hX : q_C X cX1_allWater 3 RX1 (some .int) 0 0) (b : Nat) (hb : q_WB b) (x1 : Int32) (Q : Int32 → q_Mem → Prop)  (mem : q_Mem) (h : wp_X1_allWater_27  b x1 mem Q) : q_J X G 3 (q_QI X G Q) 27 [some (.ref (q_ad G b)), some (.int x1), none] [] mem := by
  unfold wp_X1_allWater_27 at h
  refine q_iload_n hX rfl dX1_allWater_27 28 rfl ?_
  exact q_iret hX dX1_allWater_28 h
set_option maxRecDepth 100000 in
set_option maxHeartbeats 4000000 in
theorem sn_X1_allWater_4_b {X : q_X} {G : q_G} (hX : q_C X cX1_allWater 3 RX1 (some .int) 0 0) (b : Nat) (hb : q_WB b) (x1 : Int32) (x2 : Int32) (Q : Int32 → q_Mem → Prop) (K4 : Int32 → Int32 → q_Mem → Prop) (hK4 : ∀ (yx1 : Int32) (yx2 : Int32) (ymem : q_Mem), K4 yx1 yx2 ymem → q_J X G 3 (q_QI X G Q) 4 [some (.ref (q_ad G b)), some (.int yx1), some (.int yx2)] [] ymem) (mem : q_Mem) (h : wp_X1_allWater_4_b K4 b x1 x2 mem Q) : q_J X G 3 (q_QI X G Q) 4 [some (.ref (q_ad G b)), some (.int x1), some (.int x2)] [] mem := by
  unfold wp_X1_allWater_4_b at h
  refine q_iload_n hX rfl dX1_allWater_4 5 rfl ?_
  refine q_aload_n hX rfl dX1_allWater_5 6 rfl ?_
  refine gf_X1_47 hX hb dX1_allWater_6 9 rfl ?_
  refine q_icmp_ge hX dX1_allWater_9 12 27 rfl (by decide) (fun c_1 => ?_) (fun c_1 => ?_)
  · replace h := h.1 c_1
    exact q_weak [true, true, false] rfl (sn_X1_allWater_27 hX  b hb x1 Q  mem h)
  · replace h := h.2 c_1
    refine q_iload_n hX rfl dX1_allWater_12 13 rfl ?_
    refine q_aload_n hX rfl dX1_allWater_13 14 rfl ?_
    refine gf_X1_29 hX hb dX1_allWater_14 17 rfl ?_
    refine q_iload_n hX rfl dX1_allWater_17 18 rfl ?_
    obtain ⟨g_2, h⟩ := h
    refine q_iald hX g_2 dX1_allWater_18 19 rfl ?_
    refine q_iadd hX dX1_allWater_19 20 rfl ?_
    refine q_istore_n hX dX1_allWater_20 21 rfl (Nat.le_of_ble_eq_true rfl) rfl (fun y => [some (.ref (q_ad G b)), some (.int y), some (.int x2)]) (fun _ => rfl) (fun x1_3 ex1_3 => ?_)
    replace h := h x1_3 ex1_3
    refine q_iinc hX (1 : Int32) q_ki_1 rfl dX1_allWater_21 24 rfl (Nat.le_of_ble_eq_true rfl) rfl (fun y => [some (.ref (q_ad G b)), some (.int x1_3), some (.int y)]) (fun _ => rfl) (fun x2_4 ex2_4 => ?_)
    replace h := h x2_4 ex2_4
    refine q_goto hX dX1_allWater_24 4 (by decide) ?_
    exact q_weak [true, true, true] rfl (hK4 x1_3 x2_4 mem h)
set_option maxRecDepth 100000 in
set_option maxHeartbeats 4000000 in
theorem sn_X1_allWater_4 {X : q_X} {G : q_G} (hX : q_C X cX1_allWater 3 RX1 (some .int) 0 0) (b : Nat) (hb : q_WB b) (x1 : Int32) (x2 : Int32) (Q : Int32 → q_Mem → Prop)  (mem : q_Mem) (h : wp_X1_allWater_4  b x1 x2 mem Q) : q_J X G 3 (q_QI X G Q) 4 [some (.ref (q_ad G b)), some (.int x1), some (.int x2)] [] mem := by
  obtain ⟨I, ⟨n, h0⟩, hs⟩ := h
  have key : ∀ (n : Nat) (yx1 : Int32) (yx2 : Int32) (ymem : q_Mem), I n yx1 yx2 ymem → q_J X G 3 (q_QI X G Q) 4 [some (.ref (q_ad G b)), some (.int yx1), some (.int yx2)] [] ymem := by
    intro n
    induction n using Nat.strongRecOn with
    | ind n ih =>
      intro yx1 yx2 ymem hI
      exact sn_X1_allWater_4_b hX  b hb yx1 yx2 Q  (fun (zx1 : Int32) (zx2 : Int32) (zmem : q_Mem) => ∃ n2, n2 < n ∧ I n2 zx1 zx2 zmem) (fun zx1 zx2 zmem hz => by obtain ⟨n2, h1, h2⟩ := hz; exact ih n2 h1 zx1 zx2 zmem h2) ymem (hs n yx1 yx2 ymem hI)
  exact key n x1 x2 mem h0
set_option maxRecDepth 100000 in
set_option maxHeartbeats 4000000 in
theorem sn_X1_allWater_0 {X : q_X} {G : q_G} (hX : q_C X cX1_allWater 3 RX1 (some .int) 0 0) (b : Nat) (hb : q_WB b)  (Q : Int32 → q_Mem → Prop)  (mem : q_Mem) (h : wp_X1_allWater  b  mem Q) : q_J X G 3 (q_QI X G Q) 0 [some (.ref (q_ad G b)), none, none] [] mem := by
  unfold wp_X1_allWater at h
  refine q_iconst hX (0 : Int32) q_ki_0 dX1_allWater_0 1 rfl ?_
  refine q_istore_n hX dX1_allWater_1 2 rfl (Nat.le_of_ble_eq_true rfl) rfl (fun y => [some (.ref (q_ad G b)), some (.int y), none]) (fun _ => rfl) (fun x1_1 ex1_1 => ?_)
  replace ex1_1 := ex1_1.symm; subst ex1_1
  refine q_iconst hX (0 : Int32) q_ki_0 dX1_allWater_2 3 rfl ?_
  refine q_istore_n hX dX1_allWater_3 4 rfl (Nat.le_of_ble_eq_true rfl) rfl (fun y => [some (.ref (q_ad G b)), some (.int (0 : Int32)), some (.int y)]) (fun _ => rfl) (fun x2_2 ex2_2 => ?_)
  replace ex2_2 := ex2_2.symm; subst ex2_2
  exact q_weak [true, true, true] rfl (sn_X1_allWater_4 hX  b hb (0 : Int32) (0 : Int32) Q  mem h)
set_option maxRecDepth 100000 in
set_option maxHeartbeats 4000000 in
theorem sn_X1_allWater {l : Launch} {G : q_G} (b : Nat) (hb : q_WB b) (mem : q_Mem) (Q : Int32 → q_Mem → Prop) (h : wp_X1_allWater b mem Q) : q_MI l G yX1_allWater cX1_allWater 3 (some .int) rm_X1_allWater [.ref (q_ad G b)] mem Q := by
  refine q_metI 2 (by decide +kernel) (Nat.le_of_ble_eq_true rfl) rfl (fun X hl hX => ?_)
  subst hl
  exact sn_X1_allWater_0 hX b hb Q mem h

theorem s_c {m D : q_Mem} {N k : Nat} {v : Int32} (hC : y_C m D) (hn : D 0 0 = nI N) (hN : N < 6) (hk : k < 8) : y_C (q_set m (6 + k) (upd (m (6 + k)) (m 1 11).toNatClampNeg v)) (q_set D (1 + k) (upd (D (1 + k)) N v)) := by
  rw [hC.1.1, hn, nI_clamp (by omega), hC.2.1 k hk]
  exact hC.arr hk _
theorem s_m {m D : q_Mem} {N k : Nat} {v : Int32} (hM : y_M m D) (hn : D 0 0 = nI N) (hN : N < 6) (hk : k < 8) : y_M (q_set m (73 + k) (upd (m (73 + k)) (m 72 0).toNatClampNeg v)) (q_set D (1 + k) (upd (D (1 + k)) N v)) := by
  rw [hM.1.1, hn, nI_clamp (by omega), hM.2.1 k hk]
  have := hM.cell (k := 1 + k) (by omega) (by omega) (upd (D (1 + k)) N v)
  rw [show 72 + (1 + k) = 73 + k by omega] at this
  exact this
theorem s_ci {m D : q_Mem} {N : Nat} (hC : y_C m D) (hn : D 0 0 = nI N) (hN : N < 6) : vp_in (m 1 11) 6 := by
  rw [hC.1.1, hn]; exact in_nI (by omega) (by omega)
theorem s_mi {m D : q_Mem} {N : Nat} (hM : y_M m D) (hn : D 0 0 = nI N) (hN : N < 6) : vp_in (m 72 0) 6 := by
  rw [hM.1.1, hn]; exact in_nI (by omega) (by omega)
/-- the state with one layer more -/
def y_lay (D : q_Mem) (N : Nat) (a0 a1 a2 a3 : Int32) : q_Mem := q_set (q_set (q_set (q_set (q_set (q_set (q_set (q_set (q_set D 1 (upd (D 1) N a0)) 2 (upd (D 2) N a1)) 3 (upd (D 3) N a2)) 4 (upd (D 4) N a3)) 5 (upd (D 5) N 0)) 6 (upd (D 6) N 0)) 7 (upd (D 7) N 0)) 8 (upd (D 8) N 0)) 0 (upd (D 0) 0 (nI (N + 1)))
theorem c_addInside {N : Nat} {a0 a1 a2 a3 : Int32} {mem D : q_Mem} {Q : q_Mem → Prop} (hC : y_C mem D) (hn : D 0 0 = nI N) (hN : N < 6) (h : ∀ m, y_C m (y_lay D N a0 a1 a2 a3) → y_hi mem m → Q m) : wp_X1_addInside 1 a0 a1 a2 a3 mem Q := by
  unfold wp_X1_addInside
  have hlt : mem 1 11 < (6 : Int32) := by rw [hC.1.1, hn, z_lt, t_6, z_nI (by omega)]; omega
  refine ⟨fun _ => ?_, fun z => absurd hlt z⟩
  have hh0 : y_hi mem mem := y_hi.rf mem
  refine ⟨s_ci hC hn hN, ?_⟩
  intro m1 e1
  have hC1 : y_C m1 (q_set D 1 (upd (D 1) N a0)) := by rw [e1]; exact s_c (k := 0) hC hn hN (by omega)
  have hh1 : y_hi mem m1 := by rw [e1]; exact hh0.set (by omega)
  clear e1
  refine ⟨s_ci hC1 hn hN, ?_⟩
  intro m2 e2
  have hC2 : y_C m2 (q_set (q_set D 1 (upd (D 1) N a0)) 2 (upd (D 2) N a1)) := by rw [e2]; exact s_c (k := 1) hC1 hn hN (by omega)
  have hh2 : y_hi mem m2 := by rw [e2]; exact hh1.set (by omega)
  clear e2
  refine ⟨s_ci hC2 hn hN, ?_⟩
  intro m3 e3
  have hC3 : y_C m3 (q_set (q_set (q_set D 1 (upd (D 1) N a0)) 2 (upd (D 2) N a1)) 3 (upd (D 3) N a2)) := by rw [e3]; exact s_c (k := 2) hC2 hn hN (by omega)
  have hh3 : y_hi mem m3 := by rw [e3]; exact hh2.set (by omega)
  clear e3
  refine ⟨s_ci hC3 hn hN, ?_⟩
  intro m4 e4
  have hC4 : y_C m4 (q_set (q_set (q_set (q_set D 1 (upd (D 1) N a0)) 2 (upd (D 2) N a1)) 3 (upd (D 3) N a2)) 4 (upd (D 4) N a3)) := by rw [e4]; exact s_c (k := 3) hC3 hn hN (by omega)
  have hh4 : y_hi mem m4 := by rw [e4]; exact hh3.set (by omega)
  clear e4
  refine ⟨s_ci hC4 hn hN, ?_⟩
  intro m5 e5
  have hC5 : y_C m5 (q_set (q_set (q_set (q_set (q_set D 1 (upd (D 1) N a0)) 2 (upd (D 2) N a1)) 3 (upd (D 3) N a2)) 4 (upd (D 4) N a3)) 5 (upd (D 5) N 0)) := by rw [e5]; exact s_c (k := 4) hC4 hn hN (by omega)
  have hh5 : y_hi mem m5 := by rw [e5]; exact hh4.set (by omega)
  clear e5
  refine ⟨s_ci hC5 hn hN, ?_⟩
  intro m6 e6
  have hC6 : y_C m6 (q_set (q_set (q_set (q_set (q_set (q_set D 1 (upd (D 1) N a0)) 2 (upd (D 2) N a1)) 3 (upd (D 3) N a2)) 4 (upd (D 4) N a3)) 5 (upd (D 5) N 0)) 6 (upd (D 6) N 0)) := by rw [e6]; exact s_c (k := 5) hC5 hn hN (by omega)
  have hh6 : y_hi mem m6 := by rw [e6]; exact hh5.set (by omega)
  clear e6
  refine ⟨s_ci hC6 hn hN, ?_⟩
  intro m7 e7
  have hC7 : y_C m7 (q_set (q_set (q_set (q_set (q_set (q_set (q_set D 1 (upd (D 1) N a0)) 2 (upd (D 2) N a1)) 3 (upd (D 3) N a2)) 4 (upd (D 4) N a3)) 5 (upd (D 5) N 0)) 6 (upd (D 6) N 0)) 7 (upd (D 7) N 0)) := by rw [e7]; exact s_c (k := 6) hC6 hn hN (by omega)
  have hh7 : y_hi mem m7 := by rw [e7]; exact hh6.set (by omega)
  clear e7
  refine ⟨s_ci hC7 hn hN, ?_⟩
  intro m8 e8
  have hC8 : y_C m8 (q_set (q_set (q_set (q_set (q_set (q_set (q_set (q_set D 1 (upd (D 1) N a0)) 2 (upd (D 2) N a1)) 3 (upd (D 3) N a2)) 4 (upd (D 4) N a3)) 5 (upd (D 5) N 0)) 6 (upd (D 6) N 0)) 7 (upd (D 7) N 0)) 8 (upd (D 8) N 0)) := by rw [e8]; exact s_c (k := 7) hC7 hn hN (by omega)
  have hh8 : y_hi mem m8 := by rw [e8]; exact hh7.set (by omega)
  clear e8
  intro m9 e9
  have e11 : m8 1 11 + (1 : Int32) = nI (N + 1) := by
    have : m8 1 11 = nI N := hC8.1.1.trans hn
    rw [this, nI_1]
  have hC9 : y_C m9 (y_lay D N a0 a1 a2 a3) := by rw [e9, e11]; exact hC8.size _
  have hh9 : y_hi mem m9 := by rw [e9]; exact hh8.set (by omega)
  exact h m9 hC9 hh9
theorem m_layer {N : Nat} {a0 a1 a2 a3 : Int32} {mem D : q_Mem} {Q : Int32 → q_Mem → Prop} (hM : y_M mem D) (hn : D 0 0 = nI N) (hN : N < 6) (c0 : 1 ≤ a0.toInt ∧ a0.toInt ≤ 1000) (c1 : 1 ≤ a1.toInt ∧ a1.toInt ≤ 50) (c2 : 1 ≤ a2.toInt ∧ a2.toInt ≤ 50) (c3 : 0 ≤ a3.toInt ∧ a3.toInt ≤ 2) (h : ∀ m, y_M m (y_lay D N a0 a1 a2 a3) → y_lo mem m → Q (nI (N + 1)) m) : wp_X3_layer a0 a1 a2 a3 mem Q := by
  unfold wp_X3_layer
  refine p_inT 1 1000 rfl rfl c0 (b_1 ?_)
  refine p_inT 1 50 rfl rfl c1 (b_1 ?_)
  refine p_inT 1 50 rfl rfl c2 (b_1 ?_)
  refine p_inT 0 2 rfl rfl c3 (b_n1 ?_)
  have hne : ¬ mem 72 0 = (6 : Int32) := by rw [hM.1.1, hn, z_eq, t_6, z_nI (by omega)]; omega
  refine ⟨fun _ => ?_, fun z => absurd z hne⟩
  have hh0 : y_lo mem mem := y_lo.rf mem
  refine ⟨s_mi hM hn hN, ?_⟩
  intro m1 e1
  have hM1 : y_M m1 (q_set D 1 (upd (D 1) N a0)) := by rw [e1]; exact s_m (k := 0) hM hn hN (by omega)
  have hh1 : y_lo mem m1 := by rw [e1]; exact hh0.set (by omega)
  clear e1
  refine ⟨s_mi hM1 hn hN, ?_⟩
  intro m2 e2
  have hM2 : y_M m2 (q_set (q_set D 1 (upd (D 1) N a0)) 2 (upd (D 2) N a1)) := by rw [e2]; exact s_m (k := 1) hM1 hn hN (by omega)
  have hh2 : y_lo mem m2 := by rw [e2]; exact hh1.set (by omega)
  clear e2
  refine ⟨s_mi hM2 hn hN, ?_⟩
  intro m3 e3
  have hM3 : y_M m3 (q_set (q_set (q_set D 1 (upd (D 1) N a0)) 2 (upd (D 2) N a1)) 3 (upd (D 3) N a2)) := by rw [e3]; exact s_m (k := 2) hM2 hn hN (by omega)
  have hh3 : y_lo mem m3 := by rw [e3]; exact hh2.set (by omega)
  clear e3
  refine ⟨s_mi hM3 hn hN, ?_⟩
  intro m4 e4
  have hM4 : y_M m4 (q_set (q_set (q_set (q_set D 1 (upd (D 1) N a0)) 2 (upd (D 2) N a1)) 3 (upd (D 3) N a2)) 4 (upd (D 4) N a3)) := by rw [e4]; exact s_m (k := 3) hM3 hn hN (by omega)
  have hh4 : y_lo mem m4 := by rw [e4]; exact hh3.set (by omega)
  clear e4
  refine ⟨s_mi hM4 hn hN, ?_⟩
  intro m5 e5
  have hM5 : y_M m5 (q_set (q_set (q_set (q_set (q_set D 1 (upd (D 1) N a0)) 2 (upd (D 2) N a1)) 3 (upd (D 3) N a2)) 4 (upd (D 4) N a3)) 5 (upd (D 5) N 0)) := by rw [e5]; exact s_m (k := 4) hM4 hn hN (by omega)
  have hh5 : y_lo mem m5 := by rw [e5]; exact hh4.set (by omega)
  clear e5
  refine ⟨s_mi hM5 hn hN, ?_⟩
  intro m6 e6
  have hM6 : y_M m6 (q_set (q_set (q_set (q_set (q_set (q_set D 1 (upd (D 1) N a0)) 2 (upd (D 2) N a1)) 3 (upd (D 3) N a2)) 4 (upd (D 4) N a3)) 5 (upd (D 5) N 0)) 6 (upd (D 6) N 0)) := by rw [e6]; exact s_m (k := 5) hM5 hn hN (by omega)
  have hh6 : y_lo mem m6 := by rw [e6]; exact hh5.set (by omega)
  clear e6
  refine ⟨s_mi hM6 hn hN, ?_⟩
  intro m7 e7
  have hM7 : y_M m7 (q_set (q_set (q_set (q_set (q_set (q_set (q_set D 1 (upd (D 1) N a0)) 2 (upd (D 2) N a1)) 3 (upd (D 3) N a2)) 4 (upd (D 4) N a3)) 5 (upd (D 5) N 0)) 6 (upd (D 6) N 0)) 7 (upd (D 7) N 0)) := by rw [e7]; exact s_m (k := 6) hM6 hn hN (by omega)
  have hh7 : y_lo mem m7 := by rw [e7]; exact hh6.set (by omega)
  clear e7
  refine ⟨s_mi hM7 hn hN, ?_⟩
  intro m8 e8
  have hM8 : y_M m8 (q_set (q_set (q_set (q_set (q_set (q_set (q_set (q_set D 1 (upd (D 1) N a0)) 2 (upd (D 2) N a1)) 3 (upd (D 3) N a2)) 4 (upd (D 4) N a3)) 5 (upd (D 5) N 0)) 6 (upd (D 6) N 0)) 7 (upd (D 7) N 0)) 8 (upd (D 8) N 0)) := by rw [e8]; exact s_m (k := 7) hM7 hn hN (by omega)
  have hh8 : y_lo mem m8 := by rw [e8]; exact hh7.set (by omega)
  clear e8
  intro m9 e9
  have e11 : m8 72 0 + (1 : Int32) = nI (N + 1) := by
    have : m8 72 0 = nI N := hM8.1.1.trans hn
    rw [this, nI_1]
  have hM9 : y_M m9 (y_lay D N a0 a1 a2 a3) := by rw [e9, e11]; exact hM8.field 0 _
  have hh9 : y_lo mem m9 := by rw [e9]; exact hh8.set (by omega)
  rw [show m9 72 0 = nI (N + 1) from hM9.1.1]
  exact h m9 hM9 hh9
theorem v_lay {D : q_Mem} {N : Nat} {a0 a1 a2 a3 : Int32} (hV : y_V D) (hn : D 0 0 = nI N) (hN : N < 6) (c0 : 1 ≤ a0.toInt ∧ a0.toInt ≤ 1000) (c1 : 1 ≤ a1.toInt ∧ a1.toInt ≤ 50) (c2 : 1 ≤ a2.toInt ∧ a2.toInt ≤ 50) (c3 : 0 ≤ a3.toInt ∧ a3.toInt ≤ 2) : y_V (y_lay D N a0 a1 a2 a3) := by
  obtain ⟨N', H, x, s, r, f, ⟨e0, e1, e2, e3, e4, e5⟩, ⟨g1, g2, g3, g4, g5⟩, ⟨hN', hL, hS⟩, v2, v3, v4, v5, v6⟩ := hV
  have hNN : N' = N := (nI_eq (by omega) (by omega)).mp (e0.symm.trans hn)
  subst hNN
  obtain ⟨n0, _, p0, q0⟩ := z_nat (x := a0) (by omega)
  obtain ⟨n3, _, p3, q3⟩ := z_nat c3.1
  refine ⟨N' + 1, H, x, s, r, f, ⟨rfl, e1, e2, e3, e4, e5⟩, ⟨g1, g2, g3, g4, g5⟩, ⟨by omega, fun i hi => ?_, fun i hi => ?_⟩, fun i hi => ?_, fun i hi => ?_, v4, v5, fun i hi => ?_⟩
  · show z_LR (upd (D 1) N' a0) (upd (D 4) N' a3) (upd (D 5) N' 0) i
    by_cases c : i = N'
    · subst c
      exact ⟨n0, n3, 0, by rw [upd_s]; exact p0, by rw [upd_s]; exact p3, by rw [upd_s]; exact nI_0.symm, by omega, by omega, by omega, by omega⟩
    · obtain ⟨r1, c1, w1, h1, h2, h3, h4⟩ := hL i (by omega)
      exact ⟨r1, c1, w1, by rw [upd_n c]; exact h1, by rw [upd_n c]; exact h2, by rw [upd_n c]; exact h3, h4⟩
  · show 1 ≤ (upd (D 2) N' a1 i).toInt ∧ (upd (D 2) N' a1 i).toInt ≤ 50
    by_cases c : i = N'
    · rw [c, upd_s]; exact c1
    · rw [upd_n c]; exact hS i (by omega)
  · show 1 ≤ (upd (D 3) N' a2 i).toInt ∧ (upd (D 3) N' a2 i).toInt ≤ 50
    by_cases c : i = N'
    · rw [c, upd_s]; exact c2
    · rw [upd_n c]; exact v2 i (by omega)
  · show 0 ≤ (upd (D 7) N' 0 i).toInt ∧ (upd (D 7) N' 0 i).toInt ≤ 1000
    by_cases c : i = N'
    · rw [c, upd_s, t_0]; omega
    · rw [upd_n c]; exact v3 i (by omega)
  · obtain ⟨l, b, h1, h2, h3, h4⟩ := v6 i hi
    exact ⟨l, b, h1, by omega, h3, h4⟩
theorem o_layer {a0 a1 a2 a3 : Int32} {mem D : q_Mem} {Q : Int32 → Int32 → q_Mem → Prop} (hC : y_C mem D) (hM : y_M mem D) (hV : y_V D) (hQ : y_K Q) : wp_X2_layer a0 a1 a2 a3 mem (fun r1 m1 => wp_X3_layer a0 a1 a2 a3 m1 (fun r2 m2 => Q r1 r2 m2)) := by
  obtain ⟨N, H, x, s, r, f, ⟨e0, e1, e2, e3, e4, e5⟩, ⟨g1, g2, g3, g4, g5⟩, v1, -⟩ := id hV
  have hN6 := v1.1
  unfold wp_X2_layer
  refine p_wi 1 1000 rfl rfl (fun c0 => b_0 ?_) (fun c0 => b_1 ?_)
  · unfold wp_X3_layer
    exact p_inF 1 1000 rfl rfl c0 (b_0 (hQ _ _ D hC hM hV))
  refine p_wi 1 50 rfl rfl (fun c1 => b_0 ?_) (fun c1 => b_1 ?_)
  · unfold wp_X3_layer
    exact p_inT 1 1000 rfl rfl c0 (b_1 (p_inF 1 50 rfl rfl c1 (b_0 (hQ _ _ D hC hM hV))))
  refine p_wi 1 50 rfl rfl (fun c2 => b_0 ?_) (fun c2 => b_1 ?_)
  · unfold wp_X3_layer
    exact p_inT 1 1000 rfl rfl c0 (b_1 (p_inT 1 50 rfl rfl c1 (b_1 (p_inF 1 50 rfl rfl c2 (b_0 (hQ _ _ D hC hM hV))))))
  refine p_wi 0 2 rfl rfl (fun c3 => b_n0 ?_) (fun c3 => b_n1 ?_)
  · unfold wp_X3_layer
    exact p_inT 1 1000 rfl rfl c0 (b_1 (p_inT 1 50 rfl rfl c1 (b_1 (p_inT 1 50 rfl rfl c2 (b_1 (p_inF 0 2 rfl rfl c3 (b_n0 (hQ _ _ D hC hM hV))))))))
  refine ⟨fun c => ?_, fun c => ?_⟩
  · have hN : N < 6 := by rw [hC.1.1, e0, z_lt, t_6, z_nI (by omega)] at c; omega
    refine c_addInside hC e0 hN (fun m1 hC1 hh1 => ?_)
    refine m_layer (hM.kept hh1) e0 hN c0 c1 c2 c3 (fun m2 hM2 hh2 => ?_)
    rw [show m1 1 11 = nI (N + 1) from hC1.1.1]
    exact hQ _ _ _ (hC1.kept hh2) hM2 (v_lay hV e0 hN c0 c1 c2 c3)
  · have hN : N = 6 := by
      have := z_nlt c
      rw [hC.1.1, e0, t_6, z_nI (by omega)] at this
      omega
    unfold wp_X3_layer
    refine p_inT 1 1000 rfl rfl c0 (b_1 (p_inT 1 50 rfl rfl c1 (b_1 (p_inT 1 50 rfl rfl c2 (b_1 (p_inT 0 2 rfl rfl c3 (b_n1 ?_)))))))
    have he : mem 72 0 = (6 : Int32) := by rw [hM.1.1, e0, hN]; rfl
    exact ⟨fun z => absurd he z, fun _ => hQ _ _ D hC hM hV⟩

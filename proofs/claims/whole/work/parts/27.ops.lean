/-! hour -/
theorem s_mh {m D : q_Mem} {H j : Nat} {v : Int32} (hM : y_M m D) : y_M (q_set m 83 (upd (m 83) (5 * H + j) v)) (q_set D 11 (upd (D 11) (5 * H + j) v)) := by
  rw [hM.2.2.2.2.1]
  exact hM.cell (k := 11) (by omega) (by omega) _
theorem s_mhi {m D : q_Mem} {H : Nat} (hM : y_M m D) (hn : D 0 11 = nI H) (hH : H < 24) (j : Nat) (hj : j < 5) : (5 : Int32) * m 72 11 + nI j = nI (5 * H + j) ∧ (nI (5 * H + j)).toNatClampNeg = 5 * H + j ∧ vp_in (nI (5 * H + j)) 120 := by
  rw [hM.1.2.1, hn, z_lit 5, pk_mul, nI_add]
  exact ⟨rfl, nI_clamp (by omega), in_nI (by omega) (by omega)⟩
def y_hr (D : q_Mem) (H : Nat) (a0 a1 a2 a3 a4 : Int32) : q_Mem := q_set (q_set (q_set (q_set (q_set (q_set D 11 (upd (D 11) (5 * H + 0) a0)) 11 (upd ((q_set D 11 (upd (D 11) (5 * H + 0) a0)) 11) (5 * H + 1) a1)) 11 (upd ((q_set (q_set D 11 (upd (D 11) (5 * H + 0) a0)) 11 (upd ((q_set D 11 (upd (D 11) (5 * H + 0) a0)) 11) (5 * H + 1) a1)) 11) (5 * H + 2) a2)) 11 (upd ((q_set (q_set (q_set D 11 (upd (D 11) (5 * H + 0) a0)) 11 (upd ((q_set D 11 (upd (D 11) (5 * H + 0) a0)) 11) (5 * H + 1) a1)) 11 (upd ((q_set (q_set D 11 (upd (D 11) (5 * H + 0) a0)) 11 (upd ((q_set D 11 (upd (D 11) (5 * H + 0) a0)) 11) (5 * H + 1) a1)) 11) (5 * H + 2) a2)) 11) (5 * H + 3) a3)) 11 (upd ((q_set (q_set (q_set (q_set D 11 (upd (D 11) (5 * H + 0) a0)) 11 (upd ((q_set D 11 (upd (D 11) (5 * H + 0) a0)) 11) (5 * H + 1) a1)) 11 (upd ((q_set (q_set D 11 (upd (D 11) (5 * H + 0) a0)) 11 (upd ((q_set D 11 (upd (D 11) (5 * H + 0) a0)) 11) (5 * H + 1) a1)) 11) (5 * H + 2) a2)) 11 (upd ((q_set (q_set (q_set D 11 (upd (D 11) (5 * H + 0) a0)) 11 (upd ((q_set D 11 (upd (D 11) (5 * H + 0) a0)) 11) (5 * H + 1) a1)) 11 (upd ((q_set (q_set D 11 (upd (D 11) (5 * H + 0) a0)) 11 (upd ((q_set D 11 (upd (D 11) (5 * H + 0) a0)) 11) (5 * H + 1) a1)) 11) (5 * H + 2) a2)) 11) (5 * H + 3) a3)) 11) (5 * H + 4) a4)) 0 (upd (D 0) 11 (nI (H + 1)))
theorem m_hour {H : Nat} {a0 a1 a2 a3 a4 : Int32} {mem D : q_Mem} {Q : Int32 → q_Mem → Prop} (hM : y_M mem D) (hn : D 0 11 = nI H) (hH : H < 24) (c0 : 0 ≤ a0.toInt ∧ a0.toInt ≤ 1000) (c1 : -30 ≤ a1.toInt ∧ a1.toInt ≤ 50) (c2 : 0 ≤ a2.toInt ∧ a2.toInt ≤ 100) (c3 : 0 ≤ a3.toInt ∧ a3.toInt ≤ 1000) (c4 : -30 ≤ a4.toInt ∧ a4.toInt ≤ 50) (h : ∀ m, y_M m (y_hr D H a0 a1 a2 a3 a4) → y_lo mem m → Q (nI (H + 1)) m) : wp_X3_hour a0 a1 a2 a3 a4 mem Q := by
  unfold wp_X3_hour
  refine p_inT 0 1000 rfl rfl c0 (b_1 (p_inT (-30) 50 rfl rfl c1 (b_1 (p_inT 0 100 rfl rfl c2 (b_1 (p_inT 0 1000 rfl rfl c3 (b_1 (p_inT (-30) 50 rfl rfl c4 (b_n1 ?_)))))))))
  have hne : ¬ mem 72 11 = (24 : Int32) := by rw [hM.1.2.1, hn, z_eq, z_nI (by omega), show (24 : Int32).toInt = 24 from rfl]; omega
  refine ⟨fun _ => ?_, fun z => absurd z hne⟩
  rw [show q_al 83 = 120 from rfl]
  have hh0 : y_lo mem mem := y_lo.rf mem
  have hM0 := hM
  have m0 : y_M mem D := hM
  obtain ⟨p0, q0, s0⟩ := s_mhi m0 hn hH 0 (by omega)
  rw [show nI 0 = (0 : Int32) from rfl, z_a0] at p0
  rw [p0, q0]
  refine ⟨s0, ?_⟩
  intro m1 f0
  have hM1x : y_M m1 (q_set D 11 (upd (D 11) (5 * H + 0) a0)) := by rw [f0]; exact s_mh m0
  have hh1 : y_lo mem m1 := by rw [f0]; exact hh0.set (by omega)
  clear f0 p0 q0
  obtain ⟨p1, q1, s1⟩ := s_mhi hM1x hn hH 1 (by omega)
  rw [← z_lit 1] at p1
  rw [p1, q1]
  refine ⟨s1, ?_⟩
  intro m2 f1
  have hM2x : y_M m2 (q_set (q_set D 11 (upd (D 11) (5 * H + 0) a0)) 11 (upd ((q_set D 11 (upd (D 11) (5 * H + 0) a0)) 11) (5 * H + 1) a1)) := by rw [f1]; exact s_mh hM1x
  have hh2 : y_lo mem m2 := by rw [f1]; exact hh1.set (by omega)
  clear f1 p1 q1
  obtain ⟨p2, q2, s2⟩ := s_mhi hM2x hn hH 2 (by omega)
  rw [← z_lit 2] at p2
  rw [p2, q2]
  refine ⟨s2, ?_⟩
  intro m3 f2
  have hM3x : y_M m3 (q_set (q_set (q_set D 11 (upd (D 11) (5 * H + 0) a0)) 11 (upd ((q_set D 11 (upd (D 11) (5 * H + 0) a0)) 11) (5 * H + 1) a1)) 11 (upd ((q_set (q_set D 11 (upd (D 11) (5 * H + 0) a0)) 11 (upd ((q_set D 11 (upd (D 11) (5 * H + 0) a0)) 11) (5 * H + 1) a1)) 11) (5 * H + 2) a2)) := by rw [f2]; exact s_mh hM2x
  have hh3 : y_lo mem m3 := by rw [f2]; exact hh2.set (by omega)
  clear f2 p2 q2
  obtain ⟨p3, q3, s3⟩ := s_mhi hM3x hn hH 3 (by omega)
  rw [← z_lit 3] at p3
  rw [p3, q3]
  refine ⟨s3, ?_⟩
  intro m4 f3
  have hM4x : y_M m4 (q_set (q_set (q_set (q_set D 11 (upd (D 11) (5 * H + 0) a0)) 11 (upd ((q_set D 11 (upd (D 11) (5 * H + 0) a0)) 11) (5 * H + 1) a1)) 11 (upd ((q_set (q_set D 11 (upd (D 11) (5 * H + 0) a0)) 11 (upd ((q_set D 11 (upd (D 11) (5 * H + 0) a0)) 11) (5 * H + 1) a1)) 11) (5 * H + 2) a2)) 11 (upd ((q_set (q_set (q_set D 11 (upd (D 11) (5 * H + 0) a0)) 11 (upd ((q_set D 11 (upd (D 11) (5 * H + 0) a0)) 11) (5 * H + 1) a1)) 11 (upd ((q_set (q_set D 11 (upd (D 11) (5 * H + 0) a0)) 11 (upd ((q_set D 11 (upd (D 11) (5 * H + 0) a0)) 11) (5 * H + 1) a1)) 11) (5 * H + 2) a2)) 11) (5 * H + 3) a3)) := by rw [f3]; exact s_mh hM3x
  have hh4 : y_lo mem m4 := by rw [f3]; exact hh3.set (by omega)
  clear f3 p3 q3
  obtain ⟨p4, q4, s4⟩ := s_mhi hM4x hn hH 4 (by omega)
  rw [← z_lit 4] at p4
  rw [p4, q4]
  refine ⟨s4, ?_⟩
  intro m5 f4
  have hM5x : y_M m5 (q_set (q_set (q_set (q_set (q_set D 11 (upd (D 11) (5 * H + 0) a0)) 11 (upd ((q_set D 11 (upd (D 11) (5 * H + 0) a0)) 11) (5 * H + 1) a1)) 11 (upd ((q_set (q_set D 11 (upd (D 11) (5 * H + 0) a0)) 11 (upd ((q_set D 11 (upd (D 11) (5 * H + 0) a0)) 11) (5 * H + 1) a1)) 11) (5 * H + 2) a2)) 11 (upd ((q_set (q_set (q_set D 11 (upd (D 11) (5 * H + 0) a0)) 11 (upd ((q_set D 11 (upd (D 11) (5 * H + 0) a0)) 11) (5 * H + 1) a1)) 11 (upd ((q_set (q_set D 11 (upd (D 11) (5 * H + 0) a0)) 11 (upd ((q_set D 11 (upd (D 11) (5 * H + 0) a0)) 11) (5 * H + 1) a1)) 11) (5 * H + 2) a2)) 11) (5 * H + 3) a3)) 11 (upd ((q_set (q_set (q_set (q_set D 11 (upd (D 11) (5 * H + 0) a0)) 11 (upd ((q_set D 11 (upd (D 11) (5 * H + 0) a0)) 11) (5 * H + 1) a1)) 11 (upd ((q_set (q_set D 11 (upd (D 11) (5 * H + 0) a0)) 11 (upd ((q_set D 11 (upd (D 11) (5 * H + 0) a0)) 11) (5 * H + 1) a1)) 11) (5 * H + 2) a2)) 11 (upd ((q_set (q_set (q_set D 11 (upd (D 11) (5 * H + 0) a0)) 11 (upd ((q_set D 11 (upd (D 11) (5 * H + 0) a0)) 11) (5 * H + 1) a1)) 11 (upd ((q_set (q_set D 11 (upd (D 11) (5 * H + 0) a0)) 11 (upd ((q_set D 11 (upd (D 11) (5 * H + 0) a0)) 11) (5 * H + 1) a1)) 11) (5 * H + 2) a2)) 11) (5 * H + 3) a3)) 11) (5 * H + 4) a4)) := by rw [f4]; exact s_mh hM4x
  have hh5 : y_lo mem m5 := by rw [f4]; exact hh4.set (by omega)
  clear f4 p4 q4
  intro m6 f5
  have e11 : m5 72 11 + (1 : Int32) = nI (H + 1) := by
    have : m5 72 11 = nI H := hM5x.1.2.1.trans hn
    rw [this, nI_1]
  have hM6 : y_M m6 (y_hr D H a0 a1 a2 a3 a4) := by rw [f5, e11]; exact hM5x.field 11 _
  have hh6 : y_lo mem m6 := by rw [f5]; exact hh5.set (by omega)
  rw [show m6 72 11 = nI (H + 1) from hM6.1.2.1]
  exact h m6 hM6 hh6
theorem v_hr {D : q_Mem} {H : Nat} {a0 a1 a2 a3 a4 : Int32} (hV : y_V D) (hn : D 0 11 = nI H) (hH : H < 24) (c0 : 0 ≤ a0.toInt ∧ a0.toInt ≤ 1000) (c1 : -30 ≤ a1.toInt ∧ a1.toInt ≤ 50) (c2 : 0 ≤ a2.toInt ∧ a2.toInt ≤ 100) (c3 : 0 ≤ a3.toInt ∧ a3.toInt ≤ 1000) (c4 : -30 ≤ a4.toInt ∧ a4.toInt ≤ 50) : y_V (y_hr D H a0 a1 a2 a3 a4) := by
  obtain ⟨N, H', x, s, r, f, ⟨e0, e1, e2, e3, e4, e5⟩, ⟨g1, g2, g3, g4, g5⟩, v1, v2, v3, v4, v5, v6⟩ := hV
  have hHH : H' = H := (nI_eq (by omega) (by omega)).mp (e1.symm.trans hn)
  subst hHH
  refine ⟨N, H' + 1, x, s, r, f, ⟨e0, rfl, e2, e3, e4, e5⟩, ⟨by omega, by omega, g3, g4, g5⟩, v1, v2, v3, v4, fun i hi => ?_, v6⟩
  have key : ∀ k : Nat, y_hr D H' a0 a1 a2 a3 a4 11 k = upd (upd (upd (upd (upd (D 11) (5 * H' + 0) a0) (5 * H' + 1) a1) (5 * H' + 2) a2) (5 * H' + 3) a3) (5 * H' + 4) a4 k := fun k => rfl
  rw [key, key, key, key, key]
  by_cases c : i = H'
  · subst c
    have u0 : upd (upd (upd (upd (upd (D 11) (5 * i + 0) a0) (5 * i + 1) a1) (5 * i + 2) a2) (5 * i + 3) a3) (5 * i + 4) a4 (5 * i) = a0 := by rw [upd_n (by omega), upd_n (by omega), upd_n (by omega), upd_n (by omega)]; exact upd_s _ _ _
    have u1 : upd (upd (upd (upd (upd (D 11) (5 * i + 0) a0) (5 * i + 1) a1) (5 * i + 2) a2) (5 * i + 3) a3) (5 * i + 4) a4 (5 * i + 1) = a1 := by rw [upd_n (by omega), upd_n (by omega), upd_n (by omega), upd_s]
    have u2 : upd (upd (upd (upd (upd (D 11) (5 * i + 0) a0) (5 * i + 1) a1) (5 * i + 2) a2) (5 * i + 3) a3) (5 * i + 4) a4 (5 * i + 2) = a2 := by rw [upd_n (by omega), upd_n (by omega), upd_s]
    have u3 : upd (upd (upd (upd (upd (D 11) (5 * i + 0) a0) (5 * i + 1) a1) (5 * i + 2) a2) (5 * i + 3) a3) (5 * i + 4) a4 (5 * i + 3) = a3 := by rw [upd_n (by omega), upd_s]
    rw [u0, u1, u2, u3, upd_s]
    exact ⟨c0, c3, c2, c1, c4⟩
  · have un : ∀ k, k < 5 → upd (upd (upd (upd (upd (D 11) (5 * H' + 0) a0) (5 * H' + 1) a1) (5 * H' + 2) a2) (5 * H' + 3) a3) (5 * H' + 4) a4 (5 * i + k) = D 11 (5 * i + k) := fun k hk => by rw [upd_n (by omega), upd_n (by omega), upd_n (by omega), upd_n (by omega), upd_n (by omega)]
    have u0 : upd (upd (upd (upd (upd (D 11) (5 * H' + 0) a0) (5 * H' + 1) a1) (5 * H' + 2) a2) (5 * H' + 3) a3) (5 * H' + 4) a4 (5 * i) = D 11 (5 * i) := un 0 (by omega)
    rw [u0, un 1 (by omega), un 2 (by omega), un 3 (by omega), un 4 (by omega)]
    exact v5 i (by omega)
theorem o_hour {a0 a1 a2 a3 a4 : Int32} {mem D : q_Mem} {Q : Int32 → Int32 → q_Mem → Prop} (hC : y_C mem D) (hM : y_M mem D) (hV : y_V D) (hQ : y_K Q) : wp_X2_hour a0 a1 a2 a3 a4 mem (fun r1 m1 => wp_X3_hour a0 a1 a2 a3 a4 m1 (fun r2 m2 => Q r1 r2 m2)) := by
  obtain ⟨N, H, x, s, r, f, ⟨e0, e1, e2, e3, e4, e5⟩, ⟨g1, g2, g3, g4, g5⟩, -⟩ := id hV
  unfold wp_X2_hour
  refine p_isD (fun c0 => b_0 ?_) (fun c0 => b_1 ?_)
  · unfold wp_X3_hour
    exact p_inF 0 1000 rfl rfl c0 (b_0 (hQ _ _ D hC hM hV))
  refine p_isW (fun c1 => b_0 ?_) (fun c1 => b_1 ?_)
  · unfold wp_X3_hour
    exact p_inT 0 1000 rfl rfl c0 (b_1 (p_inF (-30) 50 rfl rfl c1 (b_0 (hQ _ _ D hC hM hV))))
  refine p_wi 0 100 rfl rfl (fun c2 => b_0 ?_) (fun c2 => b_1 ?_)
  · unfold wp_X3_hour
    exact p_inT 0 1000 rfl rfl c0 (b_1 (p_inT (-30) 50 rfl rfl c1 (b_1 (p_inF 0 100 rfl rfl c2 (b_0 (hQ _ _ D hC hM hV))))))
  refine p_isD (fun c3 => b_0 ?_) (fun c3 => b_1 ?_)
  · unfold wp_X3_hour
    exact p_inT 0 1000 rfl rfl c0 (b_1 (p_inT (-30) 50 rfl rfl c1 (b_1 (p_inT 0 100 rfl rfl c2 (b_1 (p_inF 0 1000 rfl rfl c3 (b_0 (hQ _ _ D hC hM hV))))))))
  refine p_isW (fun c4 => b_n0 ?_) (fun c4 => b_n1 ?_)
  · unfold wp_X3_hour
    exact p_inT 0 1000 rfl rfl c0 (b_1 (p_inT (-30) 50 rfl rfl c1 (b_1 (p_inT 0 100 rfl rfl c2 (b_1 (p_inT 0 1000 rfl rfl c3 (b_1 (p_inF (-30) 50 rfl rfl c4 (b_n0 (hQ _ _ D hC hM hV))))))))))
  have h24 : (24 : Int32).toInt = 24 := rfl
  rw [hC.1.2.1, e1]
  refine ⟨fun c => ?_, fun c => ?_⟩
  · have hH : H < 24 := by rw [z_lt, z_nI (by omega), h24] at c; omega
    have i0 : vp_in (0 : Int32) 5 := vp_in_iff.mpr (by decide)
    have i1 : vp_in (1 : Int32) 5 := vp_in_iff.mpr (by decide)
    have i2 : vp_in (2 : Int32) 5 := vp_in_iff.mpr (by decide)
    have i3 : vp_in (3 : Int32) 5 := vp_in_iff.mpr (by decide)
    have i4 : vp_in (4 : Int32) 5 := vp_in_iff.mpr (by decide)
    rw [nI_clamp (show H < 2 ^ 31 by omega), al_hr hH, c_0, c_1, c_2, c_3, c_4]
    refine ⟨in_nI hH (by omega), i0, ?_⟩
    have hh0 : y_hi mem mem := y_hi.rf mem
    intro m1 f0
    have hC1 : y_C m1 (q_set D 11 (upd (D 11) (5 * H + 0) a0)) := by rw [f0]; exact hC.hour hH (by omega) a0
    have hh1 : y_hi mem m1 := by rw [f0]; exact hh0.set (by omega)
    clear f0
    refine ⟨i1, ?_⟩
    intro m2 f1
    have hC2 : y_C m2 (q_set (q_set D 11 (upd (D 11) (5 * H + 0) a0)) 11 (upd ((q_set D 11 (upd (D 11) (5 * H + 0) a0)) 11) (5 * H + 1) a1)) := by rw [f1]; exact hC1.hour hH (by omega) a1
    have hh2 : y_hi mem m2 := by rw [f1]; exact hh1.set (by omega)
    clear f1
    refine ⟨i2, ?_⟩
    intro m3 f2
    have hC3 : y_C m3 (q_set (q_set (q_set D 11 (upd (D 11) (5 * H + 0) a0)) 11 (upd ((q_set D 11 (upd (D 11) (5 * H + 0) a0)) 11) (5 * H + 1) a1)) 11 (upd ((q_set (q_set D 11 (upd (D 11) (5 * H + 0) a0)) 11 (upd ((q_set D 11 (upd (D 11) (5 * H + 0) a0)) 11) (5 * H + 1) a1)) 11) (5 * H + 2) a2)) := by rw [f2]; exact hC2.hour hH (by omega) a2
    have hh3 : y_hi mem m3 := by rw [f2]; exact hh2.set (by omega)
    clear f2
    refine ⟨i3, ?_⟩
    intro m4 f3
    have hC4 : y_C m4 (q_set (q_set (q_set (q_set D 11 (upd (D 11) (5 * H + 0) a0)) 11 (upd ((q_set D 11 (upd (D 11) (5 * H + 0) a0)) 11) (5 * H + 1) a1)) 11 (upd ((q_set (q_set D 11 (upd (D 11) (5 * H + 0) a0)) 11 (upd ((q_set D 11 (upd (D 11) (5 * H + 0) a0)) 11) (5 * H + 1) a1)) 11) (5 * H + 2) a2)) 11 (upd ((q_set (q_set (q_set D 11 (upd (D 11) (5 * H + 0) a0)) 11 (upd ((q_set D 11 (upd (D 11) (5 * H + 0) a0)) 11) (5 * H + 1) a1)) 11 (upd ((q_set (q_set D 11 (upd (D 11) (5 * H + 0) a0)) 11 (upd ((q_set D 11 (upd (D 11) (5 * H + 0) a0)) 11) (5 * H + 1) a1)) 11) (5 * H + 2) a2)) 11) (5 * H + 3) a3)) := by rw [f3]; exact hC3.hour hH (by omega) a3
    have hh4 : y_hi mem m4 := by rw [f3]; exact hh3.set (by omega)
    clear f3
    refine ⟨i4, ?_⟩
    intro m5 f4
    have hC5 : y_C m5 (q_set (q_set (q_set (q_set (q_set D 11 (upd (D 11) (5 * H + 0) a0)) 11 (upd ((q_set D 11 (upd (D 11) (5 * H + 0) a0)) 11) (5 * H + 1) a1)) 11 (upd ((q_set (q_set D 11 (upd (D 11) (5 * H + 0) a0)) 11 (upd ((q_set D 11 (upd (D 11) (5 * H + 0) a0)) 11) (5 * H + 1) a1)) 11) (5 * H + 2) a2)) 11 (upd ((q_set (q_set (q_set D 11 (upd (D 11) (5 * H + 0) a0)) 11 (upd ((q_set D 11 (upd (D 11) (5 * H + 0) a0)) 11) (5 * H + 1) a1)) 11 (upd ((q_set (q_set D 11 (upd (D 11) (5 * H + 0) a0)) 11 (upd ((q_set D 11 (upd (D 11) (5 * H + 0) a0)) 11) (5 * H + 1) a1)) 11) (5 * H + 2) a2)) 11) (5 * H + 3) a3)) 11 (upd ((q_set (q_set (q_set (q_set D 11 (upd (D 11) (5 * H + 0) a0)) 11 (upd ((q_set D 11 (upd (D 11) (5 * H + 0) a0)) 11) (5 * H + 1) a1)) 11 (upd ((q_set (q_set D 11 (upd (D 11) (5 * H + 0) a0)) 11 (upd ((q_set D 11 (upd (D 11) (5 * H + 0) a0)) 11) (5 * H + 1) a1)) 11) (5 * H + 2) a2)) 11 (upd ((q_set (q_set (q_set D 11 (upd (D 11) (5 * H + 0) a0)) 11 (upd ((q_set D 11 (upd (D 11) (5 * H + 0) a0)) 11) (5 * H + 1) a1)) 11 (upd ((q_set (q_set D 11 (upd (D 11) (5 * H + 0) a0)) 11 (upd ((q_set D 11 (upd (D 11) (5 * H + 0) a0)) 11) (5 * H + 1) a1)) 11) (5 * H + 2) a2)) 11) (5 * H + 3) a3)) 11) (5 * H + 4) a4)) := by rw [f4]; exact hC4.hour hH (by omega) a4
    have hh5 : y_hi mem m5 := by rw [f4]; exact hh4.set (by omega)
    clear f4
    intro m6 f5
    have e11 : m5 0 4 + (1 : Int32) = nI (H + 1) := by
      have : m5 0 4 = nI H := hC5.1.2.1.trans e1
      rw [this, nI_1]
    have hC6 : y_C m6 (y_hr D H a0 a1 a2 a3 a4) := by rw [f5, e11]; exact hC5.field (cf := 4) (df := 11) (by omega) _
    have hh6 : y_hi mem m6 := by rw [f5]; exact hh5.set (by omega)
    clear f5
    rw [show m6 0 4 = nI (H + 1) from hC6.1.2.1]
    exact m_hour (hM.kept hh6) e1 hH c0 c1 c2 c3 c4 (fun m7 hM7 hh7 => hQ _ _ _ (hC6.kept hh7) hM7 (v_hr hV e1 hH c0 c1 c2 c3 c4))
  · have hH : H = 24 := by
      have := z_nlt c
      rw [z_nI (by omega), h24] at this
      omega
    unfold wp_X3_hour
    refine p_inT 0 1000 rfl rfl c0 (b_1 (p_inT (-30) 50 rfl rfl c1 (b_1 (p_inT 0 100 rfl rfl c2 (b_1 (p_inT 0 1000 rfl rfl c3 (b_1 (p_inT (-30) 50 rfl rfl c4 (b_n1 ?_)))))))))
    have he : mem 72 11 = (24 : Int32) := by rw [hM.1.2.1, e1, hH]; rfl
    exact ⟨fun z => absurd he z, fun _ => hQ _ _ D hC hM hV⟩
/-! read -/
theorem s_mr {m D : q_Mem} {R j : Nat} {v : Int32} (hM : y_M m D) (hn : D 0 19 = nI R) (hR : R < 12) (hj : j < 4) : y_M (q_set m (88 + j) (upd (m (88 + j)) (m 72 19).toNatClampNeg v)) (q_set D (16 + j) (upd (D (16 + j)) R v)) := by
  rw [hM.1.2.2.2.2.1, hn, nI_clamp (by omega), hM.2.2.2.2.2 j hj]
  have := hM.cell (k := 16 + j) (by omega) (by omega) (upd (D (16 + j)) R v)
  rw [show 72 + (16 + j) = 88 + j by omega] at this
  exact this
theorem s_mri {m D : q_Mem} {R : Nat} (hM : y_M m D) (hn : D 0 19 = nI R) (hR : R < 12) : vp_in (m 72 19) 12 := by
  rw [hM.1.2.2.2.2.1, hn]; exact in_nI hR (by omega)
def y_rd (D : q_Mem) (R : Nat) (a0 a1 a2 a3 : Int32) : q_Mem := q_set (q_set (q_set (q_set (q_set D 16 (upd (D 16) R a0)) 17 (upd ((q_set D 16 (upd (D 16) R a0)) 17) R a1)) 18 (upd ((q_set (q_set D 16 (upd (D 16) R a0)) 17 (upd ((q_set D 16 (upd (D 16) R a0)) 17) R a1)) 18) R a2)) 19 (upd ((q_set (q_set (q_set D 16 (upd (D 16) R a0)) 17 (upd ((q_set D 16 (upd (D 16) R a0)) 17) R a1)) 18 (upd ((q_set (q_set D 16 (upd (D 16) R a0)) 17 (upd ((q_set D 16 (upd (D 16) R a0)) 17) R a1)) 18) R a2)) 19) R a3)) 0 (upd (D 0) 19 (nI (R + 1)))
theorem m_read {N R : Nat} {a0 a1 a2 a3 : Int32} {mem D : q_Mem} {Q : Int32 → q_Mem → Prop} (hM : y_M mem D) (hN : D 0 0 = nI N) (hN6 : N ≤ 6) (hn : D 0 19 = nI R) (hR : R < 12) (c0 : 0 ≤ a0.toInt ∧ a0.toInt < N) (c1 : 1 ≤ a1.toInt ∧ a1.toInt ≤ 100) (c2 : 0 ≤ a2.toInt ∧ a2.toInt ≤ 1000) (c3 : a2.toInt ≤ a3.toInt ∧ a3.toInt ≤ 1000) (h : ∀ m, y_M m (y_rd D R a0 a1 a2 a3) → y_lo mem m → Q (nI (R + 1)) m) : wp_X3_read a0 a1 a2 a3 mem Q := by
  unfold wp_X3_read
  refine p_layT (hM.1.1.trans hN) hN6 c0 (b_n1 (p_inT 1 100 rfl rfl c1 (b_1 (p_inT 0 1000 rfl rfl c2 (b_1 (p_inT a2.toInt 1000 (by rw [t64]) rfl c3 (b_n1 ?_)))))))
  have hne : ¬ mem 72 19 = (12 : Int32) := by rw [hM.1.2.2.2.2.1, hn, z_eq, z_nI (by omega), show (12 : Int32).toInt = 12 from rfl]; omega
  refine ⟨fun _ => ?_, fun z => absurd z hne⟩
  have hh0 : y_lo mem mem := y_lo.rf mem
  have hM0x : y_M mem D := hM
  refine ⟨s_mri hM0x hn hR, ?_⟩
  intro m1 f0
  have hM1x : y_M m1 (q_set D 16 (upd (D 16) R a0)) := by rw [f0]; exact s_mr (j := 0) hM0x hn hR (by omega)
  have hh1 : y_lo mem m1 := by rw [f0]; exact hh0.set (by omega)
  clear f0
  refine ⟨s_mri hM1x hn hR, ?_⟩
  intro m2 f1
  have hM2x : y_M m2 (q_set (q_set D 16 (upd (D 16) R a0)) 17 (upd ((q_set D 16 (upd (D 16) R a0)) 17) R a1)) := by rw [f1]; exact s_mr (j := 1) hM1x hn hR (by omega)
  have hh2 : y_lo mem m2 := by rw [f1]; exact hh1.set (by omega)
  clear f1
  refine ⟨s_mri hM2x hn hR, ?_⟩
  intro m3 f2
  have hM3x : y_M m3 (q_set (q_set (q_set D 16 (upd (D 16) R a0)) 17 (upd ((q_set D 16 (upd (D 16) R a0)) 17) R a1)) 18 (upd ((q_set (q_set D 16 (upd (D 16) R a0)) 17 (upd ((q_set D 16 (upd (D 16) R a0)) 17) R a1)) 18) R a2)) := by rw [f2]; exact s_mr (j := 2) hM2x hn hR (by omega)
  have hh3 : y_lo mem m3 := by rw [f2]; exact hh2.set (by omega)
  clear f2
  refine ⟨s_mri hM3x hn hR, ?_⟩
  intro m4 f3
  have hM4x : y_M m4 (q_set (q_set (q_set (q_set D 16 (upd (D 16) R a0)) 17 (upd ((q_set D 16 (upd (D 16) R a0)) 17) R a1)) 18 (upd ((q_set (q_set D 16 (upd (D 16) R a0)) 17 (upd ((q_set D 16 (upd (D 16) R a0)) 17) R a1)) 18) R a2)) 19 (upd ((q_set (q_set (q_set D 16 (upd (D 16) R a0)) 17 (upd ((q_set D 16 (upd (D 16) R a0)) 17) R a1)) 18 (upd ((q_set (q_set D 16 (upd (D 16) R a0)) 17 (upd ((q_set D 16 (upd (D 16) R a0)) 17) R a1)) 18) R a2)) 19) R a3)) := by rw [f3]; exact s_mr (j := 3) hM3x hn hR (by omega)
  have hh4 : y_lo mem m4 := by rw [f3]; exact hh3.set (by omega)
  clear f3
  intro m5 f5
  have e11 : m4 72 19 + (1 : Int32) = nI (R + 1) := by
    have : m4 72 19 = nI R := hM4x.1.2.2.2.2.1.trans hn
    rw [this, nI_1]
  have hM5 : y_M m5 (y_rd D R a0 a1 a2 a3) := by rw [f5, e11]; exact hM4x.field 19 _
  have hh5 : y_lo mem m5 := by rw [f5]; exact hh4.set (by omega)
  rw [show m5 72 19 = nI (R + 1) from hM5.1.2.2.2.2.1]
  exact h m5 hM5 hh5
theorem o_read {a0 a1 a2 a3 : Int32} {mem D : q_Mem} {Q : Int32 → Int32 → q_Mem → Prop} (hC : y_C mem D) (hM : y_M mem D) (hV : y_V D) (hQ : y_K Q) : wp_X2_read a0 a1 a2 a3 mem (fun r1 m1 => wp_X3_read a0 a1 a2 a3 m1 (fun r2 m2 => Q r1 r2 m2)) := by
  obtain ⟨N, H, x, s, R, f, ⟨e0, e1, e2, e3, e4, e5⟩, ⟨g1, g2, g3, g4, g5⟩, v1, v2, v3, v4, v5, v6⟩ := id hV
  have hN6 := v1.1
  have n0 := hM.1.1.trans e0
  unfold wp_X2_read
  refine p_hasI (hC.1.1.trans e0) hN6 (fun c0 => b_n0 ?_) (fun c0 => b_n1 ?_)
  · unfold wp_X3_read
    exact p_layF n0 hN6 c0 (b_n0 (hQ _ _ D hC hM hV))
  refine p_wi 1 100 rfl rfl (fun c1 => b_0 ?_) (fun c1 => b_1 ?_)
  · unfold wp_X3_read
    exact p_layT n0 hN6 c0 (b_n1 (p_inF 1 100 rfl rfl c1 (b_0 (hQ _ _ D hC hM hV))))
  refine p_isD (fun c2 => b_0 ?_) (fun c2 => b_1 ?_)
  · unfold wp_X3_read
    exact p_layT n0 hN6 c0 (b_n1 (p_inT 1 100 rfl rfl c1 (b_1 (p_inF 0 1000 rfl rfl c2 (b_0 (hQ _ _ D hC hM hV))))))
  have bad : ¬ (a2.toInt ≤ a3.toInt ∧ a3.toInt ≤ 1000) → wp_X3_read a0 a1 a2 a3 mem (fun r2 m2 => Q (-102) r2 m2) := fun c3 => by
    unfold wp_X3_read
    exact p_layT n0 hN6 c0 (b_n1 (p_inT 1 100 rfl rfl c1 (b_1 (p_inT 0 1000 rfl rfl c2 (b_1 (p_inF a2.toInt 1000 (by rw [t64]) rfl c3 (b_n0 (hQ _ _ D hC hM hV))))))))
  refine p_isD (fun c3 => b_0 (bad (by omega))) (fun c3 => b_1 ?_)
  refine ⟨fun c5 => ?_, fun c5 => bad (by have := z_nle c5; omega)⟩
  rw [z_le] at c5
  have h12 : (12 : Int32).toInt = 12 := rfl
  rw [hC.1.2.2.2.2.1, e4]
  refine ⟨fun c => ?_, fun c => ?_⟩
  · have hR : R < 12 := by rw [z_lt, z_nI (by omega), h12] at c; omega
    have i0 : vp_in (0 : Int32) 4 := vp_in_iff.mpr (by decide)
    have i1 : vp_in (1 : Int32) 4 := vp_in_iff.mpr (by decide)
    have i2 : vp_in (2 : Int32) 4 := vp_in_iff.mpr (by decide)
    have i3 : vp_in (3 : Int32) 4 := vp_in_iff.mpr (by decide)
    rw [nI_clamp (show R < 2 ^ 31 by omega), al_rd hR, c_0, c_1, c_2, c_3]
    refine ⟨in_nI hR (by omega), i0, ?_⟩
    have hh0 : y_hi mem mem := y_hi.rf mem
    intro m1 f0
    have hC1 : y_C m1 (q_set D 16 (upd (D 16) R a0)) := by rw [f0]; exact hC.read hR (k := 0) (by omega) a0
    have hh1 : y_hi mem m1 := by rw [f0]; exact hh0.set (by omega)
    clear f0
    refine ⟨i1, ?_⟩
    intro m2 f1
    have hC2 : y_C m2 (q_set (q_set D 16 (upd (D 16) R a0)) 17 (upd ((q_set D 16 (upd (D 16) R a0)) 17) R a1)) := by rw [f1]; exact hC1.read hR (k := 1) (by omega) a1
    have hh2 : y_hi mem m2 := by rw [f1]; exact hh1.set (by omega)
    clear f1
    refine ⟨i2, ?_⟩
    intro m3 f2
    have hC3 : y_C m3 (q_set (q_set (q_set D 16 (upd (D 16) R a0)) 17 (upd ((q_set D 16 (upd (D 16) R a0)) 17) R a1)) 18 (upd ((q_set (q_set D 16 (upd (D 16) R a0)) 17 (upd ((q_set D 16 (upd (D 16) R a0)) 17) R a1)) 18) R a2)) := by rw [f2]; exact hC2.read hR (k := 2) (by omega) a2
    have hh3 : y_hi mem m3 := by rw [f2]; exact hh2.set (by omega)
    clear f2
    refine ⟨i3, ?_⟩
    intro m4 f3
    have hC4 : y_C m4 (q_set (q_set (q_set (q_set D 16 (upd (D 16) R a0)) 17 (upd ((q_set D 16 (upd (D 16) R a0)) 17) R a1)) 18 (upd ((q_set (q_set D 16 (upd (D 16) R a0)) 17 (upd ((q_set D 16 (upd (D 16) R a0)) 17) R a1)) 18) R a2)) 19 (upd ((q_set (q_set (q_set D 16 (upd (D 16) R a0)) 17 (upd ((q_set D 16 (upd (D 16) R a0)) 17) R a1)) 18 (upd ((q_set (q_set D 16 (upd (D 16) R a0)) 17 (upd ((q_set D 16 (upd (D 16) R a0)) 17) R a1)) 18) R a2)) 19) R a3)) := by rw [f3]; exact hC3.read hR (k := 3) (by omega) a3
    have hh4 : y_hi mem m4 := by rw [f3]; exact hh3.set (by omega)
    clear f3
    intro m5 f5
    have e11 : m4 0 8 + (1 : Int32) = nI (R + 1) := by
      have : m4 0 8 = nI R := hC4.1.2.2.2.2.1.trans e4
      rw [this, nI_1]
    have hC5 : y_C m5 (y_rd D R a0 a1 a2 a3) := by rw [f5, e11]; exact hC4.field (cf := 8) (df := 19) (by omega) _
    have hh5 : y_hi mem m5 := by rw [f5]; exact hh4.set (by omega)
    clear f5
    rw [show m5 0 8 = nI (R + 1) from hC5.1.2.2.2.2.1]
    refine m_read (hM.kept hh5) e0 hN6 e4 hR c0 c1 c2 (by omega) (fun m7 hM7 hh7 => hQ _ _ _ (hC5.kept hh7) hM7 ?_)
    obtain ⟨l, _, l2, l3⟩ := z_nat c0.1
    obtain ⟨b, _, b2, b3⟩ := z_nat (x := a1) (by omega)
    refine ⟨N, H, x, s, R + 1, f, ⟨e0, e1, e2, e3, rfl, e5⟩, ⟨g1, g2, g3, by omega, g5⟩, v1, v2, v3, v4, v5, fun i hi => ?_⟩
    show ∃ l b : Nat, upd (D 16) R a0 i = nI l ∧ l < N ∧ upd (D 17) R a1 i = nI b ∧ 1 ≤ b ∧ b ≤ 100
    by_cases ci : i = R
    · subst ci
      exact ⟨l, b, by rw [upd_s]; exact l2, by omega, by rw [upd_s]; exact b2, by omega, by omega⟩
    · obtain ⟨l', b', q1, q2, q3, q4⟩ := v6 i (by omega)
      exact ⟨l', b', by rw [upd_n ci]; exact q1, q2, by rw [upd_n ci]; exact q3, q4⟩
  · have hR : R = 12 := by
      have := z_nlt c
      rw [z_nI (by omega), h12] at this
      omega
    unfold wp_X3_read
    refine p_layT n0 hN6 c0 (b_n1 (p_inT 1 100 rfl rfl c1 (b_1 (p_inT 0 1000 rfl rfl c2 (b_1 (p_inT a2.toInt 1000 (by rw [t64]) rfl (by omega) (b_n1 ?_)))))))
    have he : mem 72 19 = (12 : Int32) := by rw [hM.1.2.2.2.2.1, e4, hR]; rfl
    exact ⟨fun z => absurd he z, fun _ => hQ _ _ D hC hM hV⟩

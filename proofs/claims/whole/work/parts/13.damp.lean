/-! ===== damp: class and reference ===== -/
/-- what stands still in a wall at base b while water moves: its size, room, steam, curve and the curves -/
def z_WO (b : Nat) (mem : q_Mem) (N : Nat) (ro st cu co : Nat → Int32) : Prop := mem b 11 = nI N ∧ mem (b + 5) = ro ∧ mem (b + 6) = st ∧ mem (b + 8) = cu ∧ ∀ c k, c < 3 → k < 5 → mem (b + 2 + c) k = co (5 * c + k)
theorem p_has {b i : Nat} {N : Nat} {mem : q_Mem} {Q : Int32 → q_Mem → Prop} (hs : mem b 11 = nI N) (hi : i < 2147483648) (hN : N < 2147483648) (h1 : i < N → Q 1 mem) (h0 : N ≤ i → Q 0 mem) : wp_X1_has b (nI i) mem Q := by
  unfold wp_X1_has
  rw [hs]
  simp only [z_lt, z_le, z_nI hi, z_nI hN, t_0]
  exact ⟨fun h => by omega, fun _ => ⟨fun h => h0 (by omega), fun h => h1 (by omega)⟩⟩
theorem p_hasm1 {b : Nat} {mem : q_Mem} {Q : Int32 → q_Mem → Prop} (h0 : Q 0 mem) : wp_X1_has b (-1 : Int32) mem Q := by
  unfold wp_X1_has
  exact ⟨fun _ => h0, fun h => absurd (by decide) h⟩
theorem p_dampOf {b N i : Nat} (hb : q_WB b) {mem : q_Mem} {ro st cu co wa : Nat → Int32} {Q : Int32 → q_Mem → Prop} (hW : z_WO b mem N ro st cu co) (hw : mem (b + 9) = wa) (hC : z_CR co) (hi : i < 6) (hL : z_LR ro cu wa i) (h : Q (z_dm co ro cu wa i) mem) : wp_X1_dampOf b (nI i) mem Q := by
  obtain ⟨-, h5, -, h8, hco⟩ := hW
  obtain ⟨r, c, w, q, t, d, hr, hc, hw1, h1, h2, h3, h4, hq, hqd, eq, e4, ea, et, hm, hd, ed, g4, glt⟩ := z_dmF hC hL
  have ecl : (nI i).toNatClampNeg = i := nI_clamp (by omega)
  have hin : vp_in (nI i) 6 := in_nI hi (by omega)
  unfold wp_X1_dampOf
  simp only [ecl, h5, h8, hw, al_w5 hb, al_w8 hb, al_w9 hb, hc]
  refine ⟨hin, in_nI h3 (by omega), hin, hin, ?_⟩
  have hr0 : 0 < (ro i).toInt := by rw [hr, z_nI (by omega)]; omega
  have hcc : (nI c).toNatClampNeg = c := nI_clamp (by omega)
  refine p_partDown hr0 ?_
  rw [z_fl_nn (by rw [e4, z_nI (by omega)]; omega), eq]
  simp only [hcc, al_w2 hb h3, hin, true_and, h5, h8, hw, in_nI h3 (show 3 < 2147483648 by decide)]
  have hq4 : nI q < (4 : Int32) ↔ q < 4 := by rw [z_lt, t_4, z_nI (by omega)]; omega
  have eclq : (nI q).toNatClampNeg = q := nI_clamp (by omega)
  refine ⟨fun hlt => ?_, fun hge => ?_⟩
  · have hlt := hq4.mp hlt
    obtain ⟨g1, e, g2, g3, g5, g6⟩ := glt hlt
    have eclq1 : (nI q + (1 : Int32)).toNatClampNeg = q + 1 := by rw [nI_1, nI_clamp (by omega)]
    have inq : vp_in (nI q) 5 := in_nI (by omega) (by omega)
    refine ⟨by rw [nI_1]; exact in_nI (by omega) (by omega), inq, ?_⟩
    rintro x rfl
    simp only [eclq, eclq1, inq, true_and]
    rw [hco c q h3 (by omega), hco c (q + 1) h3 (by omega), et]
    refine p_partDown hr0 ?_
    rw [show 5 * c + (q + 1) = 5 * c + q + 1 by omega, z_fl_nn (by rw [g5, z_nI g6]; omega), ← g1]
    exact h
  · have hq44 : q = 4 := by
      by_cases hl : q < 4
      · exact absurd (hq4.mpr hl) hge
      · omega
    refine ⟨vp_in_iff.mpr (by decide), ?_⟩
    rw [c_4, hco c 4 h3 (by omega), ← g4 hq44]
    exact h
/-- the same of the reference: its numbers -/
def z_MO (mem : q_Mem) (N : Nat) (ro st cu co : Nat → Int32) : Prop := mem 72 0 = nI N ∧ mem 73 = ro ∧ mem 74 = st ∧ mem 76 = cu ∧ mem 81 = co
theorem p_damp {N i : Nat} {mem : q_Mem} {ro st cu co wa : Nat → Int32} {Q : Int32 → q_Mem → Prop} (hM : z_MO mem N ro st cu co) (hw : mem 77 = wa) (hC : z_CR co) (hi : i < 6) (hL : z_LR ro cu wa i) (h : Q (z_dm co ro cu wa i) mem) : wp_X3_damp (nI i) mem Q := by
  obtain ⟨-, h3', -, h6, h81⟩ := hM
  obtain ⟨r, c, w, q, t, d, hr, hc, hw1, h1, h2, h3, h4, hq, hqd, eq, e4, ea, et, hm, hd, ed, g4, glt⟩ := z_dmF hC hL
  have ecl : (nI i).toNatClampNeg = i := nI_clamp (by omega)
  have hin : vp_in (nI i) 6 := in_nI hi (by omega)
  have a77 : q_al 77 = 6 := rfl
  have a73 : q_al 73 = 6 := rfl
  have a76 : q_al 76 = 6 := rfl
  have a81 : q_al 81 = 15 := rfl
  have hr0 : 0 < (ro i).toInt := by rw [hr, z_nI (by omega)]; omega
  unfold wp_X3_damp wp_X3_damp_81
  simp only [ecl, h3', h6, hw, a77, a73, a76, a81, h81, hin, true_and]
  rintro x rfl
  refine ⟨z_ne0 hr0, ?_⟩
  rintro x rfl
  rw [eq]
  rintro x rfl
  rw [ea]
  have eclq : (nI (5 * c + q)).toNatClampNeg = 5 * c + q := nI_clamp (by omega)
  have eclq1 : (nI (5 * c + q) + (1 : Int32)).toNatClampNeg = 5 * c + q + 1 := by rw [nI_1, nI_clamp (by omega)]
  have hq4 : (4 : Int32) ≤ nI q ↔ 4 ≤ q := by rw [z_le, t_4, z_nI (by omega)]; omega
  have inq : vp_in (nI (5 * c + q)) 15 := in_nI (by omega) (by omega)
  simp only [eclq, eclq1, inq, true_and, et]
  refine ⟨fun h4 => ?_, fun hlt => ?_⟩
  · have := hq4.mp h4
    have hq44 : q = 4 := by omega
    rw [hq44, Int32.add_zero, ← g4 hq44]
    exact h
  · have hlt2 : q < 4 := by
      by_cases hl : 4 ≤ q
      · exact absurd (hq4.mpr hl) hlt
      · omega
    obtain ⟨g1, e, g2, g3, g5, g6⟩ := glt hlt2
    refine ⟨by rw [nI_1]; exact in_nI (by omega) (by omega), z_ne0 hr0, ?_⟩
    rw [← g1]
    exact h

/-! clear -/
def z_zero (f : Nat → Int32) : Nat → Nat → Int32
  | 0 => f
  | k + 1 => upd (z_zero f k) k 0
theorem c_empty {mem : q_Mem} {Q : q_Mem → Prop} (h : Q (q_set (q_set mem 1 (upd (mem 1) 11 0)) 14 (z_zero (mem 14) 5))) : wp_X1_empty 1 mem Q := by
  unfold wp_X1_empty
  rintro m rfl
  unfold wp_X1_empty_7
  refine w_lp1 5 (fun _ => True) nI (fun k => q_set (q_set mem 1 (upd (mem 1) 11 0)) 14 (z_zero (mem 14) k)) (body := fun K y m => wp_X1_empty_7_b K 1 y m Q) trivial nI_0.symm (q_set_self rfl).symm (fun k hk _ K hK => ?_)
  unfold wp_X1_empty_7_b
  have h5 : (5 : Int32) ≤ nI k ↔ 5 ≤ k := by rw [z_le, t_5, z_nI (by omega)]; omega
  rw [h5]
  refine ⟨fun c => by rw [show k = 5 by omega]; exact h, fun c => ⟨by rw [show q_al (1 + 13) = 5 from rfl]; exact in_nI (by omega) (by omega), ?_⟩⟩
  rintro m rfl x rfl
  rw [nI_1, nI_clamp (by omega)]
  have hK2 := hK (by omega) trivial
  have e : q_set (q_set (q_set mem 1 (upd (mem 1) 11 0)) 14 (z_zero (mem 14) k)) (1 + 13) (upd (q_set (q_set mem 1 (upd (mem 1) 11 0)) 14 (z_zero (mem 14) k) (1 + 13)) k 0) = q_set (q_set mem 1 (upd (mem 1) 11 0)) 14 (z_zero (mem 14) (k + 1)) := by
    rw [show (1 : Nat) + 13 = 14 from rfl, q_set_s, q_set_set]
    rfl
  rw [e]
  exact hK2
theorem m_clear17 {x1 : Int32} {mem : q_Mem} {Q : Int32 → q_Mem → Prop} (h : Q x1 (q_set mem 82 (z_zero (mem 82) 5))) : wp_X3_clear_17 x1 (0 : Int32) mem Q := by
  unfold wp_X3_clear_17
  refine w_lp1 5 (fun _ => True) nI (fun k => q_set mem 82 (z_zero (mem 82) k)) (body := fun K y m => wp_X3_clear_17_b K x1 y m Q) trivial nI_0.symm (q_set_self rfl).symm (fun k hk _ K hK => ?_)
  unfold wp_X3_clear_17_b wp_X3_clear_35
  have h5 : (5 : Int32) ≤ nI k ↔ 5 ≤ k := by rw [z_le, t_5, z_nI (by omega)]; omega
  rw [h5]
  refine ⟨fun c => by rw [show k = 5 by omega]; exact h, fun c => ⟨by rw [show q_al 82 = 5 from rfl]; exact in_nI (by omega) (by omega), ?_⟩⟩
  rintro m rfl x rfl
  rw [nI_1, nI_clamp (by omega)]
  have hK2 := hK (by omega) trivial
  have e : q_set (q_set mem 82 (z_zero (mem 82) k)) 82 (upd (q_set mem 82 (z_zero (mem 82) k) 82) k 0) = q_set mem 82 (z_zero (mem 82) (k + 1)) := by
    rw [q_set_s, q_set_set]
    rfl
  rw [e]
  exact hK2
theorem o_clear {mem D : q_Mem} {Q : Int32 → Int32 → q_Mem → Prop} (hC : y_C mem D) (hM : y_M mem D) (hV : y_V D) (hQ : y_K Q) : wp_X2_clear mem (fun r1 m1 => wp_X3_clear m1 (fun r2 m2 => Q r1 r2 m2)) := by
  unfold wp_X2_clear
  intro x hx
  refine c_empty ?_
  intro m1 e1
  have hC0 := ((hC.size 0).sums (z_zero (D 10) 5)).field (cf := 8) (df := 19) (by omega) 0
  have hC1 : y_C m1 (q_set (q_set (q_set D 0 (upd (D 0) 0 0)) 0 (upd (upd (D 0) 0 0) 19 0)) 10 (z_zero (D 10) 5)) := by
    rw [e1, hC.2.2.1]
    rw [q_set_n (show (0 : Nat) ≠ 10 by decide), q_set_s, q_set_comm (show (10 : Nat) ≠ 0 by decide)] at hC0
    exact hC0
  have hh1 : y_hi mem m1 := by rw [e1]; exact (((y_hi.rf _).set (by omega)).set (by omega)).set (by omega)
  clear e1 hC0
  have hM0 := hM.kept hh1
  unfold wp_X3_clear
  intro x2 hx2 m2 e2 m3 e3
  have hM3 : y_M m3 (q_set (q_set D 0 (upd (D 0) 0 0)) 0 (upd (upd (D 0) 0 0) 19 0)) := by
    have h := (hM0.field 0 0).field 19 0
    rw [q_set_s D] at h
    rw [e3, e2]
    exact h
  have hh3 : y_lo m1 m3 := by rw [e3, e2]; exact ((y_lo.rf _).set (by omega)).set (by omega)
  clear e2 e3
  refine m_clear17 ?_
  have hM4 := hM3.cell (k := 10) (by omega) (by omega) (z_zero (D 10) 5)
  rw [show m3 82 = D 10 from hM3.2.2.1, hx2, hM0.1.1, hx, hC.1.1]
  refine hQ _ _ _ (hC1.kept (hh3.set (by omega))) hM4 ?_
  obtain ⟨N, H, x, s, r, f, ⟨e0, e1, e2, e3, e4, e5⟩, ⟨g1, g2, g3, g4, g5⟩, v1, v2, v3, v4, v5, v6⟩ := hV
  exact ⟨0, H, x, s, 0, f, ⟨nI_0.symm, e1, e2, e3, nI_0.symm, e5⟩, ⟨g1, g2, g3, by omega, g5⟩, ⟨by omega, fun i hi => by omega, fun i hi => by omega⟩, fun i hi => by omega, fun i hi => by omega, v4, v5, fun i hi => by omega⟩
/-! corner -/
theorem v_corner {D : q_Mem} {c k : Nat} {v : Int32} (hV : y_V D) (hc : c < 3) (hk : k < 5) (h0 : 0 ≤ v.toInt) (h1 : v.toInt ≤ 1000) (hl : 0 < k → (D 9 (5 * c + k - 1)).toInt ≤ v.toInt) (hu : k < 4 → v.toInt ≤ (D 9 (5 * c + k + 1)).toInt) : y_V (q_set D 9 (upd (D 9) (5 * c + k) v)) := by
  obtain ⟨N, H, x, s, r, f, ⟨e0, e1, e2, e3, e4, e5⟩, ⟨g1, g2, g3, g4, g5⟩, v1, v2, v3, ⟨cn, hn1, hn2⟩, v5, v6⟩ := hV
  obtain ⟨n, _, p0, q0⟩ := z_nat h0
  refine ⟨N, H, x, s, r, f, ⟨e0, e1, e2, e3, e4, e5⟩, ⟨g1, g2, g3, g4, g5⟩, v1, v2, v3, ?_, v5, v6⟩
  show z_CR (upd (D 9) (5 * c + k) v)
  refine ⟨fun j => if j = 5 * c + k then n else cn j, fun j hj => ?_, fun c' j hc' hj => ?_⟩
  · dsimp only
    by_cases z : j = 5 * c + k
    · rw [z, upd_s, if_pos rfl]
      exact ⟨p0, by omega⟩
    · rw [upd_n z, if_neg z]
      exact hn1 j hj
  · dsimp only
    have hb := hn2 c' j hc' hj
    have b1 := hn1 (5 * c' + j) (by omega)
    have b2 := hn1 (5 * c' + j + 1) (by omega)
    by_cases z1 : 5 * c' + j = 5 * c + k
    · rw [if_pos z1, if_neg (by omega)]
      have hcc : c' = c ∧ j = k := by omega
      obtain ⟨rfl, rfl⟩ := hcc
      have := hu hj
      rw [b2.1, z_nI (by omega)] at this
      omega
    · rw [if_neg z1]
      by_cases z2 : 5 * c' + j + 1 = 5 * c + k
      · rw [if_pos z2]
        have := hl (by omega)
        rw [← z2, show 5 * c' + j + 1 - 1 = 5 * c' + j by omega, b1.1, z_nI (by omega)] at this
        omega
      · rw [if_neg z2]
        exact hb
theorem z_CRr {co : Nat → Int32} (h : z_CR co) {k : Nat} (hk : k < 15) : 0 ≤ (co k).toInt ∧ (co k).toInt ≤ 1000 := by
  obtain ⟨cn, h1, -⟩ := h
  obtain ⟨e, g⟩ := h1 k hk
  rw [e, z_nI (by omega)]
  omega
theorem o_corner {a0 a1 a2 : Int32} {mem D : q_Mem} {Q : Int32 → Int32 → q_Mem → Prop} (hC : y_C mem D) (hM : y_M mem D) (hV : y_V D) (hQ : y_K Q) : wp_X2_corner a0 a1 a2 mem (fun r1 m1 => wp_X3_corner a0 a1 a2 m1 (fun r2 m2 => Q r1 r2 m2)) := by
  have hCR : z_CR (D 9) := by
    obtain ⟨N, H, x, s, r, f, -, -, -, -, -, h, -⟩ := hV
    exact h
  unfold wp_X2_corner
  refine p_wi 0 2 rfl rfl (fun c0 => b_0 ?_) (fun c0 => b_1 ?_)
  · unfold wp_X3_corner
    exact p_inF 0 2 rfl rfl c0 (b_0 (hQ _ _ D hC hM hV))
  refine p_wi 0 4 rfl rfl (fun c1 => b_n0 ?_) (fun c1 => b_n1 ?_)
  · unfold wp_X3_corner
    exact p_inT 0 2 rfl rfl c0 (b_1 (p_inF 0 4 rfl rfl c1 (b_n0 (hQ _ _ D hC hM hV))))
  obtain ⟨c, hc1, hc2, hc3⟩ := z_nat c0.1
  obtain ⟨k, hk1, hk2, hk3⟩ := z_nat c1.1
  have hc : c < 3 := by omega
  have hk : k < 5 := by omega
  have al : q_al (3 + c) = 5 := al_w2 (b := 1) (Or.inl rfl) hc
  have hclc : a0.toNatClampNeg = c := by rw [hc2, nI_clamp (by omega)]
  have hclk : a1.toNatClampNeg = k := by rw [hk2, nI_clamp (by omega)]
  have h04 : ¬ a1 = (4 : Int32) ↔ k < 4 := by rw [z_eq, t_4, hk3]; omega
  have h04' : a1 = (4 : Int32) ↔ k = 4 := by rw [z_eq, t_4, hk3]; omega
  have h00 : ¬ a1 = (0 : Int32) ↔ 0 < k := by rw [z_eq, t_0, hk3]; omega
  have h00' : a1 = (0 : Int32) ↔ k = 0 := by rw [z_eq, t_0, hk3]; omega
  -- the model's half, once the bounds are known
  have model : ∀ (m1 D1 : q_Mem) (lo hi : Int), y_M m1 D1 → D1 9 = D 9 ∨ True → (∀ j, j < 15 → j ≠ 5 * c + k → D1 9 j = D 9 j) → (lo = if k = 0 then 0 else (D 9 (5 * c + k - 1)).toInt) → (hi = if k = 4 then 1000 else (D 9 (5 * c + k + 1)).toInt) → ∀ (P : Int32 → q_Mem → Prop), ((lo ≤ a2.toInt ∧ a2.toInt ≤ hi) → P (D1 9 (5 * c + k)) (q_set m1 81 (upd (m1 81) (5 * c + k) a2))) → (¬ (lo ≤ a2.toInt ∧ a2.toInt ≤ hi) → P (-102) m1) → wp_X3_corner a0 a1 a2 m1 P := by
    intro m1 D1 lo hi hM1 _ hD1 hlo hhi P hP1 hP0
    have al81 : q_al 81 = 15 := rfl
    have m81 : m1 81 = D1 9 := hM1.2.2.2.1
    have e4 : (5 : Int32) * a0 + a1 = nI (5 * c + k) := by rw [hc2, hk2, z_lit 5, pk_mul, nI_add]
    have fin : ∀ (l h : Int64), l.toInt = lo → h.toInt = hi → wp_X3_corner_75 a0 a1 a2 (nI (5 * c + k)) h l a2.toInt64 m1 P := by
      intro l h el eh
      unfold wp_X3_corner_75
      have hin : vp_in (nI (5 * c + k)) (q_al 81) := by rw [al81]; exact in_nI (by omega) (by omega)
      by_cases cc : lo ≤ a2.toInt ∧ a2.toInt ≤ hi
      · refine p_inT lo hi el eh cc (b_n1 ⟨hin, ?_⟩)
        rw [nI_clamp (by omega)]
        rintro x rfl
        refine ⟨hin, ?_⟩
        rintro m rfl
        have := hP1 cc
        rw [← m81] at this
        exact this
      · exact p_inF lo hi el eh cc (b_n0 (hP0 cc))
    have fin2 : ∀ l : Int64, l.toInt = lo → wp_X3_corner_54 a0 a1 a2 (nI (5 * c + k)) l a2.toInt64 m1 P := by
      intro l el
      unfold wp_X3_corner_54
      refine ⟨fun z => ?_, fun z => ?_⟩
      · have z := h04.mp z
        rw [nI_1, nI_clamp (by omega), al81, m81]
        refine ⟨in_nI (by omega) (by omega), fin l _ el ?_⟩
        rw [t64, hhi, if_neg (by omega), hD1 (5 * c + k + 1) (by omega) (by omega)]
      · have z := h04'.mp z
        exact fin l _ el (by rw [hhi, if_pos z]; rfl)
    unfold wp_X3_corner
    refine p_inT 0 2 rfl rfl c0 (b_1 (p_inT 0 4 rfl rfl c1 (b_n1 ?_)))
    rw [e4]
    rintro x rfl
    refine ⟨fun z => ?_, fun z => ?_⟩
    · have z := h00.mp z
      rw [z_pred (by omega), nI_clamp (by omega), al81, m81]
      refine ⟨in_nI (by omega) (by omega), fin2 _ ?_⟩
      rw [t64, hlo, if_neg (by omega), hD1 (5 * c + k - 1) (by omega) (by omega)]
    · have z := h00'.mp z
      exact fin2 _ (by rw [hlo, if_pos z]; rfl)
  -- the class
  have row : ∀ j, j < 5 → mem (3 + c) j = D 9 (5 * c + j) := fun j hj => hC.2.2.2.1 c j hc hj
  have cls : ∀ lo hi : Int32, (lo.toInt = if k = 0 then 0 else (D 9 (5 * c + k - 1)).toInt) → (hi.toInt = if k = 4 then 1000 else (D 9 (5 * c + k + 1)).toInt) → wp_X2_corner_65 a0 a1 a2 (3 + c) lo hi mem (fun r1 m1 => wp_X3_corner a0 a1 a2 m1 (fun r2 m2 => Q r1 r2 m2)) := by
    intro lo hi hlo hhi
    unfold wp_X2_corner_65
    rw [al]
    have hin : vp_in a1 5 := in_int c1.1 (by omega)
    refine p_wi lo.toInt hi.toInt rfl rfl (fun cc => b_n0 ?_) (fun cc => b_n1 ⟨hin, ?_⟩)
    · exact model mem D _ _ hM (Or.inr trivial) (fun _ _ _ => rfl) hlo hhi _ (fun z => absurd z cc) (fun _ => hQ _ _ D hC hM hV)
    · rw [hclk]
      rintro x rfl
      refine ⟨hin, ?_⟩
      intro m1 e1
      have hC1 : y_C m1 (q_set D 9 (upd (D 9) (5 * c + k) a2)) := by rw [e1]; exact hC.corner hc hk a2
      have hh1 : y_hi mem m1 := by rw [e1]; exact (y_hi.rf _).set (by omega)
      clear e1
      have hM0 := hM.kept hh1
      refine model m1 D _ _ hM0 (Or.inr trivial) (fun _ _ _ => rfl) hlo hhi _ (fun z => ?_) (fun z => absurd cc z)
      rw [row k hk]
      have hM1 := hM0.cell (k := 9) (by omega) (by omega) (upd (D 9) (5 * c + k) a2)
      rw [show m1 81 = D 9 from hM0.2.2.2.1]
      refine hQ _ _ _ (hC1.kept ((y_lo.rf _).set (by omega))) hM1 (v_corner hV hc hk ?_ ?_ ?_ ?_)
      · by_cases q : k = 0
        · rw [hlo, if_pos q] at cc; exact cc.1
        · have := z_CRr hCR (k := 5 * c + k - 1) (by omega)
          rw [hlo, if_neg q] at cc
          omega
      · by_cases q : k = 4
        · rw [hhi, if_pos q] at cc; exact cc.2
        · have := z_CRr hCR (k := 5 * c + k + 1) (by omega)
          rw [hhi, if_neg q] at cc
          omega
      · intro q
        rw [hlo, if_neg (by omega)] at cc
        exact cc.1
      · intro q
        rw [hhi, if_neg (by omega)] at cc
        exact cc.2
  have cls2 : ∀ lo : Int32, (lo.toInt = if k = 0 then 0 else (D 9 (5 * c + k - 1)).toInt) → wp_X2_corner_46 a0 a1 a2 (3 + c) lo mem (fun r1 m1 => wp_X3_corner a0 a1 a2 m1 (fun r2 m2 => Q r1 r2 m2)) := by
    intro lo hlo
    unfold wp_X2_corner_46
    refine ⟨fun z => ?_, fun z => ?_⟩
    · have z := h04.mp z
      have e : a1 + (1 : Int32) = nI (k + 1) := by rw [hk2, nI_1]
      rw [e, nI_clamp (by omega), al, row (k + 1) (by omega)]
      exact ⟨in_nI (by omega) (by omega), cls lo _ hlo (by rw [if_neg (by omega)]; rfl)⟩
    · have z := h04'.mp z
      exact cls lo _ hlo (by rw [if_pos z]; rfl)
  refine ⟨in_int c0.1 (by omega), fun z => ?_, fun z => ?_⟩
  · have z := h00.mp z
    have e : a1 - (1 : Int32) = nI (k - 1) := by rw [hk2, z_pred (by omega)]
    rw [e, nI_clamp (by omega), hclc, al, row (k - 1) (by omega)]
    exact ⟨in_nI (by omega) (by omega), cls2 _ (by rw [if_neg (by omega), show 5 * c + (k - 1) = 5 * c + k - 1 by omega])⟩
  · have z := h00'.mp z
    rw [hclc]
    exact cls2 _ (by rw [if_pos z]; rfl)

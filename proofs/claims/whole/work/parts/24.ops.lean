/-! ===== the calls, class and reference side by side ===== -/
theorem b_0 {A B : Prop} (h : A) : ((0 : Int32) = 0 → A) ∧ (¬ (0 : Int32) = 0 → B) := ⟨fun _ => h, fun z => absurd rfl z⟩
theorem b_1 {A B : Prop} (h : B) : ((1 : Int32) = 0 → A) ∧ (¬ (1 : Int32) = 0 → B) := ⟨fun z => absurd z z_n10, fun _ => h⟩
theorem b_n0 {A B : Prop} (h : B) : (¬ (0 : Int32) = 0 → A) ∧ ((0 : Int32) = 0 → B) := ⟨fun z => absurd rfl z, fun _ => h⟩
theorem b_n1 {A B : Prop} (h : A) : (¬ (1 : Int32) = 0 → A) ∧ ((1 : Int32) = 0 → B) := ⟨fun _ => h, fun z => absurd z z_n10⟩
theorem p_wi (l h : Int) {v lo hi : Int32} {mem : q_Mem} {Q : Int32 → q_Mem → Prop} (el : lo.toInt = l) (eh : hi.toInt = h) (h0 : ¬ (l ≤ v.toInt ∧ v.toInt ≤ h) → Q 0 mem) (h1 : l ≤ v.toInt ∧ v.toInt ≤ h → Q 1 mem) : wp_X2_within v lo hi mem Q := p_within (by rw [el, eh]; exact h0) (by rw [el, eh]; exact h1)
theorem p_inT (l h : Int) {x : Int32} {lo hi : Int64} {mem : q_Mem} {Q : Int32 → q_Mem → Prop} (el : lo.toInt = l) (eh : hi.toInt = h) (c : l ≤ x.toInt ∧ x.toInt ≤ h) (hQ : Q 1 mem) : wp_X3_in x.toInt64 lo hi mem Q := p_in (fun z => absurd (by rw [el, eh, t64]; exact c) z) (fun _ => hQ)
theorem p_inF (l h : Int) {x : Int32} {lo hi : Int64} {mem : q_Mem} {Q : Int32 → q_Mem → Prop} (el : lo.toInt = l) (eh : hi.toInt = h) (c : ¬ (l ≤ x.toInt ∧ x.toInt ≤ h)) (hQ : Q 0 mem) : wp_X3_in x.toInt64 lo hi mem Q := p_in (fun _ => hQ) (fun z => absurd (by rw [el, eh, t64] at z; exact z) c)
theorem p_isD {v : Int32} {mem : q_Mem} {Q : Int32 → q_Mem → Prop} (h0 : ¬ (0 ≤ v.toInt ∧ v.toInt ≤ 1000) → Q 0 mem) (h1 : 0 ≤ v.toInt ∧ v.toInt ≤ 1000 → Q 1 mem) : wp_X2_isDamp v mem Q := by
  unfold wp_X2_isDamp
  exact p_wi 0 1000 rfl rfl (fun c => ⟨by decide, h0 c⟩) (fun c => ⟨by decide, h1 c⟩)
theorem p_isW {v : Int32} {mem : q_Mem} {Q : Int32 → q_Mem → Prop} (h0 : ¬ (-30 ≤ v.toInt ∧ v.toInt ≤ 50) → Q 0 mem) (h1 : -30 ≤ v.toInt ∧ v.toInt ≤ 50 → Q 1 mem) : wp_X2_isWarmth v mem Q := by
  unfold wp_X2_isWarmth
  exact p_wi (-30) 50 rfl rfl (fun c => ⟨by decide, h0 c⟩) (fun c => ⟨by decide, h1 c⟩)
theorem p_hasI {b N : Nat} {a : Int32} {mem : q_Mem} {Q : Int32 → q_Mem → Prop} (hn : mem b 11 = nI N) (hN : N ≤ 6) (h0 : ¬ (0 ≤ a.toInt ∧ a.toInt < N) → Q 0 mem) (h1 : 0 ≤ a.toInt ∧ a.toInt < N → Q 1 mem) : wp_X1_has b a mem Q := by
  unfold wp_X1_has
  rw [hn]
  simp only [z_lt, z_le, z_nI (show N < 2147483648 by omega), t_0]
  exact ⟨fun h => h0 (by omega), fun _ => ⟨fun h => h0 (by omega), fun h => h1 (by omega)⟩⟩
theorem z_nm1 {N : Nat} (hN : N ≤ 24) : (nI N - (1 : Int32)).toInt = (N : Int) - 1 := by
  rw [z_sub (by rw [z_nI (by omega), t_1]; omega) (by rw [z_nI (by omega), t_1]; omega), z_nI (by omega), t_1]
theorem p_layT {N : Nat} {a : Int32} {mem : q_Mem} {Q : Int32 → q_Mem → Prop} (hn : mem 72 0 = nI N) (hN : N ≤ 6) (c : 0 ≤ a.toInt ∧ a.toInt < N) (h : Q 1 mem) : wp_X3_isLayer a mem Q := by
  unfold wp_X3_isLayer
  rw [hn]
  exact p_inT 0 ((N : Int) - 1) rfl (by rw [t64, z_nm1 (by omega)]) (by omega) ⟨by decide, h⟩
theorem p_layF {N : Nat} {a : Int32} {mem : q_Mem} {Q : Int32 → q_Mem → Prop} (hn : mem 72 0 = nI N) (hN : N ≤ 6) (c : ¬ (0 ≤ a.toInt ∧ a.toInt < N)) (h : Q 0 mem) : wp_X3_isLayer a mem Q := by
  unfold wp_X3_isLayer
  rw [hn]
  exact p_inF 0 ((N : Int) - 1) rfl (by rw [t64, z_nm1 (by omega)]) (by omega) ⟨by decide, h⟩
/-- what the law asks behind each pair of calls -/
def y_K {α : Type} (Q : α → α → q_Mem → Prop) : Prop := ∀ (r : α) (m D : q_Mem), y_C m D → y_M m D → y_V D → Q r r m
theorem o_share {a : Int32} {mem D : q_Mem} {Q : Int32 → Int32 → q_Mem → Prop} (hC : y_C mem D) (hM : y_M mem D) (hV : y_V D) (hQ : y_K Q) : wp_X2_share a mem (fun r1 m1 => wp_X3_share a m1 (fun r2 m2 => Q r1 r2 m2)) := by
  unfold wp_X2_share wp_X3_share
  refine p_wi 0 10 rfl rfl (fun c => b_n0 ?_) (fun c => b_n1 ?_)
  · exact p_inF 0 10 rfl rfl c (b_n0 (hQ _ _ D hC hM hV))
  · rintro x rfl m rfl
    refine p_inT 0 10 rfl rfl c (b_n1 ?_)
    rintro x rfl m rfl
    rw [q_set_n (show (72 : Nat) ≠ 0 by decide), hM.1.2.2.2.1, hC.1.2.2.2.1]
    have hC1 := hC.field (cf := 6) (df := 13) (by omega) a
    have hM1 : y_M (q_set (q_set mem 0 (upd (mem 0) 6 a)) 72 (upd (mem 72) 13 a)) (q_set D 0 (upd (D 0) 13 a)) := by
      have := (hM.scratch (c := 0) (by omega) (upd (mem 0) 6 a)).field 13 a
      rw [q_set_n (show (72 : Nat) ≠ 0 by decide)] at this
      exact this
    refine hQ _ _ _ (hC1.kept ((y_lo.rf _).set (by omega))) hM1 ?_
    obtain ⟨N, H, x, s, r, f, ⟨e0, e1, e2, e3, e4, e5⟩, ⟨g1, g2, g3, g4, g5⟩, v1, v2, v3, v4, v5, v6⟩ := hV
    obtain ⟨n, hn1, hn2, hn3⟩ := z_nat c.1
    exact ⟨N, H, x, n, r, f, ⟨e0, e1, e2, hn2, e4, e5⟩, ⟨g1, g2, by omega, g4, g5⟩, v1, v2, v3, v4, v5, v6⟩
theorem o_fair {mem D : q_Mem} {Q : Int32 → Int32 → q_Mem → Prop} (hC : y_C mem D) (hM : y_M mem D) (hV : y_V D) (hQ : y_K Q) : wp_X2_fair mem (fun r1 m1 => wp_X3_fair m1 (fun r2 m2 => Q r1 r2 m2)) := by
  unfold wp_X2_fair wp_X3_fair
  rintro x rfl m rfl m rfl x rfl m rfl m rfl
  have hC1 := (hC.field (cf := 4) (df := 11) (by omega) 0).field (cf := 5) (df := 12) (by omega) 0
  have hM1 := (((hM.scratch (c := 0) (by omega) (upd (mem 0) 4 0)).scratch (c := 0) (by omega) (upd (q_set mem 0 (upd (mem 0) 4 0) 0) 5 0)).field 11 0).field 12 0
  have e : q_set (q_set mem 0 (upd (mem 0) 4 0)) 0 (upd (q_set mem 0 (upd (mem 0) 4 0) 0) 5 0) 72 11 = mem 0 4 := by
    rw [q_set_n (by decide), q_set_n (by decide), hM.1.2.1, hC.1.2.1]
  rw [e]
  refine hQ _ _ _ (hC1.kept (((y_lo.rf _).set (by omega)).set (by omega))) hM1 ?_
  obtain ⟨N, H, x, s, r, f, ⟨e0, e1, e2, e3, e4, e5⟩, ⟨g1, g2, g3, g4, g5⟩, v1, v2, v3, v4, v5, v6⟩ := hV
  exact ⟨N, 0, 0, s, r, f, ⟨e0, nI_0.symm, nI_0.symm, e3, e4, e5⟩, ⟨by omega, by omega, g3, g4, g5⟩, v1, v2, v3, v4, fun i hi => by omega, v6⟩
theorem o_forget {mem D : q_Mem} {Q : Int32 → Int32 → q_Mem → Prop} (hC : y_C mem D) (hM : y_M mem D) (hV : y_V D) (hQ : y_K Q) : wp_X2_forget mem (fun r1 m1 => wp_X3_forget m1 (fun r2 m2 => Q r1 r2 m2)) := by
  unfold wp_X2_forget wp_X3_forget
  rintro x rfl m rfl x rfl m rfl
  have hC1 := hC.field (cf := 8) (df := 19) (by omega) 0
  have hM1 := (hM.scratch (c := 0) (by omega) (upd (mem 0) 8 0)).field 19 0
  have e : q_set mem 0 (upd (mem 0) 8 0) 72 19 = mem 0 8 := by
    rw [q_set_n (by decide), hM.1.2.2.2.2.1, hC.1.2.2.2.2.1]
  rw [e]
  refine hQ _ _ _ (hC1.kept ((y_lo.rf _).set (by omega))) hM1 ?_
  obtain ⟨N, H, x, s, r, f, ⟨e0, e1, e2, e3, e4, e5⟩, ⟨g1, g2, g3, g4, g5⟩, v1, v2, v3, v4, v5, v6⟩ := hV
  exact ⟨N, H, x, s, 0, f, ⟨e0, e1, e2, e3, nI_0.symm, e5⟩, ⟨g1, g2, g3, by omega, g5⟩, v1, v2, v3, v4, v5, fun i hi => by omega⟩
theorem o_sum {a : Int32} {mem D : q_Mem} {Q : Int32 → Int32 → q_Mem → Prop} (hC : y_C mem D) (hM : y_M mem D) (hV : y_V D) (hQ : y_K Q) : wp_X2_sum a mem (fun r1 m1 => wp_X3_sum a m1 (fun r2 m2 => Q r1 r2 m2)) := by
  unfold wp_X2_sum wp_X3_sum
  refine p_wi 0 4 rfl rfl (fun c => b_0 ?_) (fun c => b_1 ⟨in_int c.1 (by rw [show q_al 14 = 5 from rfl]; omega), ?_⟩)
  · exact p_inF 0 4 rfl rfl c (b_0 (hQ _ _ D hC hM hV))
  · refine p_inT 0 4 rfl rfl c (b_1 ⟨in_int c.1 (by rw [show q_al 82 = 5 from rfl]; omega), ?_⟩)
    rw [hM.2.2.1, hC.2.2.1]
    exact hQ _ _ D hC hM hV
theorem o_water {a v : Int32} {mem D : q_Mem} {Q : Int32 → Int32 → q_Mem → Prop} (hC : y_C mem D) (hM : y_M mem D) (hV : y_V D) (hQ : y_K Q) : wp_X2_water a v mem (fun r1 m1 => wp_X3_water a v m1 (fun r2 m2 => Q r1 r2 m2)) := by
  obtain ⟨N, H, x, s, r, f, ⟨e0, e1, e2, e3, e4, e5⟩, ⟨g1, g2, g3, g4, g5⟩, v1, v2, v3, v4, v5, v6⟩ := id hV
  obtain ⟨hN, hL, hS⟩ := id v1
  unfold wp_X2_water wp_X3_water
  refine p_hasI (hC.1.1.trans e0) hN (fun c => b_n0 (p_layF (hM.1.1.trans e0) hN c (b_n0 (hQ _ _ D hC hM hV)))) (fun c => b_n1 ⟨in_int c.1 (by rw [show q_al 6 = 6 from rfl]; omega), ?_⟩)
  obtain ⟨i, hi1, hi2, hi3⟩ := z_nat c.1
  have hcl : a.toNatClampNeg = i := by rw [hi2, nI_clamp (by omega)]
  have c6 : mem 6 = D 1 := hC.2.1 0 (by omega)
  have c10 : mem 10 = D 5 := hC.2.1 4 (by omega)
  have m73 : mem 73 = D 1 := hM.2.1 0 (by omega)
  have m77 : mem 77 = D 5 := hM.2.1 4 (by omega)
  have al10 : q_al 10 = 6 := rfl
  have al14 : vp_in (4 : Int32) (q_al 14) := vp_in_iff.mpr (by decide)
  have al82 : vp_in (4 : Int32) (q_al 82) := vp_in_iff.mpr (by decide)
  have hin : vp_in a 6 := in_int c.1 (by omega)
  rw [hcl, c6]
  refine p_wi 0 ((D 1 i).toInt) rfl rfl (fun c2 => b_n0 ?_) (fun c2 => b_n1 ?_)
  · refine p_layT (hM.1.1.trans e0) hN c (b_n1 ⟨hin, ?_⟩)
    rw [m73]
    exact p_inF 0 ((D 1 i).toInt) rfl (by rw [t64]) c2 (b_n0 (hQ _ _ D hC hM hV))
  · rw [al10, c10]
    refine ⟨hin, ?_⟩
    rintro x rfl
    refine ⟨hin, ?_⟩
    rintro m rfl
    refine ⟨al14, al14, ?_⟩
    rintro m rfl
    rw [q_set_n (show (14 : Nat) ≠ 10 by decide), c_4, hC.2.2.1]
    have hh : y_hi mem (q_set (q_set mem 10 (upd (D 5) i v)) 14 (upd (D 10) 4 (D 10 4 + (v - D 5 i)))) := ((y_hi.rf _).set (by omega)).set (by omega)
    have hC1 := (hC.arr (k := 4) (by omega) (upd (D 5) i v)).sums (upd (D 10) 4 (D 10 4 + (v - D 5 i)))
    have hM0 := hM.kept hh
    have n0 := hM0.1.1.trans e0
    generalize q_set (q_set mem 10 (upd (D 5) i v)) 14 (upd (D 10) 4 (D 10 4 + (v - D 5 i))) = m1 at *
    refine p_layT n0 hN c (b_n1 ⟨hin, ?_⟩)
    rw [show m1 73 = D 1 from hM0.2.1 0 (by omega)]
    refine p_inT 0 ((D 1 i).toInt) rfl (by rw [t64]) c2 (b_n1 ?_)
    rw [show m1 77 = D 5 from hM0.2.1 4 (by omega)]
    refine ⟨hin, ?_⟩
    rintro x rfl
    refine ⟨hin, ?_⟩
    rintro m rfl
    refine ⟨al82, al82, ?_⟩
    rintro m rfl
    rw [q_set_n (show (82 : Nat) ≠ 77 by decide), hM0.2.2.1]
    have hM1 := (hM0.cell (k := 5) (by omega) (by omega) (upd (D 5) i v)).cell (k := 10) (by omega) (by omega) (upd (D 10) 4 (D 10 4 + (v - D 5 i)))
    refine hQ _ _ _ (hC1.kept (((y_lo.rf _).set (by omega)).set (by omega))) hM1 ?_
    refine ⟨N, H, _, s, r, f, ⟨e0, e1, e2, e3, e4, e5⟩, ⟨g1, g2, g3, g4, g5⟩, ⟨hN, fun j hj => ?_, hS⟩, v2, v3, v4, v5, v6⟩
    show z_LR (D 1) (D 4) (upd (D 5) i v) j
    by_cases hji : j = i
    · refine z_LRmk (hL j hj) ?_ ?_
      · rw [hji, upd_s]; exact c2.1
      · rw [hji, upd_s]; exact c2.2
    · refine z_LRmk (hL j hj) ?_ ?_
      · rw [upd_n hji]; exact (z_LRi (hL j hj)).2.2.1
      · rw [upd_n hji]; exact (z_LRi (hL j hj)).2.2.2

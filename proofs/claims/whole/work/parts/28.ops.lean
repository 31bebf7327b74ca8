/-! ===== about, count ===== -/
theorem b_sk {p A B : Prop} (n : ¬ p) (h : B) : (p → A) ∧ (¬ p → B) := ⟨fun z => absurd z n, fun _ => h⟩
theorem b_ht {p A B : Prop} (y : p) (h : A) : (p → A) ∧ (¬ p → B) := ⟨fun _ => h, fun z => absurd y z⟩
def z_tl (D : q_Mem) (i : Nat) : Nat → Int32
  | 0 => D 1 i
  | 1 => D 2 i
  | 2 => D 3 i
  | 3 => D 4 i
  | 4 => D 5 i
  | 5 => z_dm (D 9) (D 1) (D 4) (D 5) i
  | 6 => D 6 i
  | 7 => D 7 i
  | _ => D 8 i
theorem y_C.WO {mem D : q_Mem} {N : Nat} (h : y_C mem D) (e : D 0 0 = nI N) : z_WO 1 mem N (D 1) (D 2) (D 4) (D 9) := ⟨h.1.1.trans e, h.2.1 0 (by omega), h.2.1 1 (by omega), h.2.1 3 (by omega), fun c k hc hk => h.2.2.2.1 c k hc hk⟩
theorem y_M.MO {mem D : q_Mem} {N : Nat} (h : y_M mem D) (e : D 0 0 = nI N) : z_MO mem N (D 1) (D 2) (D 4) (D 9) := ⟨h.1.1.trans e, h.2.1 0 (by omega), h.2.1 1 (by omega), h.2.1 3 (by omega), h.2.2.2.1⟩
theorem q_WB1 : q_WB 1 := Or.inl rfl

theorem p_tellOf {mem D : q_Mem} {N i w : Nat} {Q : Int32 → q_Mem → Prop} (hC : y_C mem D) (e : D 0 0 = nI N) (hR : z_RG N (D 1) (D 2) (D 4) (D 5)) (hc : z_CR (D 9)) (hi : i < N) (hw : w < 9) (h : Q (z_tl D i w) mem) : wp_X1_tellOf 1 (nI i) (nI w) mem Q := by
  obtain ⟨hN, hL, hS⟩ := id hR
  have hin : vp_in (nI i) 6 := in_nI (by omega) (by omega)
  have hcl : (nI i).toNatClampNeg = i := nI_clamp (by omega)
  unfold wp_X1_tellOf
  rw [hcl, al_w5 q_WB1, al_w6 q_WB1, al_w7 q_WB1, al_w8 q_WB1, al_w9 q_WB1, al_w10 q_WB1, al_w11 q_WB1, al_w12 q_WB1]
  have h9 : w = 0 ∨ w = 1 ∨ w = 2 ∨ w = 3 ∨ w = 4 ∨ w = 5 ∨ w = 6 ∨ w = 7 ∨ w = 8 := by omega
  rcases h9 with rfl | rfl | rfl | rfl | rfl | rfl | rfl | rfl | rfl
  · refine b_ht rfl ⟨hin, ?_⟩
    rw [show mem (1 + 5) = D 1 from hC.2.1 0 (by omega)]; exact h
  · refine b_sk (by decide) (b_ht rfl ⟨hin, ?_⟩)
    rw [show mem (1 + 6) = D 2 from hC.2.1 1 (by omega)]; exact h
  · refine b_sk (by decide) (b_sk (by decide) (b_ht rfl ⟨hin, ?_⟩))
    rw [show mem (1 + 7) = D 3 from hC.2.1 2 (by omega)]; exact h
  · refine b_sk (by decide) (b_sk (by decide) (b_sk (by decide) (b_ht rfl ⟨hin, ?_⟩)))
    rw [show mem (1 + 8) = D 4 from hC.2.1 3 (by omega)]; exact h
  · refine b_sk (by decide) (b_sk (by decide) (b_sk (by decide) (b_sk (by decide) (b_ht rfl ⟨hin, ?_⟩))))
    rw [show mem (1 + 9) = D 5 from hC.2.1 4 (by omega)]; exact h
  · refine b_sk (by decide) (b_sk (by decide) (b_sk (by decide) (b_sk (by decide) (b_sk (by decide) (b_ht rfl ?_)))))
    exact p_dampOf q_WB1 (hC.WO e) (hC.2.1 4 (by omega)) hc (by omega) (hL i hi) h
  · refine b_sk (by decide) (b_sk (by decide) (b_sk (by decide) (b_sk (by decide) (b_sk (by decide) (b_sk (by decide) (b_ht rfl ⟨hin, ?_⟩))))))
    rw [show mem (1 + 10) = D 6 from hC.2.1 5 (by omega)]; exact h
  · refine b_sk (by decide) (b_sk (by decide) (b_sk (by decide) (b_sk (by decide) (b_sk (by decide) (b_sk (by decide) (b_sk (by decide) (b_ht rfl ⟨hin, ?_⟩)))))))
    rw [show mem (1 + 11) = D 7 from hC.2.1 6 (by omega)]; exact h
  · refine b_sk (by decide) (b_sk (by decide) (b_sk (by decide) (b_sk (by decide) (b_sk (by decide) (b_sk (by decide) (b_sk (by decide) (b_sk (by decide) ⟨hin, ?_⟩)))))))
    rw [show mem (1 + 12) = D 8 from hC.2.1 7 (by omega)]; exact h

theorem p_aboutOf {mem D : q_Mem} {N i w : Nat} {Q : Int32 → q_Mem → Prop} (hC : y_M mem D) (e : D 0 0 = nI N) (hR : z_RG N (D 1) (D 2) (D 4) (D 5)) (hc : z_CR (D 9)) (hi : i < N) (hw : w < 9) (h : Q (z_tl D i w) mem) : wp_X3_aboutOf (nI i) (nI w) mem Q := by
  obtain ⟨hN, hL, hS⟩ := id hR
  have hin : vp_in (nI i) 6 := in_nI (by omega) (by omega)
  have hcl : (nI i).toNatClampNeg = i := nI_clamp (by omega)
  unfold wp_X3_aboutOf
  rw [hcl, show q_al 73 = 6 from rfl, show q_al 74 = 6 from rfl, show q_al 75 = 6 from rfl, show q_al 76 = 6 from rfl, show q_al 77 = 6 from rfl, show q_al 78 = 6 from rfl, show q_al 79 = 6 from rfl, show q_al 80 = 6 from rfl]
  have h9 : w = 0 ∨ w = 1 ∨ w = 2 ∨ w = 3 ∨ w = 4 ∨ w = 5 ∨ w = 6 ∨ w = 7 ∨ w = 8 := by omega
  rcases h9 with rfl | rfl | rfl | rfl | rfl | rfl | rfl | rfl | rfl
  · refine b_ht rfl ⟨hin, ?_⟩
    rw [show mem (73) = D 1 from hC.2.1 0 (by omega)]; exact h
  · refine b_sk (by decide) (b_ht rfl ⟨hin, ?_⟩)
    rw [show mem (74) = D 2 from hC.2.1 1 (by omega)]; exact h
  · refine b_sk (by decide) (b_sk (by decide) (b_ht rfl ⟨hin, ?_⟩))
    rw [show mem (75) = D 3 from hC.2.1 2 (by omega)]; exact h
  · refine b_sk (by decide) (b_sk (by decide) (b_sk (by decide) (b_ht rfl ⟨hin, ?_⟩)))
    rw [show mem (76) = D 4 from hC.2.1 3 (by omega)]; exact h
  · refine b_sk (by decide) (b_sk (by decide) (b_sk (by decide) (b_sk (by decide) (b_ht rfl ⟨hin, ?_⟩))))
    rw [show mem (77) = D 5 from hC.2.1 4 (by omega)]; exact h
  · refine b_sk (by decide) (b_sk (by decide) (b_sk (by decide) (b_sk (by decide) (b_sk (by decide) (b_ht rfl ?_)))))
    exact p_damp (hC.MO e) (hC.2.1 4 (by omega)) hc (by omega) (hL i hi) h
  · refine b_sk (by decide) (b_sk (by decide) (b_sk (by decide) (b_sk (by decide) (b_sk (by decide) (b_sk (by decide) (b_ht rfl ⟨hin, ?_⟩))))))
    rw [show mem (78) = D 6 from hC.2.1 5 (by omega)]; exact h
  · refine b_sk (by decide) (b_sk (by decide) (b_sk (by decide) (b_sk (by decide) (b_sk (by decide) (b_sk (by decide) (b_sk (by decide) (b_ht rfl ⟨hin, ?_⟩)))))))
    rw [show mem (79) = D 7 from hC.2.1 6 (by omega)]; exact h
  · refine b_sk (by decide) (b_sk (by decide) (b_sk (by decide) (b_sk (by decide) (b_sk (by decide) (b_sk (by decide) (b_sk (by decide) (b_sk (by decide) (b_ht rfl ⟨hin, ?_⟩))))))))
    rw [show mem (80) = D 8 from hC.2.1 7 (by omega)]; exact h
theorem z_n9 {a : Int32} (h : ¬ (0 ≤ a.toInt ∧ a.toInt ≤ 8)) {k : Nat} (hk : k ≤ 8) : ¬ a = nI k := fun e => h (by rw [e, z_nI (by omega)]; omega)
theorem o_about {a v : Int32} {mem D : q_Mem} {Q : Int32 → Int32 → q_Mem → Prop} (hC : y_C mem D) (hM : y_M mem D) (hV : y_V D) (hQ : y_K Q) : wp_X2_about a v mem (fun r1 m1 => wp_X3_about a v m1 (fun r2 m2 => Q r1 r2 m2)) := by
  obtain ⟨N, H, x, s, r, f, ⟨e0, e1, e2, e3, e4, e5⟩, ⟨g1, g2, g3, g4, g5⟩, v1, v2, v3, v4, v5, v6⟩ := id hV
  obtain ⟨hN, hL, hS⟩ := id v1
  unfold wp_X2_about wp_X3_about
  refine p_hasI (hC.1.1.trans e0) hN (fun c => b_n0 (p_layF (hM.1.1.trans e0) hN c (b_0 (hQ _ _ D hC hM hV)))) (fun c => b_n1 ?_)
  obtain ⟨i, hi1, hi2, hi3⟩ := z_nat c.1
  refine p_wi 0 8 rfl rfl (fun c2 => b_n0 ?_) (fun c2 => b_n1 ?_)
  · refine p_layT (hM.1.1.trans e0) hN c (b_1 ?_)
    unfold wp_X3_aboutOf
    exact b_sk (z_n9 c2 (k := 0) (by omega)) (b_sk (z_n9 c2 (k := 1) (by omega)) (b_sk (z_n9 c2 (k := 2) (by omega)) (b_sk (z_n9 c2 (k := 3) (by omega)) (b_sk (z_n9 c2 (k := 4) (by omega)) (b_sk (z_n9 c2 (k := 5) (by omega)) (b_sk (z_n9 c2 (k := 6) (by omega)) (b_sk (z_n9 c2 (k := 7) (by omega)) (b_sk (z_n9 c2 (k := 8) (by omega)) (hQ _ _ D hC hM hV)))))))))
  · obtain ⟨w, hw1, hw2, hw3⟩ := z_nat c2.1
    rw [hi2, hw2]
    have hiN : i < N := by omega
    rw [hi2] at c
    refine p_tellOf hC e0 v1 v4 hiN (by omega) (p_layT (hM.1.1.trans e0) hN c (b_1 ?_))
    exact p_aboutOf hM e0 v1 v4 hiN (by omega) (hQ _ _ D hC hM hV)
theorem p_allWater {b N : Nat} (hb : q_WB b) {mem : q_Mem} {Q : Int32 → q_Mem → Prop} (hn : mem b 11 = nI N) (hN : N ≤ 6) (h : Q (z_sm (mem (b + 9)) N) mem) : wp_X1_allWater b mem Q := by
  unfold wp_X1_allWater wp_X1_allWater_4
  refine w_lp2 N (fun _ => True) (fun k => z_sm (mem (b + 9)) k) nI (fun _ => mem) (body := fun K y1 y2 m => wp_X1_allWater_4_b K b y1 y2 m Q) trivial rfl nI_0.symm rfl (fun k hk _ K hK => ?_)
  unfold wp_X1_allWater_4_b wp_X1_allWater_27
  rw [hn, z_nle2 (by omega) (by omega)]
  refine ⟨fun c => ?_, fun c => ⟨by rw [al_w9 hb]; exact in_nI (by omega) (by omega), ?_⟩⟩
  · rw [show k = N by omega]; exact h
  · rintro x rfl
    rintro y rfl
    rw [nI_1, nI_clamp (by omega)]
    exact hK (by omega) trivial
theorem p_count5 {N : Nat} {a : Int32} {mem : q_Mem} {Q : Int32 → q_Mem → Prop} (hn : mem 72 0 = nI N) (hN : N ≤ 6) (h : Q (z_sm (mem 77) N) mem) : wp_X3_count_73 a (0 : Int32) (0 : Int32) mem Q := by
  unfold wp_X3_count_73
  refine w_lp2 N (fun _ => True) (fun k => z_sm (mem 77) k) nI (fun _ => mem) (body := fun K y1 y2 m => wp_X3_count_73_b K a y1 y2 m Q) trivial rfl nI_0.symm rfl (fun k hk _ K hK => ?_)
  unfold wp_X3_count_73_b wp_X3_count_96
  rw [hn, z_nle2 (by omega) (by omega)]
  refine ⟨fun c => ?_, fun c => ⟨by rw [show q_al 77 = 6 from rfl]; exact in_nI (by omega) (by omega), ?_⟩⟩
  · rw [show k = N by omega]; exact h
  · rintro x rfl
    rintro y rfl
    rw [nI_1, nI_clamp (by omega)]
    exact hK (by omega) trivial
theorem z_n7 {a : Int32} (h : ¬ (0 ≤ a.toInt ∧ a.toInt ≤ 6)) {k : Nat} (hk : k ≤ 6) : ¬ a = nI k := fun e => h (by rw [e, z_nI (by omega)]; omega)
theorem o_count {a : Int32} {mem D : q_Mem} {Q : Int32 → Int32 → q_Mem → Prop} (hC : y_C mem D) (hM : y_M mem D) (hV : y_V D) (hQ : y_K Q) : wp_X2_count a mem (fun r1 m1 => wp_X3_count a m1 (fun r2 m2 => Q r1 r2 m2)) := by
  obtain ⟨N, H, x, s, r, f, ⟨e0, e1, e2, e3, e4, e5⟩, ⟨g1, g2, g3, g4, g5⟩, v1, v2, v3, v4, v5, v6⟩ := id hV
  obtain ⟨hN, hL, hS⟩ := id v1
  unfold wp_X2_count
  refine p_wi 0 6 rfl rfl (fun c2 => b_0 ?_) (fun c2 => b_1 ?_)
  · unfold wp_X3_count
    exact b_sk (z_n7 c2 (k := 0) (by omega)) (b_sk (z_n7 c2 (k := 1) (by omega)) (b_sk (z_n7 c2 (k := 2) (by omega)) (b_sk (z_n7 c2 (k := 3) (by omega)) (b_sk (z_n7 c2 (k := 4) (by omega)) (b_sk (z_n7 c2 (k := 5) (by omega)) (b_sk (z_n7 c2 (k := 6) (by omega)) (hQ _ _ D hC hM hV)))))))
  · obtain ⟨w, hw1, hw2, hw3⟩ := z_nat c2.1
    rw [hw2]
    have h9 : w = 0 ∨ w = 1 ∨ w = 2 ∨ w = 3 ∨ w = 4 ∨ w = 5 ∨ w = 6 := by omega
    have hq : ∀ r : Int32, Q r r mem := fun r => hQ _ _ D hC hM hV
    unfold wp_X2_tellCount wp_X3_count
    rcases h9 with rfl | rfl | rfl | rfl | rfl | rfl | rfl
    · refine b_ht rfl ?_
      refine b_ht rfl ?_
      rw [hM.1.1, hC.1.1]; exact hq _
    · refine b_sk (by decide) (b_ht rfl ?_)
      refine b_sk (by decide) (b_ht rfl ?_)
      rw [hM.1.2.1, hC.1.2.1]; exact hq _
    · refine b_sk (by decide) (b_sk (by decide) (b_ht rfl ?_))
      refine b_sk (by decide) (b_sk (by decide) (b_ht rfl ?_))
      rw [hM.1.2.2.1, hC.1.2.2.1]; exact hq _
    · refine b_sk (by decide) (b_sk (by decide) (b_sk (by decide) (b_ht rfl ?_)))
      refine b_sk (by decide) (b_sk (by decide) (b_sk (by decide) (b_ht rfl ?_)))
      rw [hM.1.2.2.2.1, hC.1.2.2.2.1]; exact hq _
    · refine b_sk (by decide) (b_sk (by decide) (b_sk (by decide) (b_sk (by decide) (b_ht rfl ?_))))
      refine b_sk (by decide) (b_sk (by decide) (b_sk (by decide) (b_sk (by decide) (b_ht rfl ?_))))
      rw [hM.1.2.2.2.2.1, hC.1.2.2.2.2.1]; exact hq _
    · refine b_sk (by decide) (b_sk (by decide) (b_sk (by decide) (b_sk (by decide) (b_sk (by decide) (b_ht rfl ?_)))))
      refine p_allWater q_WB1 (hC.1.1.trans e0) hN ?_
      refine b_sk (by decide) (b_sk (by decide) (b_sk (by decide) (b_sk (by decide) (b_sk (by decide) (b_ht rfl ?_)))))
      refine p_count5 (hM.1.1.trans e0) hN ?_
      rw [show mem (1 + 9) = D 5 from hC.2.1 4 (by omega), show mem 77 = D 5 from hM.2.1 4 (by omega)]; exact hq _
    · refine b_sk (by decide) (b_sk (by decide) (b_sk (by decide) (b_sk (by decide) (b_sk (by decide) (b_sk (by decide) (?_))))))
      refine b_sk (by decide) (b_sk (by decide) (b_sk (by decide) (b_sk (by decide) (b_sk (by decide) (b_sk (by decide) (b_ht rfl ?_))))))
      rw [hM.1.2.2.2.2.2, hC.1.2.2.2.2.2]; exact hq _

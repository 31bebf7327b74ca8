/-! ===== arrange ===== -/
theorem p_fetch {i fr : Nat} {mem : q_Mem} {Q : q_Mem → Prop} (hi : i < 6) (hf : fr < 6) (h : ∀ m, (∀ r, r < 8 → m (73 + r) = upd (mem (73 + r)) i (mem 87 (6 * r + fr))) → (∀ q, q < 73 ∨ 80 < q → m q = mem q) → Q m) : wp_X3_fetch (nI i) (nI fr) mem Q := by
  have i6 : vp_in (nI i) 6 := in_nI (by omega) (by omega)
  have ck : (nI i).toNatClampNeg = i := nI_clamp (by omega)
  have cf : (nI fr).toNatClampNeg = fr := nI_clamp (by omega)
  have ii : ∀ r, r < 8 → vp_in (nI (6 * r) + nI fr) 48 := fun r hr => by rw [nI_add]; exact in_nI (by omega) (by omega)
  have cc : ∀ r, r < 8 → (nI (6 * r) + nI fr).toNatClampNeg = 6 * r + fr := fun r hr => by rw [nI_add, nI_clamp (by omega)]
  unfold wp_X3_fetch
  rw [show q_al 87 = 48 from rfl, show q_al 73 = 6 from rfl, show q_al 74 = 6 from rfl, show q_al 75 = 6 from rfl, show q_al 76 = 6 from rfl, show q_al 77 = 6 from rfl, show q_al 78 = 6 from rfl, show q_al 79 = 6 from rfl, show q_al 80 = 6 from rfl]
  refine ⟨in_nI (by omega) (by omega), i6, ?_⟩
  intro m1 h1
  refine ⟨ii 1 (by omega), i6, ?_⟩
  intro m2 h2
  refine ⟨ii 2 (by omega), i6, ?_⟩
  intro m3 h3
  refine ⟨ii 3 (by omega), i6, ?_⟩
  intro m4 h4
  refine ⟨ii 4 (by omega), i6, ?_⟩
  intro m5 h5
  refine ⟨ii 5 (by omega), i6, ?_⟩
  intro m6 h6
  refine ⟨ii 6 (by omega), i6, ?_⟩
  intro m7 h7
  refine ⟨ii 7 (by omega), i6, ?_⟩
  intro m8 h8
  rw [ck, cf] at h1
  rw [ck, show (6 : Int32) = nI (6 * 1) from rfl, cc 1 (by omega)] at h2
  rw [ck, show (12 : Int32) = nI (6 * 2) from rfl, cc 2 (by omega)] at h3
  rw [ck, show (18 : Int32) = nI (6 * 3) from rfl, cc 3 (by omega)] at h4
  rw [ck, show (24 : Int32) = nI (6 * 4) from rfl, cc 4 (by omega)] at h5
  rw [ck, show (30 : Int32) = nI (6 * 5) from rfl, cc 5 (by omega)] at h6
  rw [ck, show (36 : Int32) = nI (6 * 6) from rfl, cc 6 (by omega)] at h7
  rw [ck, show (42 : Int32) = nI (6 * 7) from rfl, cc 7 (by omega)] at h8
  have g1 : m1 = q_set mem 73 (upd (mem 73) i (mem 87 (6 * 0 + fr))) := by rw [h1, show 6 * 0 + fr = fr by omega]
  have a1 : m1 74 = mem 74 := by rw [g1, q_set_n (by decide)]
  have b1 : m1 87 = mem 87 := by rw [g1, q_set_n (by decide)]
  have g2 : m2 = q_set m1 74 (upd (mem 74) i (mem 87 (6 * 1 + fr))) := by rw [h2, a1, b1]
  have a2 : m2 75 = mem 75 := by rw [g2, q_set_n (by decide), g1, q_set_n (by decide)]
  have b2 : m2 87 = mem 87 := by rw [g2, q_set_n (by decide), g1, q_set_n (by decide)]
  have g3 : m3 = q_set m2 75 (upd (mem 75) i (mem 87 (6 * 2 + fr))) := by rw [h3, a2, b2]
  have a3 : m3 76 = mem 76 := by rw [g3, q_set_n (by decide), g2, q_set_n (by decide), g1, q_set_n (by decide)]
  have b3 : m3 87 = mem 87 := by rw [g3, q_set_n (by decide), g2, q_set_n (by decide), g1, q_set_n (by decide)]
  have g4 : m4 = q_set m3 76 (upd (mem 76) i (mem 87 (6 * 3 + fr))) := by rw [h4, a3, b3]
  have a4 : m4 77 = mem 77 := by rw [g4, q_set_n (by decide), g3, q_set_n (by decide), g2, q_set_n (by decide), g1, q_set_n (by decide)]
  have b4 : m4 87 = mem 87 := by rw [g4, q_set_n (by decide), g3, q_set_n (by decide), g2, q_set_n (by decide), g1, q_set_n (by decide)]
  have g5 : m5 = q_set m4 77 (upd (mem 77) i (mem 87 (6 * 4 + fr))) := by rw [h5, a4, b4]
  have a5 : m5 78 = mem 78 := by rw [g5, q_set_n (by decide), g4, q_set_n (by decide), g3, q_set_n (by decide), g2, q_set_n (by decide), g1, q_set_n (by decide)]
  have b5 : m5 87 = mem 87 := by rw [g5, q_set_n (by decide), g4, q_set_n (by decide), g3, q_set_n (by decide), g2, q_set_n (by decide), g1, q_set_n (by decide)]
  have g6 : m6 = q_set m5 78 (upd (mem 78) i (mem 87 (6 * 5 + fr))) := by rw [h6, a5, b5]
  have a6 : m6 79 = mem 79 := by rw [g6, q_set_n (by decide), g5, q_set_n (by decide), g4, q_set_n (by decide), g3, q_set_n (by decide), g2, q_set_n (by decide), g1, q_set_n (by decide)]
  have b6 : m6 87 = mem 87 := by rw [g6, q_set_n (by decide), g5, q_set_n (by decide), g4, q_set_n (by decide), g3, q_set_n (by decide), g2, q_set_n (by decide), g1, q_set_n (by decide)]
  have g7 : m7 = q_set m6 79 (upd (mem 79) i (mem 87 (6 * 6 + fr))) := by rw [h7, a6, b6]
  have a7 : m7 80 = mem 80 := by rw [g7, q_set_n (by decide), g6, q_set_n (by decide), g5, q_set_n (by decide), g4, q_set_n (by decide), g3, q_set_n (by decide), g2, q_set_n (by decide), g1, q_set_n (by decide)]
  have b7 : m7 87 = mem 87 := by rw [g7, q_set_n (by decide), g6, q_set_n (by decide), g5, q_set_n (by decide), g4, q_set_n (by decide), g3, q_set_n (by decide), g2, q_set_n (by decide), g1, q_set_n (by decide)]
  have g8 : m8 = q_set m7 80 (upd (mem 80) i (mem 87 (6 * 7 + fr))) := by rw [h8, a7, b7]
  refine h m8 (fun r hr => ?_) (fun q hq => ?_)
  · have h8 : r = 0 ∨ r = 1 ∨ r = 2 ∨ r = 3 ∨ r = 4 ∨ r = 5 ∨ r = 6 ∨ r = 7 := by omega
    rcases h8 with rfl | rfl | rfl | rfl | rfl | rfl | rfl | rfl
    · show m8 73 = _; rw [g8, q_set_n (by decide), g7, q_set_n (by decide), g6, q_set_n (by decide), g5, q_set_n (by decide), g4, q_set_n (by decide), g3, q_set_n (by decide), g2, q_set_n (by decide), g1, q_set_s]
    · show m8 74 = _; rw [g8, q_set_n (by decide), g7, q_set_n (by decide), g6, q_set_n (by decide), g5, q_set_n (by decide), g4, q_set_n (by decide), g3, q_set_n (by decide), g2, q_set_s]
    · show m8 75 = _; rw [g8, q_set_n (by decide), g7, q_set_n (by decide), g6, q_set_n (by decide), g5, q_set_n (by decide), g4, q_set_n (by decide), g3, q_set_s]
    · show m8 76 = _; rw [g8, q_set_n (by decide), g7, q_set_n (by decide), g6, q_set_n (by decide), g5, q_set_n (by decide), g4, q_set_s]
    · show m8 77 = _; rw [g8, q_set_n (by decide), g7, q_set_n (by decide), g6, q_set_n (by decide), g5, q_set_s]
    · show m8 78 = _; rw [g8, q_set_n (by decide), g7, q_set_n (by decide), g6, q_set_s]
    · show m8 79 = _; rw [g8, q_set_n (by decide), g7, q_set_s]
    · show m8 80 = _; rw [g8, q_set_s]
  · rw [g8, q_set_n (by omega), g7, q_set_n (by omega), g6, q_set_n (by omega), g5, q_set_n (by omega), g4, q_set_n (by omega), g3, q_set_n (by omega), g2, q_set_n (by omega), g1, q_set_n (by omega)]
def k_cn (B : Nat → Nat) : Nat → Nat
  | 0 => 0
  | k + 1 => if B k = k then k_cn B k else k_cn B k + 1
theorem k_cn_le (B : Nat → Nat) : ∀ k, k_cn B k ≤ k
  | 0 => Nat.le_refl _
  | k + 1 => by
    have := k_cn_le B k
    rw [k_cn]
    split <;> omega
theorem p_cnt {N : Nat} {B : Nat → Nat} {a : Int32} {mem : q_Mem} {Q : Int32 → q_Mem → Prop} (hn : mem 1 11 = nI N) (hN : N ≤ 6) (hB : ∀ i, i < N → mem 33 i = nI (B i) ∧ B i < N) (h : Q (nI (k_cn B N)) mem) : wp_X2_arrange_49 a (0 : Int32) (0 : Int32) mem Q := by
  unfold wp_X2_arrange_49
  refine w_lp2 N (fun _ => True) (fun k => nI (k_cn B k)) nI (fun _ => mem) (body := fun K y1 y2 m => wp_X2_arrange_49_b K a y1 y2 m Q) trivial nI_0.symm nI_0.symm rfl (fun k hk _ K hK => ?_)
  unfold wp_X2_arrange_49_b wp_X2_arrange_79 wp_X2_arrange_85
  rw [hn, z_nle2 (by omega) (by omega), show q_al 33 = 6 from rfl, nI_clamp (by omega)]
  refine ⟨fun c => ?_, fun c => ⟨in_nI (by omega) (by omega), ?_⟩⟩
  · rw [show k = N by omega]; exact h
  obtain ⟨b1, b2⟩ := hB k (by omega)
  have hK' := hK (by omega) trivial
  rw [k_cn] at hK'
  rw [b1, nI_eq (by omega) (by omega)]
  refine ⟨fun d => ?_, fun d => ?_⟩
  · rintro y rfl
    rw [nI_1]
    rw [if_pos d] at hK'
    exact hK'
  · rintro x3 rfl
    rintro y rfl
    rw [nI_1, nI_1]
    rw [if_neg d] at hK'
    exact hK'
theorem o_arrange {a : Int32} {mem D : q_Mem} {Q : Int32 → Int32 → q_Mem → Prop} (hC : y_C mem D) (hM : y_M mem D) (hV : y_V D) (hQ : y_K Q) : wp_X2_arrange a mem (fun r1 m1 => wp_X3_arrange a m1 (fun r2 m2 => Q r1 r2 m2)) := by
  obtain ⟨N, H, x, s, r, f, hW⟩ := id hV
  obtain ⟨⟨e0, e1, e2, e3, e4, e5⟩, ⟨g1, g2, g3, g4, g5⟩, v1, -⟩ := id hW
  have hN := v1.1
  have q : ∀ r : Int32, Q r r mem := fun r => hQ _ _ D hC hM hV
  have mc := hM.1.1.trans e0
  have md := hM.1.2.1.trans e1
  unfold wp_X2_arrange
  refine p_hrefC (hC.1.1.trans e0) (hC.1.2.1.trans e1) hN g1 (fun c => ?_) (fun c d => ?_) (fun c d => b_ht rfl ⟨in_int c.1 (by omega), ?_⟩)
  · refine b_sk (by decide) ?_
    unfold wp_X3_arrange
    exact p_hrefM mc md hN g1 (fun _ => b_sk (by decide) (q _)) (fun z _ => absurd z c) (fun z _ => absurd z c)
  · refine b_sk (by decide) ?_
    unfold wp_X3_arrange
    exact p_hrefM mc md hN g1 (fun z => absurd c z) (fun _ _ => b_sk (by decide) (q _)) (fun _ z => absurd z (by omega))
  obtain ⟨h, hh1, hh2, hh3⟩ := z_nat c.1
  have hhH : h < H := by omega
  have hcl : a.toNatClampNeg = h := by rw [hh2, nI_clamp (by omega)]
  have h18 := k_bst_18 hW hhH
  have hBl : ∀ j, k_ls (k_bst N (y_en D N h) N 0).2 j < N := k_bst_lt d _ N 0
  rw [hcl]
  refine p_findBest0 hC hW d hhH (fun m1 f1 o1 => ?_)
  have hC1 : y_C m1 D := hC.fr f1
  have hM1 : y_M m1 D := hM.kept (fun k hk => f1 k (by omega) (by omega))
  generalize hBd : k_ls (k_bst N (y_en D N h) N 0).2 = B at *
  have hn1 : m1 1 11 = nI N := hC1.1.1.trans e0
  refine p_stand (B := B) hn1 hN (fun i hi => ⟨o1 i hi, hBl i⟩) (fun m2 t1 t2 => ?_)
  have hC2 : y_C m2 (y_ar D N B) := by
    obtain ⟨⟨a1, a2, a3, a4, a5, a6⟩, b, c, d, e, f⟩ := hC1
    refine ⟨?_, fun k hk => ?_, ?_, fun x k hx hk => ?_, fun i j hi hj => ?_, fun i j hi hj => ?_⟩
    · rw [y_ar_o (k := 0) (by omega), t2 1 (by omega), t2 0 (by omega)]; exact ⟨a1, a2, a3, a4, a5, a6⟩
    · rw [y_ar_i (by omega), t1 k hk, b k hk]
    · rw [y_ar_o (by omega), t2 _ (by omega)]; exact c
    · rw [y_ar_o (by omega), t2 _ (by omega)]; exact d x k hx hk
    · rw [y_ar_o (by omega), t2 _ (by omega)]; exact e i j hi hj
    · rw [y_ar_o (by omega), t2 _ (by omega)]; exact f i j hi hj
  have hM2 : y_M m2 D := hM1.kept (fun k hk => t2 k (by omega))
  refine p_cnt (B := B) (by rw [t2 1 (by omega)]; exact hn1) hN (fun i hi => ⟨by rw [t2 33 (by omega)]; exact o1 i hi, hBl i⟩) ?_
  unfold wp_X3_arrange
  refine p_hrefM (hM2.1.1.trans e0) (hM2.1.2.1.trans e1) hN g1 (fun z => absurd c z) (fun _ z => absurd z (by omega)) (fun _ _ => b_ht rfl ?_)
  rw [hh2]
  refine p_findBest3 hM2 hW d hhH (fun m3 f3 o3 => ?_)
  rw [hBd] at o3
  have hM3 : y_M m3 D := hM2.fr f3
  have hC3 : y_C m3 (y_ar D N B) := hC2.kept (fun k hk => f3 k (by omega) (by omega))
  refine p_layAside (fun g hg => ?_)
  refine ⟨fun _ => ?_, fun z => absurd (nI_pos' (by omega)) z⟩
  unfold wp_X3_arrange_31 wp_X3_arrange_36
  refine w_rl2 N nI (fun k y m => y = nI (k_cn B k) ∧ (∀ r, r < 8 → m (73 + r) = z_ra B (D (1 + r)) k) ∧ (∀ q, q < 73 ∨ 80 < q → m q = q_set m3 87 g q)) (body := fun K y1 y2 m => wp_X3_arrange_36_b K (nI h) y1 y2 m _) nI_0.symm ⟨nI_0.symm, fun r hr => by rw [q_set_n (by omega), z_ra_0]; exact hM3.2.1 r hr, fun q _ => rfl⟩ (fun k hk y m hP K hK => ?_)
  obtain ⟨rfl, p1, p2⟩ := hP
  have n0 : m 72 0 = nI N := by rw [p2 72 (by omega), q_set_n (by decide)]; exact hM3.1.1.trans e0
  unfold wp_X3_arrange_36_b
  rw [n0, z_nle2 (by omega) (by omega), show q_al 86 = 6 from rfl, nI_clamp (by omega)]
  refine ⟨fun u => ?_, fun u => ⟨in_nI (by omega) (by omega), ?_⟩⟩
  · have hkN : k = N := by omega
    subst hkN
    unfold wp_X3_arrange_86
    have hMm : y_M m (y_ar D k B) := by
      obtain ⟨⟨a1, a2, a3, a4, a5, a6⟩, b, c, d, e, f⟩ := hM3
      refine ⟨?_, fun j hj => ?_, ?_, ?_, ?_, fun j hj => ?_⟩
      · rw [y_ar_o (k := 0) (by omega), p2 72 (by omega), q_set_n (by omega)]; exact ⟨a1, a2, a3, a4, a5, a6⟩
      · rw [y_ar_i (by omega), p1 j hj]
      · rw [y_ar_o (by omega), p2 _ (by omega), q_set_n (by omega)]; exact c
      · rw [y_ar_o (by omega), p2 _ (by omega), q_set_n (by omega)]; exact d
      · rw [y_ar_o (by omega), p2 _ (by omega), q_set_n (by omega)]; exact e
      · rw [y_ar_o (by omega), p2 _ (by omega), q_set_n (by omega)]; exact f j hj
    exact hQ _ _ _ (hC3.kept (fun q hq => by rw [p2 q (by omega), q_set_n (by omega)])) hMm (y_W.ar (show y_W D k H x s r f from hW) hBl).V
  have hkN : k < N := by omega
  have e86 : m 86 k = nI (B k) := by rw [p2 86 (by omega), q_set_n (by decide)]; exact o3 k hkN
  have hBk := hBl k
  rw [e86]
  refine p_fetch (by omega) (by omega) (fun m4 w1 w2 => ?_)
  rw [w2 86 (by omega), e86, nI_eq (by omega) (by omega)]
  have rows : ∀ r, r < 8 → m4 (73 + r) = z_ra B (D (1 + r)) (k + 1) := fun r hr => by
    rw [w1 r hr, p1 r hr, p2 87 (by omega), q_set_s, hg r (B k) hr (by omega), hM3.2.1 r hr, z_ra_s]
  have fr : ∀ q, q < 73 ∨ 80 < q → m4 q = q_set m3 87 g q := fun q hq => by rw [w2 q hq]; exact p2 q hq
  have hcn := k_cn_le B k
  unfold wp_X3_arrange_77
  refine ⟨in_nI (by omega) (by omega), fun u2 => ?_, fun u2 => ?_⟩
  · rintro x4 rfl
    rintro x5 rfl
    rw [nI_1, nI_1]
    exact hK _ _ hkN ⟨by rw [k_cn, if_neg u2], rows, fr⟩
  · rintro x4 rfl
    rintro x5 rfl
    rw [nI_1, Int32.add_zero]
    exact hK _ _ hkN ⟨by rw [k_cn, if_pos u2], rows, fr⟩

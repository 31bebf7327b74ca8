theorem p_fits3 {m D : q_Mem} {N H x s r f : Nat} {Q : Int32 → q_Mem → Prop} (hM : y_M m D) (hW : y_W D N H x s r f) (hN1 : 1 ≤ N) (hx : x < H) (ha : ∀ r i, r < 8 → i < 6 → m 87 (6 * r + i) = D (1 + r) i) (h : ∀ m', y_M m' D → y_lo m m' → Q (k_bits D N H x r 11) m') : wp_X3_fits_45 (nI s) (nI x) (0 : Int32) m Q := by
  have hs10 := hW.2.1.2.2.1
  unfold wp_X3_fits_45
  refine w_rl1 5 nI (fun k m' => ∃ g : Nat → Int32, m' = q_set m 92 g ∧ ∀ j, j < k → g j = D 10 j) (body := fun K y m' => wp_X3_fits_45_b K (nI s) (nI x) y m' Q) nI_0.symm ⟨m 92, (q_set_self rfl).symm, fun j hj => by omega⟩ (fun k hk m' hP K hK => ?_)
  obtain ⟨g, rfl, hg⟩ := hP
  unfold wp_X3_fits_45_b
  rw [z_lit 5, z_nle2 (by omega) (by omega), show q_al 82 = 5 from rfl, show q_al 92 = 5 from rfl, nI_clamp (by omega), q_set_s, q_set_n (show (82 : Nat) ≠ 92 by decide), hM.2.2.1, q_set_set]
  refine ⟨fun c => ?_, fun c => ⟨in_nI (by omega) (by omega), in_nI (by omega) (by omega), ?_⟩⟩
  rotate_left
  · rintro m4 rfl
    rintro y rfl
    rw [nI_1]
    refine hK _ (by omega) ⟨_, rfl, fun j hj => ?_⟩
    by_cases e : j = k
    · rw [e, upd_s]
    · rw [upd_n e]; exact hg j (by omega)
  have hM9 : y_M (q_set m 92 g) D := hM.scratch (by omega) g
  unfold wp_X3_fits_68 wp_X3_fits_73
  refine w_rl2 11 nI (fun v y m' => y = k_bits D N H x r v ∧ ∃ E, y_M m' E ∧ y_sm D E ∧ m' 87 = m 87 ∧ m' 92 = g ∧ y_lo m m') (body := fun K y1 y2 m' => wp_X3_fits_73_b K (nI s) (nI x) y1 y2 m' Q) nI_0.symm ⟨rfl, D, hM9, ⟨fun _ _ => rfl, fun _ _ _ => rfl, fun _ _ => rfl⟩, q_set_n (by decide), q_set_s _ _ _, (y_lo.rf m).set (by omega)⟩ (fun v hv y m' hP K2 hK2 => ?_)
  obtain ⟨rfl, E, hME, hsE, f87, f92, hlo⟩ := hP
  unfold wp_X3_fits_73_b
  rw [z_lit 10, nI_ltI (by omega) (by omega)]
  refine ⟨fun c2 => ?_, fun c2 => ?_⟩
  rotate_left
  · rintro m2 rfl
    have hM2 := hME.field 13 (nI v)
    have hs2 : y_sm D (q_set E 0 (upd (E 0) 13 (nI v))) := ⟨fun k hk => by rw [q_set_s, upd_n hk]; exact hsE.1 k hk, fun k h1 h2 => by rw [q_set_n h1]; exact hsE.2.1 k h1 h2, fun i hi => by rw [q_set_n (by decide)]; exact hsE.2.2 i hi⟩
    refine p_trial hM2 hW hN1 hx (by omega) hs2 (by rw [q_set_s, upd_s]) (fun r i hr hi => by rw [q_set_n (by decide), f87]; exact ha r i hr hi) (fun m3 E3 b1 b2 b3 b4 b5 b6 => ?_)
    refine hK2 _ _ (by omega) ⟨rfl, E3, b1, b2, ?_, ?_, ?_⟩
    · rw [b4, q_set_n (by decide)]; exact f87
    · rw [b5, q_set_n (by decide)]; exact f92
    · exact (hlo.set (by omega)).tr b6
  have hv11 : v = 11 := by omega
  subst hv11
  unfold wp_X3_fits_244
  rintro m2 rfl
  have hM2 := hME.field 13 (nI s)
  have hE0 : ∀ k, q_set E 0 (upd (E 0) 13 (nI s)) 0 k = D 0 k := fun k => by
    rw [q_set_s]
    by_cases e : k = 13
    · rw [e, upd_s]; exact hW.1.2.2.2.1.symm
    · rw [upd_n e]; exact hsE.1 k e
  unfold wp_X3_fits_252
  refine w_rl1 5 nI (fun k m3 => ∃ u : Nat → Int32, m3 = q_set (q_set m' 72 (upd (m' 72) 13 (nI s))) 82 u ∧ ∀ j, (j < k ∨ 5 ≤ j) → u j = D 10 j) (body := fun K y m3 => wp_X3_fits_252_b K (k_bits D N H x r 11) y m3 Q) nI_0.symm ⟨E 10, ?_, fun j hj => hsE.2.2 j (by omega)⟩ (fun k3 hk3 m3 hP3 K3 hK3 => ?_)
  · refine (q_set_self ?_).symm
    rw [q_set_n (show (82 : Nat) ≠ 72 by decide)]
    exact hME.2.2.1
  obtain ⟨u, rfl, hu⟩ := hP3
  unfold wp_X3_fits_252_b wp_X3_fits_278
  rw [z_lit 5, z_nle2 (by omega) (by omega), show q_al 82 = 5 from rfl, show q_al 92 = 5 from rfl, nI_clamp (by omega), q_set_s, q_set_n (show (92 : Nat) ≠ 82 by decide), q_set_n (show (92 : Nat) ≠ 72 by decide), f92, q_set_set]
  refine ⟨fun c3 => ?_, fun c3 => ⟨in_nI (by omega) (by omega), in_nI (by omega) (by omega), ?_⟩⟩
  rotate_left
  · rintro m4 rfl
    rintro y rfl
    rw [nI_1]
    refine hK3 _ (by omega) ⟨_, rfl, fun j hj => ?_⟩
    by_cases e : j = k3
    · rw [e, upd_s]; exact hg k3 (by omega)
    · rw [upd_n e]; exact hu j (by omega)
  have hD : q_set (q_set E 0 (upd (E 0) 13 (nI s))) 10 u = D := by
    funext k j
    by_cases e : k = 10
    · rw [e, q_set_s]; exact hu j (by omega)
    · rw [q_set_n e]
      by_cases e0 : k = 0
      · rw [e0]; exact hE0 j
      · rw [q_set_n e0, hsE.2.1 k e0 e]
  have hM3 := hM2.cell (k := 10) (by omega) (by omega) u
  rw [hD] at hM3
  exact h _ hM3 ((hlo.set (by omega)).set (by omega))
theorem o_fits {mem D : q_Mem} {Q : Int32 → Int32 → q_Mem → Prop} (hC : y_C mem D) (hM : y_M mem D) (hV : y_V D) (hQ : y_K Q) : wp_X2_fits mem (fun r1 m1 => wp_X3_fits m1 (fun r2 m2 => Q r1 r2 m2)) := by
  obtain ⟨N, H, x, s, r, f, hW⟩ := id hV
  obtain ⟨⟨e0, e1, e2, e3, e4, e5⟩, ⟨g1, g2, g3, g4, g5⟩, v1, vr⟩ := id hW
  have hN := v1.1
  unfold wp_X2_fits
  refine p_ncp (hC.1.1.trans e0) (hC.1.2.1.trans e1) hN g1 (fun c0 c1 => b_n0 ?_) (fun c0 => b_n1 ?_)
  rotate_left
  · unfold wp_X3_fits
    exact p_mgF (hM.1.1.trans e0) (hM.1.2.1.trans e1) hN g1 c0 (b_0 (hQ _ _ D hC hM hV))
  have hx : x < H := by omega
  rw [hC.1.2.2.2.2.2, e5, z_lit 30, nI_ltI (by omega) (by omega)]
  refine ⟨fun cf => ?_, fun cf => ?_⟩
  rotate_left
  · unfold wp_X3_fits
    refine p_mgT (hM.1.1.trans e0) (hM.1.2.1.trans e1) hN g1 c0 c1 (b_1 ?_)
    rw [hM.1.2.2.2.2.2, e5, show f = 30 by omega]
    exact ⟨fun z => absurd rfl z, fun _ => hQ _ _ D hC hM hV⟩
  rintro m5 rfl
  rw [nI_1]
  have hC1 := hC.field (cf := 9) (df := 24) (by omega) (nI (f + 1))
  have hW1 : y_W (q_set D 0 (upd (D 0) 24 (nI (f + 1)))) N H x s r (f + 1) := ⟨⟨e0, e1, e2, e3, e4, rfl⟩, ⟨g1, g2, g3, g4, by omega⟩, v1, vr⟩
  have hMk : y_M (q_set mem 0 (upd (mem 0) 9 (nI (f + 1)))) D := hM.scratch (by omega) _
  generalize hD1 : q_set D 0 (upd (D 0) 24 (nI (f + 1))) = D1 at *
  generalize q_set mem 0 (upd (mem 0) 9 (nI (f + 1))) = m1 at *
  refine p_last hC1 hW1 (fun L hL1 hL2 => ?_)
  refine p_fits2 hC1 hW1 c0 hx hL1 hL2 (fun m2 f2 => ?_)
  have hC2 : y_C m2 D1 := by
    obtain ⟨⟨a1, a2, a3, a4, a5, a6⟩, b, c, d, e, f⟩ := hC1
    exact ⟨⟨by rw [f2 1 (by omega)]; exact a1, by rw [f2 0 (by omega)]; exact a2, by rw [f2 0 (by omega)]; exact a3, by rw [f2 0 (by omega)]; exact a4, by rw [f2 0 (by omega)]; exact a5, by rw [f2 0 (by omega)]; exact a6⟩, fun k hk => by rw [f2 _ (by omega)]; exact b k hk, by rw [f2 _ (by omega)]; exact c, fun x k hx hk => by rw [f2 _ (by omega)]; exact d x k hx hk, fun i j hi hj => by rw [f2 _ (by omega)]; exact e i j hi hj, fun i j hi hj => by rw [f2 _ (by omega)]; exact f i j hi hj⟩
  have hM2 : y_M m2 D := hMk.kept (fun k hk => f2 k (by omega))
  unfold wp_X3_fits
  refine p_mgT (hM2.1.1.trans e0) (hM2.1.2.1.trans e1) hN g1 c0 c1 (b_1 ?_)
  rw [hM2.1.2.2.2.2.2, e5]
  refine ⟨fun _ => ?_, fun z => absurd z (by rw [z_lit 30, nI_eq (by omega) (by omega)]; omega)⟩
  rintro m3 rfl
  rw [nI_1]
  have hM3 := hM2.field 24 (nI (f + 1))
  rw [hD1] at hM3
  have hlo3 : y_lo m2 (q_set m2 72 (upd (m2 72) 24 (nI (f + 1)))) := (y_lo.rf m2).set (by omega)
  rintro x1 rfl
  rintro x2 rfl
  rw [hM3.1.2.2.2.1, hW1.1.2.2.2.1, hM3.1.2.2.1, hW1.1.2.2.1]
  generalize q_set m2 72 (upd (m2 72) 24 (nI (f + 1))) = m4 at *
  refine p_layAside (fun g hg => ?_)
  refine p_fits3 (hM3.scratch (by omega) g) hW1 c0 hx (fun r i hr hi => by rw [q_set_s, hg r i hr hi, hM3.2.1 r hr]) (fun m5 h5 l5 => ?_)
  exact hQ _ _ D1 (hC2.kept ((hlo3.set (by omega)).tr l5)) h5 hW1.V

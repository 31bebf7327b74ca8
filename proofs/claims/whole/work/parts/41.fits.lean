/-! ===== fits: the class ===== -/
theorem z_RG_cg {N : Nat} {ro st cu wa ro' st' cu' wa' : Nat → Int32} (hr : ∀ i, i < N → ro i = ro' i) (hs : ∀ i, i < N → st i = st' i) (hc : ∀ i, i < N → cu i = cu' i) (hw : ∀ i, i < N → wa i = wa' i) (h : z_RG N ro' st' cu' wa') : z_RG N ro st cu wa := by
  obtain ⟨h1, h2, h3⟩ := h
  refine ⟨h1, fun i hi => ?_, fun i hi => by rw [hs i hi]; exact h3 i hi⟩
  obtain ⟨a, b, c, d1, d2, d3, d4⟩ := h2 i hi
  exact ⟨a, b, c, by rw [hr i hi]; exact d1, by rw [hc i hi]; exact d2, by rw [hw i hi]; exact d3, d4⟩
def y_dv (D : q_Mem) (v : Nat) : q_Mem := q_set D 0 (upd (D 0) 13 (nI v))
theorem y_dv_o {D : q_Mem} {v k : Nat} (h : k ≠ 0) : y_dv D v k = D k := q_set_n h
theorem y_W.dv {D : q_Mem} {N H x s r f v : Nat} (h : y_W D N H x s r f) (hv : v ≤ 10) : y_W (y_dv D v) N H x v r f := by
  obtain ⟨⟨e0, e1, e2, e3, e4, e5⟩, ⟨g1, g2, g3, g4, g5⟩, u⟩ := h
  exact ⟨⟨e0, e1, e2, rfl, e4, e5⟩, ⟨g1, g2, hv, g4, g5⟩, u⟩
def y_T (D : q_Mem) (N H x v : Nat) (k : Nat) : q_Mem := y_run N H x v (y_dv D v) k
theorem y_T_5 {D : q_Mem} {N H x v k : Nat} (hN1 : 1 ≤ N) : y_T D N H x v (k + 1) 5 = (z_move N (D 1) (D 2) (D 4) (D 9) (D 11 (5 * y_xn H x k)) (D 11 (5 * y_xn H x k + 3)) (z_rn (D 11 (5 * y_xn H x k + 2)) (nI v)) (y_T D N H x v k 5, y_T D N H x v k 10)).1 := by
  have lv := y_run_lv (D := y_dv D v) (N := N) (H := H) (x := x) (s := v) hN1 k
  have e : ∀ j, (1 ≤ j ∧ j ≤ 4) ∨ j = 9 ∨ 11 ≤ j → y_T D N H x v k j = D j := fun j hj => (lv.2.1 j hj).trans (y_dv_o (by omega))
  show y_nx (y_st (y_T D N H x v k) N (y_xn H x k) (nI v)) (y_xn H x (k + 1)) 5 = _
  unfold y_nx
  rw [q_set_n (by decide), y_st_5]
  unfold y_p z_hp
  rw [e 1 (by omega), e 2 (by omega), e 4 (by omega), e 9 (by omega), e 11 (by omega)]
theorem p_holdWith {mem D : q_Mem} {N H x s r f v L : Nat} {Q : Int32 → q_Mem → Prop} (hC : y_C mem D) (hW : y_W D N H x s r f) (hN1 : 1 ≤ N) (hx : x < H) (hv : v ≤ 10) (hL1 : L ≤ 100) (hL2 : ∀ i, i < r → ∃ b, D 17 i = nI b ∧ b ≤ L) (h : ∀ m, (∀ q, q < 16 ∨ 30 < q → m q = mem q) → Q (if k_ga D (y_T D N H x v) r 100 = true then 1 else 0) m) : wp_X2_readingsHoldWith (nI v) (nI L) mem Q := by
  have hWv := hW.dv hv
  obtain ⟨⟨e0, e1, e2, e3, e4, e5⟩, ⟨g1, g2, g3, g4, g5⟩, v1, v2, v3, v4, v5, v6⟩ := id hW
  have hN := v1.1
  have hsh := hWv.sh
  unfold wp_X2_readingsHoldWith
  refine p_become (fun m2 hb => ?_)
  obtain ⟨hf, hb1, hb2, hb3⟩ := hb
  have c5 : mem 10 = D 5 := hC.2.1 4 (by omega)
  have r1 : ∀ i, i < N → m2 21 i = D 1 i := fun i hi => ((hb2 i (by omega)).1).trans (congrFun (hC.2.1 0 (by omega)) i)
  have r2 : ∀ i, i < N → m2 22 i = D 2 i := fun i hi => ((hb2 i (by omega)).2.1).trans (congrFun (hC.2.1 1 (by omega)) i)
  have r4 : ∀ i, i < N → m2 24 i = D 4 i := fun i hi => ((hb2 i (by omega)).2.2.1).trans (congrFun (hC.2.1 3 (by omega)) i)
  have r5 : ∀ i, i < N → m2 25 i = D 5 i := fun i hi => ((hb2 i (by omega)).2.2.2).trans (congrFun c5 i)
  have hO2 : z_WO 16 m2 N (m2 21) (m2 22) (m2 24) (D 9) := ⟨hb1.trans (hC.1.1.trans e0), rfl, rfl, rfl, fun c k hc hk => (hb3 c k hc hk).trans (hC.2.2.2.1 c k hc hk)⟩
  rintro x3 rfl
  rw [hf 0 (by omega), hC.1.2.2.1, e2]
  unfold wp_X2_readingsHoldWith_19
  refine w_rl2 L (fun k => nI (k + 1)) (fun k y m => y = nI (y_xn H x k) ∧ (∀ q, q < 16 ∨ 30 < q → m q = mem q) ∧ z_WO 16 m N (m2 21) (m2 22) (m2 24) (D 9) ∧ (∀ i, i < N → m 25 i = y_T D N H x v k 5 i) ∧ k_ga D (y_T D N H x v) r k = true) (body := fun K y1 y2 m => wp_X2_readingsHoldWith_19_b K (nI v) (nI L) y1 y2 m Q) rfl ⟨rfl, hf, hO2, fun i hi => by rw [r5 i hi]; rfl, rfl⟩ (fun k hk y m hP K hK => ?_)
  obtain ⟨rfl, p1, p2, p3, p4⟩ := hP
  have hxk := y_xn_lt hx k
  have hWk : y_W (y_T D N H x v k) N H (y_xn H x k) v r f := y_run_W hWv hx k
  have lv := fun k => y_run_lv (D := y_dv D v) (N := N) (H := H) (x := x) (s := v) hN1 k
  have eT : ∀ k j, (1 ≤ j ∧ j ≤ 4) ∨ j = 9 ∨ 11 ≤ j → y_T D N H x v k j = D j := fun k j hj => ((lv k).2.1 j hj).trans (y_dv_o (by omega))
  unfold wp_X2_readingsHoldWith_19_b
  rw [nI_ltI (by omega) (by omega), nI_clamp (by omega)]
  refine ⟨fun c => ?_, fun c => ⟨in_nI (by omega) (by omega), ?_⟩⟩
  · have hkL : k = L := by omega
    subst hkL
    have hq := h m p1
    have g100 := k_ga_up p4 hL2 hL1 (100 - k) (by omega)
    rw [show k + (100 - k) = 100 by omega] at g100
    rw [if_pos g100] at hq
    exact hq
  have ej : ∀ l, l < 5 → m (35 + y_xn H x k) l = D 11 (5 * y_xn H x k + l) := fun l hl => by rw [p1 _ (by omega)]; exact hC.2.2.2.2.1 _ l (by omega) hl
  obtain ⟨hO, hI, hr, ho, hn⟩ := v5 _ hxk
  have hR : z_RG N (m2 21) (m2 22) (m2 24) (m 25) := by
    have h1 := hWk.2.2.1
    rw [eT k 1 (by omega), eT k 2 (by omega), eT k 4 (by omega)] at h1
    exact z_RG_cg r1 r2 r4 p3 h1
  refine p_moveWater q_WB16 p2 rfl rfl hN1 hR v4 hO hI (ej 0 (by omega)) (ej 3 (by omega)) (ej 2 (by omega)) hr hsh (al_hr (by omega)) (by omega) ?_
  have hO3 := z_WO_M2 (z_move N (m2 21) (m2 22) (m2 24) (D 9) (D 11 (5 * y_xn H x k + 0)) (D 11 (5 * y_xn H x k + 3)) (z_rn (D 11 (5 * y_xn H x k + 2)) (nI v)) (m 25, m 29)) p2
  have w3 : ∀ i, i < N → (z_move N (m2 21) (m2 22) (m2 24) (D 9) (D 11 (5 * y_xn H x k + 0)) (D 11 (5 * y_xn H x k + 3)) (z_rn (D 11 (5 * y_xn H x k + 2)) (nI v)) (m 25, m 29)).1 i = y_T D N H x v (k + 1) 5 i := by
    intro i hi
    rw [y_T_5 hN1]
    exact z_move_cg hN1 r1 r2 r4 p3 i hi
  have hz : z_M2 m (16 + 9) (16 + 13) (z_move N (m2 21) (m2 22) (m2 24) (D 9) (D 11 (5 * y_xn H x k + 0)) (D 11 (5 * y_xn H x k + 3)) (z_rn (D 11 (5 * y_xn H x k + 2)) (nI v)) (m 25, m 29)) 25 = (z_move N (m2 21) (m2 22) (m2 24) (D 9) (D 11 (5 * y_xn H x k + 0)) (D 11 (5 * y_xn H x k + 3)) (z_rn (D 11 (5 * y_xn H x k + 2)) (nI v)) (m 25, m 29)).1 := z_M2_1 (by omega) _
  have fr : ∀ q, q < 16 ∨ 30 < q → z_M2 m (16 + 9) (16 + 13) (z_move N (m2 21) (m2 22) (m2 24) (D 9) (D 11 (5 * y_xn H x k + 0)) (D 11 (5 * y_xn H x k + 3)) (z_rn (D 11 (5 * y_xn H x k + 2)) (nI v)) (m 25, m 29)) q = mem q := fun q hq => by rw [z_M2_n (by omega) (by omega)]; exact p1 q hq
  generalize z_move N (m2 21) (m2 22) (m2 24) (D 9) (D 11 (5 * y_xn H x k + 0)) (D 11 (5 * y_xn H x k + 3)) (z_rn (D 11 (5 * y_xn H x k + 2)) (nI v)) (m 25, m 29) = mv at *
  generalize z_M2 m (16 + 9) (16 + 13) mv = m3 at *
  have w4 : ∀ i, i < N → m3 25 i = y_T D N H x v (k + 1) 5 i := fun i hi => by rw [hz]; exact w3 i hi
  refine p_hb (by rw [fr 0 (by omega)]; exact hC.1.2.1.trans e1) hxk g1 ?_
  have hR3 : z_RG N (m2 21) (m2 22) (m2 24) (m3 25) := by
    have h1 := (y_run_W hWv hx (k + 1)).2.2.1
    have h2 : z_RG N (y_T D N H x v (k + 1) 1) (y_T D N H x v (k + 1) 2) (y_T D N H x v (k + 1) 4) (y_T D N H x v (k + 1) 5) := h1
    rw [eT (k + 1) 1 (by omega), eT (k + 1) 2 (by omega), eT (k + 1) 4 (by omega)] at h2
    exact z_RG_cg r1 r2 r4 w4 h2
  refine p_holdB (w := y_T D N H x v (k + 1) 5) (fun i j hi hj => by rw [fr _ (by omega)]; exact hC.2.2.2.2.2 i j hi hj) (by rw [fr 0 (by omega)]; exact hC.1.2.2.2.2.1.trans e4) hW hO3 r1 r4 w4 hR3 (fun u => b_n1 ?_) (fun u => b_n0 ?_)
  · rintro x4 rfl
    rw [nI_1]
    exact hK _ _ (by omega) ⟨rfl, fr, hO3, w4, by rw [k_ga, p4, u]; rfl⟩
  · have hq := h m3 fr
    rw [k_ga_f u (show k < 100 by omega), if_neg (by decide)] at hq
    exact hq

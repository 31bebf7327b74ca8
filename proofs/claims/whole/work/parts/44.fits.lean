theorem p_trial {m D E : q_Mem} {N H x s r f v : Nat} {K73 : Int32 → Int32 → q_Mem → Prop} {x1 x3 : Int32} {Q : Int32 → q_Mem → Prop} (hM : y_M m E) (hW : y_W D N H x s r f) (hN1 : 1 ≤ N) (hx : x < H) (hv2 : v ≤ 10) (hs : y_sm D E) (hv : E 0 13 = nI v) (ha : ∀ r i, r < 8 → i < 6 → m 87 (6 * r + i) = D (1 + r) i) (h : ∀ m' E', y_M m' E' → y_sm D E' → E' 0 13 = nI v → m' 87 = m 87 → m' 92 = m 92 → y_lo m m' → K73 (x3 ||| (if k_ga D (y_T D N H x v) r 100 = true then (1 : Int32) <<< (nI v &&& 31) else 0)) (nI (v + 1)) m') : wp_X3_fits_92 K73 x1 (nI x) x3 (nI v) (1 : Int32) (1 : Int32) m Q := by
  have hWE := hW.sm hs hv hv2
  have lvT := fun k => y_run_lv (D := y_dv D v) (N := N) (H := H) (x := x) (s := v) hN1 k
  have eT : ∀ k j, (1 ≤ j ∧ j ≤ 4) ∨ j = 9 ∨ 11 ≤ j → y_T D N H x v k j = D j := fun k j hj => ((lvT k).2.1 j hj).trans (y_dv_o (by omega))
  unfold wp_X3_fits_92
  refine w_rl2 100 (fun k => nI (k + 1)) (fun k y m' => y = (if k_ga D (y_T D N H x v) r k = true then 1 else 0) ∧ ∃ F, y_M m' F ∧ y_W F N H (y_xn H x k) v r f ∧ y_lv N E F ∧ (∀ i, i < N → F 5 i = y_T D N H x v k 5 i) ∧ m' 87 = m 87 ∧ m' 92 = m 92 ∧ y_lo m m') (body := fun K y1 y2 m' => wp_X3_fits_92_b K73 K x1 (nI x) x3 (nI v) y1 y2 m' Q) rfl ⟨rfl, E, hM, hWE, y_lv.rf _ _, fun i hi => by rw [hs.2.1 5 (by decide) (by decide)]; rfl, rfl, rfl, y_lo.rf _⟩ (fun k hk y m' hP K hK => ?_)
  obtain ⟨hy, F, hMF, hWF, hlF, hF5, f87, f92, hlo⟩ := hP
  have hxk := y_xn_lt hx k
  have ha' : ∀ r i, r < 8 → i < 6 → m' 87 (6 * r + i) = D (1 + r) i := fun r i hr hi => by rw [f87]; exact ha r i hr hi
  have back : ∀ s2 : Int32, s2 = (if k_ga D (y_T D N H x v) r 100 = true then (1 : Int32) <<< (nI v &&& 31) else 0) → wp_X3_fits_207 K73 x1 (nI x) (nI v) s2 x3 m' Q := by
    intro s2 h2
    refine p_back hMF hW hlF hs hv ha' (fun m2 E2 b1 b2 b3 b4 b5 b6 => ?_)
    rw [h2]
    exact h m2 E2 b1 b2 b3 (b4.trans f87) (b5.trans f92) (hlo.tr b6)
  unfold wp_X3_fits_92_b wp_X3_fits_193
  rw [z_lit 100, nI_ltI (by omega) (by omega)]
  by_cases g : k_ga D (y_T D N H x v) r k = true
  · rw [if_pos g] at hy
    subst hy
    refine ⟨fun c => b_1 (back _ ?_), fun c => b_1 ?_⟩
    · have hk100 : k = 100 := by omega
      subst hk100
      rw [if_pos g]
    refine s_M hMF hWF hN1 hxk (fun m2 h2 f2 => ?_)
    have hlo2 : y_lo m m2 := fun q hq => by rw [f2 q (by omega)]; exact hlo q hq
    have hl2 : y_lv N E (y_nx (y_st F N (y_xn H x k) (nI v)) (if y_xn H x k + 1 < H then y_xn H x k + 1 else 0)) := hlF.st hN1
    have eF : ∀ j, (1 ≤ j ∧ j ≤ 4) ∨ j = 9 ∨ 11 ≤ j → F j = D j := fun j hj => (hlF.2.1 j hj).trans (hs.2.1 j (by omega) (by omega))
    have eF2 : ∀ j, (1 ≤ j ∧ j ≤ 4) ∨ j = 9 ∨ 11 ≤ j → y_nx (y_st F N (y_xn H x k) (nI v)) (if y_xn H x k + 1 < H then y_xn H x k + 1 else 0) j = D j := fun j hj => (hl2.2.1 j hj).trans (hs.2.1 j (by omega) (by omega))
    have hx1 : (if y_xn H x k + 1 < H then y_xn H x k + 1 else 0) < H := by split <;> omega
    have hW2 := (hWF.st hxk hWF.sh).nx (y := if y_xn H x k + 1 < H then y_xn H x k + 1 else 0) (Or.inr hx1)
    have h5 : ∀ i, i < N → y_nx (y_st F N (y_xn H x k) (nI v)) (if y_xn H x k + 1 < H then y_xn H x k + 1 else 0) 5 i = y_T D N H x v (k + 1) 5 i := by
      intro i hi
      rw [y_T_5 hN1]
      unfold y_nx
      rw [q_set_n (by decide), y_st_5]
      unfold y_p z_hp
      rw [eF 1 (by omega), eF 2 (by omega), eF 4 (by omega), eF 9 (by omega), eF 11 (by omega)]
      exact z_move_cg hN1 (fun _ _ => rfl) (fun _ _ => rfl) (fun _ _ => rfl) hF5 i hi
    refine p_hold3 (w := y_T D N H x v (k + 1) 5) h2 hW hW2 eF2 h5 ?_
    refine hK _ _ (by omega) ⟨?_, _, h2, hW2, hl2, h5, by rw [f2 87 (by omega)]; exact f87, by rw [f2 92 (by omega)]; exact f92, hlo2⟩
    rw [k_ga, g, Bool.true_and]
  · rw [if_neg g] at hy
    subst hy
    have g2 : k_ga D (y_T D N H x v) r 100 = false := by
      have := k_ga_mono (Bool.eq_false_iff.mpr g) (100 - k)
      rw [show k + (100 - k) = 100 by omega] at this
      exact this
    have b0 := back 0 (by rw [g2]; rfl)
    exact ⟨fun c => b_ht rfl b0, fun c => b_ht rfl (b_ht rfl b0)⟩

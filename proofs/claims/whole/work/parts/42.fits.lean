/-! ===== fits: the reference ===== -/
theorem k_ga_mono {D : q_Mem} {T : Nat → q_Mem} {r k : Nat} (h : k_ga D T r k = false) : ∀ j, k_ga D T r (k + j) = false
  | 0 => h
  | j + 1 => by
    show k_ga D T r (k + j + 1) = false
    rw [k_ga, k_ga_mono h j, Bool.false_and]
theorem k_hd_cg {D : q_Mem} {N H x s r f b : Nat} {w w' : Nat → Int32} (hW : y_W D N H x s r f) (hw : ∀ i, i < N → w i = w' i) : ∀ k, k ≤ r → k_hd D w b k = k_hd D w' b k
  | 0, _ => rfl
  | k + 1, hk => by
    obtain ⟨l, b', l1, l2, -⟩ := hW.2.2.2.2.2.2.2 k (by omega)
    have hN := hW.2.2.1.1
    have hl : (D 16 k).toNatClampNeg = l := by rw [l1, nI_clamp (by omega)]
    have e : k_h1 D w b k = k_h1 D w' b k := by
      unfold k_h1
      rw [hl, z_dm_cg (ro' := D 1) (cu' := D 4) (wa' := w') rfl rfl (hw l l2)]
    rw [k_hd, k_hd, k_hd_cg hW hw k (by omega), e]
/-- all readings of an hour -/
theorem p_hold3 {mem D F : q_Mem} {N H x s s' r f b k' : Nat} {w : Nat → Int32} {K73 K92 : Int32 → Int32 → q_Mem → Prop} {x1 x2 x3 x4 : Int32} {Q : Int32 → q_Mem → Prop} (hM : y_M mem F) (hW : y_W D N H x s r f) (hF : y_W F N H k' s' r f) (eF : ∀ j, (1 ≤ j ∧ j ≤ 4) ∨ j = 9 ∨ 11 ≤ j → F j = D j) (hw : ∀ i, i < N → F 5 i = w i) (h : K92 (if k_hd D w b r = true then 1 else 0) (nI (b + 1)) mem) : wp_X3_fits_111 K73 K92 x1 x2 x3 x4 (1 : Int32) (nI b) (0 : Int32) mem Q := by
  obtain ⟨⟨e0, e1, e2, e3, e4, e5⟩, ⟨g1, g2, g3, g4, g5⟩, v1, v2, v3, v4, v5, v6⟩ := id hW
  have hN := v1.1
  have m88 : mem 88 = D 16 := (hM.2.2.2.2.2 0 (by omega)).trans (eF 16 (by omega))
  have m89 : mem 89 = D 17 := (hM.2.2.2.2.2 1 (by omega)).trans (eF 17 (by omega))
  have m90 : mem 90 = D 18 := (hM.2.2.2.2.2 2 (by omega)).trans (eF 18 (by omega))
  have m91 : mem 91 = D 19 := (hM.2.2.2.2.2 3 (by omega)).trans (eF 19 (by omega))
  have n19 : mem 72 19 = nI r := hM.1.2.2.2.2.1.trans hF.1.2.2.2.2.1
  unfold wp_X3_fits_111
  refine w_rl2 r nI (fun k y m => m = mem ∧ y = (if k_hd D w b k = true then 1 else 0)) (body := fun K y1 y2 m => wp_X3_fits_111_b K73 K92 K x1 x2 x3 x4 y1 (nI b) y2 m Q) nI_0.symm ⟨rfl, rfl⟩ (fun k hk y m hP K hK => ?_)
  obtain ⟨hm, hy⟩ := hP
  subst hm
  unfold wp_X3_fits_111_b wp_X3_fits_187 wp_X3_fits_178 wp_X3_fits_179 wp_X3_fits_181
  rw [n19, z_nle2 (by omega) (by omega), show q_al 88 = 12 from rfl, show q_al 89 = 12 from rfl, show q_al 90 = 12 from rfl, show q_al 91 = 12 from rfl, nI_clamp (by omega), m88, m89]
  refine ⟨fun c => ?_, fun c => ?_⟩
  · rintro x6 rfl
    rw [nI_1, hy, show k = r by omega]
    exact h
  have hkr : k < r := by omega
  have hin : vp_in (nI k) 12 := in_nI (by omega) (by omega)
  obtain ⟨l, b', l1, l2, b1, b2, b3⟩ := v6 k hkr
  have hl : (D 16 k).toNatClampNeg = l := by rw [l1, nI_clamp (by omega)]
  have fin : ∀ y' : Int32, y' = (if k_hd D w b (k + 1) = true then 1 else 0) → ∀ x7 : Int32, x7 = nI k + 1 → K y' x7 m := by
    rintro y' hy' x7 rfl
    rw [nI_1]
    exact hK _ _ hkr ⟨rfl, hy'⟩
  rw [k_hd] at fin
  unfold k_h1 at fin
  rw [hl] at fin
  refine ⟨hin, fun d => fin y ?_, fun d => ⟨hin, ?_⟩⟩
  · rw [hy, decide_eq_true d, Bool.true_or, Bool.and_true]
  rw [decide_eq_false (fun z => z d), Bool.false_or] at fin
  rw [l1]
  have hLF := (hF.2.2.1.2.1 l l2)
  refine p_damp (hM.MO hF.1.1) (hM.2.1 4 (by omega)) (by rw [eF 9 (by omega)]; exact v4) (by omega) hLF ?_
  have ed : z_dm (F 9) (F 1) (F 4) (F 5) l = z_dm (D 9) (D 1) (D 4) w l := by rw [eF 9 (by omega), eF 1 (by omega), eF 4 (by omega)]; exact z_dm_cg rfl rfl (hw l l2)
  rw [ed, m90, m91]
  by_cases z : k_hd D w b k = true
  · rw [if_pos z] at hy
    subst hy
    refine b_1 ⟨hin, fun u => fin 0 ?_, fun u => ⟨hin, fun u2 => fin 0 ?_, fun u2 => fin 1 ?_⟩⟩
    · rw [z_lt] at u
      rw [decide_eq_false (show ¬ (D 18 k).toInt ≤ (z_dm (D 9) (D 1) (D 4) w l).toInt by omega), Bool.false_and, Bool.and_false]; rfl
    · rw [z_lt] at u2
      rw [decide_eq_false (show ¬ (z_dm (D 9) (D 1) (D 4) w l).toInt ≤ (D 19 k).toInt by omega), Bool.and_false, Bool.and_false]; rfl
    · rw [z_lt] at u u2
      rw [z, decide_eq_true (show (D 18 k).toInt ≤ (z_dm (D 9) (D 1) (D 4) w l).toInt by omega), decide_eq_true (show (z_dm (D 9) (D 1) (D 4) w l).toInt ≤ (D 19 k).toInt by omega)]; rfl
  · rw [if_neg z] at hy
    subst hy
    refine b_ht rfl (fin 0 ?_)
    rw [Bool.eq_false_iff.mpr z, Bool.false_and]; rfl

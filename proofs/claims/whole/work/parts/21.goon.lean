/-! ===== the reference: one layer's warmth, frost, mould ===== -/
theorem z_a0 (x : Int32) : x + 0 = x := Int32.add_zero x
theorem upd_self {f : Nat → Int32} {k : Nat} {x : Int32} (h : f k = x) : upd f k x = f := by
  funext j
  unfold upd
  by_cases e : j = k
  · rw [if_pos e, e, h]
  · rw [if_neg e]
theorem upd_upd (f : Nat → Int32) (k : Nat) (x y : Int32) : upd (upd f k x) k y = upd f k y := by
  funext j
  unfold upd
  by_cases e : j = k
  · rw [if_pos e, if_pos e]
  · rw [if_neg e, if_neg e, if_neg e]
theorem p_goOn_297 {K : Int32 → q_Mem → Prop} {x4 x5 x6 : Int32} {i : Nat} {mem : q_Mem} {fr mo wm : Nat → Int32} {Q : q_Mem → Prop} (g : Prop) [Decidable g] {dl : Int32} (hdl : dl = if g then 1 else -1) (hi : i < 6) (hm : 0 ≤ (mo i).toInt ∧ (mo i).toInt ≤ 1000) (h : K (nI (i + 1)) (z_M3 mem 78 79 80 (fr, upd mo i (z_mo (mo i) g), wm))) : wp_X3_goOn_297 K x4 x5 x6 (nI i) dl (mo i) (nI i) (z_M3 mem 78 79 80 (fr, mo, wm)) Q := by
  have hcl : (nI i).toNatClampNeg = i := nI_clamp (by omega)
  have a79 : q_al 79 = 6 := rfl
  have hin : vp_in (nI i) 6 := in_nI hi (by omega)
  unfold wp_X3_goOn_297 wp_X3_goOn_345
  simp only [hcl, a79, hin, true_and]
  rintro m rfl
  rw [z_M3_2 (by decide), z_M3_s2 (by decide), z_M3_2 (by decide)]
  simp only [upd_s]
  have fin : ∀ v : Int32, v = z_mo (mo i) g → ∀ m_2 : q_Mem, m_2 = q_set (z_M3 mem 78 79 80 (fr, upd mo i (mo i + dl), wm)) 79 (upd (upd mo i (mo i + dl)) i v) → ∀ x7_3 : Int32, x7_3 = nI i + (1 : Int32) → K x7_3 m_2 := by
    rintro v rfl m rfl x rfl
    rw [z_M3_s2 (by decide), upd_upd, nI_1]
    exact h
  have a1 : (mo i + 1).toInt = (mo i).toInt + 1 := z_add (by rw [t_1]; omega) (by rw [t_1]; omega)
  have a2 : (mo i - 1).toInt = (mo i).toInt - 1 := z_sub (by rw [t_1]; omega) (by rw [t_1]; omega)
  have a3 : mo i + (-1 : Int32) = mo i - 1 := z_subneg (mo i) 1
  unfold z_mo at fin
  by_cases c : g
  · rw [if_pos c] at hdl
    subst hdl
    simp only [if_pos c] at fin
    refine ⟨fun d => ⟨fun e => ?_, fun e => ?_⟩, fun d => ?_⟩
    · exact fin _ (by rw [if_neg (fun z => by rw [z_le] at e; rw [z_lt] at z; omega)])
    · exact fin _ (by rw [if_pos (by rw [z_lt]; exact z_nle e)])
    · exact absurd (z_le.mpr (by rw [t_0, a1]; omega)) d
  · rw [if_neg c] at hdl
    subst hdl
    simp only [if_neg c] at fin
    rw [a3] at fin ⊢
    refine ⟨fun d => ⟨fun e => ?_, fun e => ?_⟩, fun d => ?_⟩
    · exact fin _ (by rw [if_neg (fun z => by rw [z_le] at d; rw [z_lt] at z; omega)])
    · exact absurd (z_le.mpr (by rw [t_1000, a2]; omega)) e
    · exact fin _ (by rw [if_pos (by rw [z_lt]; exact z_nle d)])
theorem p_goOn_247 {K : Int32 → q_Mem → Prop} {x4 x5 x6 : Int32} {i N : Nat} {mem : q_Mem} {ro st cu co wa fr mo wm : Nat → Int32} {Q : q_Mem → Prop} {add : Int32} (hM : z_MO mem N ro st cu co) (hw : mem 77 = wa) (hC : z_CR co) (hL : z_LR ro cu wa i) (hi : i < 6) (hm : 0 ≤ (mo i).toInt ∧ (mo i).toInt ≤ 1000) (h : K (nI (i + 1)) (z_M3 mem 78 79 80 (upd fr i (fr i + add), upd mo i (z_mo (mo i) (¬ z_dm co ro cu wa i < 800 ∧ ¬ wm i < 5)), wm))) : wp_X3_goOn_247 K x4 x5 x6 (nI i) add (fr i) (nI i) (z_M3 mem 78 79 80 (fr, mo, wm)) Q := by
  have hcl : (nI i).toNatClampNeg = i := nI_clamp (by omega)
  have a78 : q_al 78 = 6 := rfl
  have a80 : q_al 80 = 6 := rfl
  have a79 : q_al 79 = 6 := rfl
  have hin : vp_in (nI i) 6 := in_nI hi (by omega)
  unfold wp_X3_goOn_247
  simp only [hcl, a78, a80, hin, true_and]
  rintro m rfl
  rw [z_M3_1 (by decide) (by decide), z_M3_s1 (by decide) (by decide)]
  refine p_damp (z_MO_M3 _ hM) (by rw [z_M3_n (by decide) (by decide) (by decide)]; exact hw) hC hi hL ?_
  rw [z_M3_3]
  unfold wp_X3_goOn_276 wp_X3_goOn_277
  simp only [hcl, a79, hin, true_and, z_M3_2 (show (79 : Nat) ≠ 80 by decide)]
  have n1 : ¬ (1 : Int32) = 0 := by decide
  refine ⟨fun c => ⟨fun _ => ?_, fun z => absurd trivial z⟩, fun c => ⟨fun d => ⟨fun _ => ?_, fun z => absurd trivial z⟩, fun d => ⟨fun z => absurd z n1, fun _ => ?_⟩⟩⟩
  · exact p_goOn_297 (¬ z_dm co ro cu wa i < 800 ∧ ¬ wm i < 5) (by rw [if_neg (fun z => z.1 c)]) hi hm h
  · exact p_goOn_297 (¬ z_dm co ro cu wa i < 800 ∧ ¬ wm i < 5) (by rw [if_neg (fun z => z.2 d)]) hi hm h
  · exact p_goOn_297 (¬ z_dm co ro cu wa i < 800 ∧ ¬ wm i < 5) (by rw [if_pos ⟨c, d⟩]) hi hm h
theorem p_goOn_153 {N : Nat} {o n : Int32} {mem : q_Mem} {ro st cu co wa he : Nat → Int32} {t : z_Tr} {Q : q_Mem → Prop} (hM : z_MO mem N ro st cu co) (hw : mem 77 = wa) (hhe : mem 75 = he) (hR : z_RG N ro st cu wa) (hH : ∀ i, i < N → 1 ≤ (he i).toInt ∧ (he i).toInt ≤ 50) (hC : z_CR co) (hm : z_MR N t.2.1) (h : wp_X3_goOn_352 (z_M3 mem 78 79 80 (z_feel N ro he wa (z_dm co ro cu wa) o n t N)) Q) : wp_X3_goOn_153 o n ((4 : Int32) + (2 : Int32) * z_sm he N) (0 : Int32) (z_M3 mem 78 79 80 t) Q := by
  obtain ⟨hN, hL, hS⟩ := id hR
  have hpos : 0 < ((4 : Int32) + (2 : Int32) * z_sm he N).toInt := by
    have a := z_sm_rng hH hN N (Nat.le_refl _)
    have e : ((2 : Int32) * z_sm he N).toInt = 2 * (z_sm he N).toInt := z_mul (by rw [t_2]; omega) (by rw [t_2]; omega)
    rw [z_add (by rw [e, t_4]; omega) (by rw [e, t_4]; omega), e, t_4]
    omega
  have ehe : ∀ u : z_Tr, z_M3 mem 78 79 80 u 75 = he := fun u => by rw [z_M3_n (by decide) (by decide) (by decide)]; exact hhe
  have ewa : ∀ u : z_Tr, z_M3 mem 78 79 80 u 77 = wa := fun u => by rw [z_M3_n (by decide) (by decide) (by decide)]; exact hw
  unfold wp_X3_goOn_153
  refine w_lp1 N (fun _ => True) nI (fun k => z_M3 mem 78 79 80 (z_feel N ro he wa (z_dm co ro cu wa) o n t k)) (body := fun K y m => wp_X3_goOn_153_b K o n ((4 : Int32) + (2 : Int32) * z_sm he N) y m Q) trivial nI_0.symm rfl (fun k hk _ K hK => ?_)
  have hM2 := z_MO_M3 (z_feel N ro he wa (z_dm co ro cu wa) o n t k) hM
  unfold wp_X3_goOn_153_b
  rw [hM2.1, z_nle2 (by omega) (by omega)]
  refine ⟨fun c => by rw [show k = N by omega]; exact h, fun c => ?_⟩
  have hk6 : k < 6 := by omega
  have hcl : (nI k).toNatClampNeg = k := nI_clamp (by omega)
  have hin : vp_in (nI k) 6 := in_nI hk6 (by omega)
  have a75 : q_al 75 = 6 := rfl
  have a80 : q_al 80 = 6 := rfl
  have a78 : q_al 78 = 6 := rfl
  have a77 : q_al 77 = 6 := rfl
  have a73 : q_al 73 = 6 := rfl
  refine p_heatOf (by omega) ?_
  rw [ehe]
  simp only [hcl, a75, a80, a78, a77, a73, hin, true_and]
  refine p_floor hpos ?_
  have hmr := z_feel_MR (ro := ro) (he := he) (wa := wa) (dm := z_dm co ro cu wa) (o := o) (n := n) hm k
  generalize hu : z_feel N ro he wa (z_dm co ro cu wa) o n t k = u at *
  obtain ⟨fr, mo, wm⟩ := u
  rintro m rfl
  rw [z_M3_3, z_M3_s3, z_M3_3, z_M3_1 (by decide) (by decide), ewa, (z_MO_M3 _ hM).2.1]
  simp only [upd_s]
  have hK2 := hK (by omega) trivial
  have e : z_feel N ro he wa (z_dm co ro cu wa) o n t (k + 1) = z_fe N ro he wa (z_dm co ro cu wa) o n k (fr, mo, wm) := by rw [z_feel, hu]
  rw [e] at hK2
  unfold z_fe at hK2
  have key : ∀ add : Int32, upd fr k (fr k + add) = (if ¬ 0 ≤ z_wv N he o n k ∧ ¬ (10 : Int32) * wa k ≤ (9 : Int32) * ro k then upd fr k (fr k + 1) else fr) → wp_X3_goOn_247 K o n ((4 : Int32) + (2 : Int32) * z_sm he N) (nI k) add (fr k) (nI k) (z_M3 mem 78 79 80 (fr, mo, upd wm k (z_wv N he o n k))) Q := fun add ea => by
    refine p_goOn_247 hM hw hC (hL k (by omega)) hk6 (hmr k (by omega)) ?_
    rw [ea]
    simp only [upd_s]
    exact hK2
  unfold wp_X3_goOn_246
  refine ⟨fun c1 => ?_, fun c1 => ⟨fun c2 => ?_, fun c2 => ?_⟩⟩
  · exact key 0 (by rw [if_neg (fun z => z.1 c1), z_a0, upd_self rfl])
  · exact key 0 (by rw [if_neg (fun z => z.2 c2), z_a0, upd_self rfl])
  · exact key 1 (by rw [if_pos ⟨c1, c2⟩])
/-! ===== the reference: one hour ===== -/
theorem p_goOn_94 {N w : Nat} {mem : q_Mem} {ro st cu co : Nat → Int32} {dO dI : Int32} {p : (Nat → Int32) × (Nat → Int32)} {Q : q_Mem → Prop} (hM : z_MO mem N ro st cu co) (hR : z_RG N ro st cu p.1) (hC : z_CR co) (hO : z_D dO) (hI : z_D dI) (eO : mem 83 w = dO) (eI : mem 83 (w + 3) = dI) (hw3 : w + 3 < 120) (h : wp_X3_goOn_116 (nI w) (z_M2 mem 77 82 (z_all N ro st cu co dO dI p (N + 1))) Q) : wp_X3_goOn_94 (nI w) (0 : Int32) (z_M2 mem 77 82 p) Q := by
  obtain ⟨hN, -, -⟩ := id hR
  unfold wp_X3_goOn_94
  refine w_lp1 (N + 1) (fun _ => True) nI (fun k => z_M2 mem 77 82 (z_all N ro st cu co dO dI p k)) (body := fun K y m => wp_X3_goOn_94_b K (nI w) y m Q) trivial nI_0.symm rfl (fun k hk _ K hK => ?_)
  have hM2 := z_MO_M2 (z_all N ro st cu co dO dI p k) hM
  unfold wp_X3_goOn_94_b
  rw [hM2.1]
  have hlt : nI N < nI k ↔ N < k := nI_ltI (by omega) (by omega)
  rw [hlt]
  refine ⟨fun c => by rw [show k = N + 1 by omega]; exact h, fun c => ?_⟩
  refine p_cross hM2 (z_M2_1 (by decide) _) (z_M2_2 _ _ _ _) (z_all_RG hR hC hO hI k hk) hC hO hI (by rw [z_M2_n (by decide) (by decide)]; exact eO) (by rw [z_M2_n (by decide) (by decide)]; exact eI) hw3 (by omega) ?_
  rintro x rfl
  rw [nI_1]
  have hK2 := hK (by omega) trivial
  have e : q_set (q_set (z_M2 mem 77 82 (z_all N ro st cu co dO dI p k)) 77 (z_cross N ro st cu co dO dI k ((z_all N ro st cu co dO dI p k).1, (z_all N ro st cu co dO dI p k).2)).1) 82 (z_cross N ro st cu co dO dI k ((z_all N ro st cu co dO dI p k).1, (z_all N ro st cu co dO dI p k).2)).2 = z_M2 mem 77 82 (z_all N ro st cu co dO dI p (k + 1)) := z_M2_M2 (by decide) _ _
  rw [e]
  exact hK2

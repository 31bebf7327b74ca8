/-! ===== fits: the readings ===== -/
def k_h1 (D : q_Mem) (w : Nat → Int32) (b i : Nat) : Bool := decide (¬ D 17 i = nI b) || (decide ((D 18 i).toInt ≤ (z_dm (D 9) (D 1) (D 4) w (D 16 i).toNatClampNeg).toInt) && decide ((z_dm (D 9) (D 1) (D 4) w (D 16 i).toNatClampNeg).toInt ≤ (D 19 i).toInt))
def k_hd (D : q_Mem) (w : Nat → Int32) (b : Nat) : Nat → Bool
  | 0 => true
  | k + 1 => k_hd D w b k && k_h1 D w b k
theorem k_hd_f {D : q_Mem} {w : Nat → Int32} {b k : Nat} (h : k_h1 D w b k = false) : ∀ {r : Nat}, k < r → k_hd D w b r = false
  | r + 1, hk => by
    rw [k_hd]
    by_cases c : k = r
    · rw [← c, h, Bool.and_false]
    · rw [k_hd_f h (by omega), Bool.false_and]
theorem k_hd_none {D : q_Mem} {w : Nat → Int32} {b : Nat} : ∀ {r : Nat}, (∀ i, i < r → ¬ D 17 i = nI b) → k_hd D w b r = true
  | 0, _ => rfl
  | r + 1, h => by
    rw [k_hd, k_hd_none (fun i hi => h i (by omega)), Bool.true_and]
    unfold k_h1
    rw [decide_eq_true (h r (by omega)), Bool.true_or]
def k_ga (D : q_Mem) (T : Nat → q_Mem) (r : Nat) : Nat → Bool
  | 0 => true
  | b + 1 => k_ga D T r b && k_hd D (T (b + 1) 5) (b + 1) r
theorem k_ga_f {D : q_Mem} {T : Nat → q_Mem} {r k : Nat} (h : k_hd D (T (k + 1) 5) (k + 1) r = false) : ∀ {n : Nat}, k < n → k_ga D T r n = false
  | n + 1, hk => by
    rw [k_ga]
    by_cases c : k = n
    · rw [← c, h, Bool.and_false]
    · rw [k_ga_f h (by omega), Bool.false_and]
theorem k_ga_up {D : q_Mem} {T : Nat → q_Mem} {r L : Nat} (h : k_ga D T r L = true) (hL : ∀ i, i < r → ∃ b, D 17 i = nI b ∧ b ≤ L) (hL2 : L ≤ 100) : ∀ j, L + j ≤ 100 → k_ga D T r (L + j) = true
  | 0, _ => h
  | j + 1, hj => by
    show k_ga D T r (L + j + 1) = true
    rw [k_ga, k_ga_up h hL hL2 j (by omega), Bool.true_and]
    refine k_hd_none (fun i hi z => ?_)
    obtain ⟨b, b1, b2⟩ := hL i hi
    rw [b1, nI_eq (by omega) (by omega)] at z
    omega
theorem p_last {mem D : q_Mem} {N H x s r f : Nat} {Q : Int32 → q_Mem → Prop} (hC : y_C mem D) (hW : y_W D N H x s r f) (h : ∀ L : Nat, L ≤ 100 → (∀ i, i < r → ∃ b, D 17 i = nI b ∧ b ≤ L) → Q (nI L) mem) : wp_X2_lastHourRead mem Q := by
  obtain ⟨⟨e0, e1, e2, e3, e4, e5⟩, ⟨g1, g2, g3, g4, g5⟩, v1, v2, v3, v4, v5, v6⟩ := id hW
  unfold wp_X2_lastHourRead wp_X2_lastHourRead_4
  refine w_rl2 r nI (fun k y m => m = mem ∧ ∃ L : Nat, y = nI L ∧ L ≤ 100 ∧ ∀ i, i < k → ∃ b, D 17 i = nI b ∧ b ≤ L) (body := fun K y1 y2 m => wp_X2_lastHourRead_4_b K y1 y2 m Q) nI_0.symm ⟨rfl, 0, nI_0.symm, by omega, fun i hi => by omega⟩ (fun k hk y m hP K hK => ?_)
  obtain ⟨hm, L, rfl, hL1, hL2⟩ := hP
  subst hm
  unfold wp_X2_lastHourRead_4_b wp_X2_lastHourRead_31
  rw [hC.1.2.2.2.2.1, e4, z_nle2 (by omega) (by omega), nI_clamp (by omega), c_1]
  refine ⟨fun c => h L hL1 (fun i hi => hL2 i (by omega)), fun c => ?_⟩
  have hkr : k < r := by omega
  obtain ⟨l, b, -, -, b1, b2, b3⟩ := v6 k hkr
  have eb : m (60 + k) 1 = nI b := (hC.2.2.2.2.2 k 1 (by omega) (by omega)).trans b1
  rw [al_rd (by omega), eb]
  refine ⟨in_nI (by omega) (by omega), vp_in_iff.mpr (by decide), ?_⟩
  rintro x1 rfl
  rintro x2 rfl
  rw [nI_1]
  by_cases d : nI L < nI b
  · rw [if_pos d]
    rw [nI_ltI (by omega) (by omega)] at d
    refine hK _ _ hkr ⟨rfl, b, rfl, b3, fun i hi => ?_⟩
    by_cases e : i = k
    · exact ⟨b, by rw [e]; exact b1, Nat.le_refl _⟩
    · obtain ⟨c, c1, c2⟩ := hL2 i (by omega)
      exact ⟨c, c1, by omega⟩
  · rw [if_neg d]
    rw [nI_ltI (by omega) (by omega)] at d
    refine hK _ _ hkr ⟨rfl, L, rfl, hL1, fun i hi => ?_⟩
    by_cases e : i = k
    · exact ⟨b, by rw [e]; exact b1, by omega⟩
    · exact hL2 i (by omega)
theorem p_holdB {mem D : q_Mem} {N H x s r f b : Nat} {ro st cu w : Nat → Int32} {Q : Int32 → q_Mem → Prop} (hCr : ∀ i j, i < 12 → j < 4 → mem (60 + i) j = D (16 + j) i) (e8 : mem 0 8 = nI r) (hW : y_W D N H x s r f) (hO : z_WO 16 mem N ro st cu (D 9)) (hr : ∀ i, i < N → ro i = D 1 i) (hc : ∀ i, i < N → cu i = D 4 i) (hw : ∀ i, i < N → mem 25 i = w i) (hR : z_RG N ro st cu (mem 25)) (h1 : k_hd D w b r = true → Q 1 mem) (h0 : k_hd D w b r = false → Q 0 mem) : wp_X2_readingsHoldBehind (nI b) mem Q := by
  obtain ⟨⟨e0, e1, e2, e3, e4, e5⟩, ⟨g1, g2, g3, g4, g5⟩, v1, v2, v3, v4, v5, v6⟩ := id hW
  have hN := v1.1
  unfold wp_X2_readingsHoldBehind wp_X2_readingsHoldBehind_2
  refine w_rl1 r nI (fun k m => m = mem ∧ k_hd D w b k = true) (body := fun K y m => wp_X2_readingsHoldBehind_2_b K (nI b) y m Q) nI_0.symm ⟨rfl, rfl⟩ (fun k hk m hP K hK => ?_)
  obtain ⟨hm, hs⟩ := hP
  subst hm
  unfold wp_X2_readingsHoldBehind_2_b wp_X2_readingsHoldBehind_48
  rw [e8, z_nle2 (by omega) (by omega), nI_clamp (by omega), c_1, c_0, c_2, c_3]
  refine ⟨fun c => ?_, fun c => ?_⟩
  · rw [show k = r by omega] at hs; exact h1 hs
  have hkr : k < r := by omega
  obtain ⟨l, b', l1, l2, b1, b2, b3⟩ := v6 k hkr
  have m0 : m (60 + k) 0 = nI l := (hCr k 0 (by omega) (by omega)).trans l1
  have m1 : m (60 + k) 1 = D 17 k := hCr k 1 (by omega) (by omega)
  have m2 : m (60 + k) 2 = D 18 k := hCr k 2 (by omega) (by omega)
  have m3 : m (60 + k) 3 = D 19 k := hCr k 3 (by omega) (by omega)
  have hl : (D 16 k).toNatClampNeg = l := by rw [l1, nI_clamp (by omega)]
  have hk1 : k_h1 D w b k = true → ∀ x : Int32, x = nI k + 1 → K x m := by
    rintro z x rfl
    rw [nI_1]
    exact hK _ hkr ⟨rfl, by rw [k_hd, hs, z]; rfl⟩
  have hk0 : k_h1 D w b k = false → Q 0 m := fun z => h0 (k_hd_f z hkr)
  unfold k_h1 at hk1 hk0
  rw [hl] at hk1 hk0
  rw [al_rd (by omega), m0, m1]
  refine ⟨in_nI (by omega) (by omega), vp_in_iff.mpr (by decide), fun d => hk1 ?_, fun d => ⟨vp_in_iff.mpr (by decide), ?_⟩⟩
  · rw [decide_eq_true d, Bool.true_or]
  refine p_dampOf q_WB16 hO rfl v4 (by omega) (hR.2.1 l l2) ?_
  rw [m2, m3]
  have ed : z_dm (D 9) ro cu (m (16 + 9)) l = z_dm (D 9) (D 1) (D 4) w l := z_dm_cg (hr l l2) (hc l l2) (hw l l2)
  rw [ed]
  rw [decide_eq_false (fun z => z d), Bool.false_or] at hk1 hk0
  refine ⟨vp_in_iff.mpr (by decide), vp_in_iff.mpr (by decide), p_wi _ _ rfl rfl (fun u => b_n0 (hk0 ?_)) (fun u => b_n1 (hk1 ?_))⟩
  · rw [Bool.and_eq_false_iff]
    by_cases z : (D 18 k).toInt ≤ (z_dm (D 9) (D 1) (D 4) w l).toInt
    · exact Or.inr (decide_eq_false (fun y => u ⟨z, y⟩))
    · exact Or.inl (decide_eq_false z)
  · rw [decide_eq_true u.1, decide_eq_true u.2]; rfl

/-! ===== the trial wall; steady ===== -/
theorem q_WB16 : q_WB 16 := Or.inr rfl
theorem q_cp0 {a b n : Nat} (ha : q_al a = n) (hb : q_al b = n) (h1 : 1 ≤ n) (h2 : n < 2147483648) : q_cp (0 : Int32) (0 : Int32) (nI n) a b := by
  unfold q_cp
  rw [ha, hb, nI_clamp h2, c_0]
  exact ⟨⟨by omega, by omega⟩, by decide, by decide, by rw [z_lt, z_nI h2, t_0]; omega, by omega, by omega⟩
theorem va_cp {f g : Nat → Int32} {n k : Nat} (h : k < n) : va_cpy f g 0 0 n k = f k := by
  unfold va_cpy
  rw [if_pos ⟨by omega, by omega⟩, Nat.zero_add, Nat.sub_zero]
def z_BA (mem m : q_Mem) : Prop := (∀ k, k < 16 ∨ 30 < k → m k = mem k) ∧ m 16 11 = mem 1 11 ∧ (∀ i, i < 6 → m 21 i = mem 6 i ∧ m 22 i = mem 7 i ∧ m 24 i = mem 9 i ∧ m 25 i = mem 10 i) ∧ ∀ c k, c < 3 → k < 5 → m (18 + c) k = mem (3 + c) k
theorem p_copyRow {a b : Nat} {mem : q_Mem} {Q : q_Mem → Prop} (ha : q_al a = 6) (hb : q_al b = 6) (h : ∀ g : Nat → Int32, (∀ i, i < 6 → g i = mem a i) → Q (q_set mem b g)) : wp_X1_copyRow a b mem Q := by
  unfold wp_X1_copyRow
  refine ⟨q_cp0 (n := 6) ha hb (by decide) (by decide), ?_⟩
  rintro m rfl
  exact h _ (fun i hi => va_cp hi)
theorem p_become {mem : q_Mem} {Q : q_Mem → Prop} (h : ∀ m, z_BA mem m → Q m) : wp_X1_becomeAs 16 1 mem Q := by
  unfold wp_X1_becomeAs wp_X1_becomeAs_2
  refine w_rl1 3 nI (fun k m => (∀ c j, c < k → j < 5 → m (18 + c) j = mem (3 + c) j) ∧ ∀ q, q < 18 ∨ 21 ≤ q → m q = mem q) (body := fun K y m => wp_X1_becomeAs_2_b K 16 1 y m Q) nI_0.symm ⟨fun c j hc => by omega, fun q _ => rfl⟩ (fun k hk m hP K hK => ?_)
  obtain ⟨h1, h2⟩ := hP
  unfold wp_X1_becomeAs_2_b
  rw [z_lit 3, z_nle2 (by omega) (by omega)]
  refine ⟨fun c => ?_, fun c => ⟨in_nI (by omega) (by omega), in_nI (by omega) (by omega), ?_⟩⟩
  rotate_left
  · rw [nI_clamp (by omega)]
    refine ⟨q_cp0 (n := 5) (al_w2 q_WB1 (by omega)) (al_w2 q_WB16 (by omega)) (by decide) (by decide), ?_⟩
    rintro m5 rfl
    rintro y rfl
    rw [nI_1]
    refine hK _ (by omega) ⟨fun x j hx hj => ?_, fun q hq => ?_⟩
    · show q_set m (18 + k) _ (18 + x) j = _
      by_cases e : x = k
      · subst e
        rw [q_set_s]
        exact (va_cp hj).trans (congrFun (h2 (3 + x) (by omega)) j)
      · rw [q_set_n (by omega)]
        exact h1 x j (by omega) hj
    · rw [q_set_n (show q ≠ 16 + 2 + k by omega)]; exact h2 q hq
  have hk3 : k = 3 := by omega
  subst hk3
  unfold wp_X1_becomeAs_31
  refine p_copyRow (al_w5 q_WB1) (al_w5 q_WB16) (fun g1 e1 => ?_)
  refine p_copyRow (al_w6 q_WB1) (al_w6 q_WB16) (fun g2 e2 => ?_)
  refine p_copyRow (al_w8 q_WB1) (al_w8 q_WB16) (fun g3 e3 => ?_)
  refine p_copyRow (al_w9 q_WB1) (al_w9 q_WB16) (fun g4 e4 => ?_)
  rintro m9 rfl
  refine h _ ⟨fun q hq => ?_, ?_, fun i hi => ⟨?_, ?_, ?_, ?_⟩, fun x j hx hj => ?_⟩
  · rw [q_set_n (by omega), q_set_n (by omega), q_set_n (by omega), q_set_n (by omega), q_set_n (by omega)]; exact h2 q (by omega)
  · rw [q_set_s, upd_s, q_set_n (by omega), q_set_n (by omega), q_set_n (by omega), q_set_n (by omega), h2 1 (by omega)]
  · rw [q_set_n (by omega), q_set_n (by omega), q_set_n (by omega), q_set_n (by omega)]
    show q_set m 21 g1 21 i = _
    rw [q_set_s, e1 i hi, h2 _ (by omega)]
  · rw [q_set_n (by omega), q_set_n (by omega), q_set_n (by omega)]
    show q_set _ 22 g2 22 i = _
    rw [q_set_s, e2 i hi, q_set_n (by omega), h2 _ (by omega)]
  · rw [q_set_n (by omega), q_set_n (by omega)]
    show q_set _ 24 g3 24 i = _
    rw [q_set_s, e3 i hi, q_set_n (by omega), q_set_n (by omega), h2 _ (by omega)]
  · rw [q_set_n (by omega)]
    show q_set _ 25 g4 25 i = _
    rw [q_set_s, e4 i hi, q_set_n (by omega), q_set_n (by omega), q_set_n (by omega), h2 _ (by omega)]
  · rw [q_set_n (by omega), q_set_n (by omega), q_set_n (by omega), q_set_n (by omega), q_set_n (by omega)]
    exact h1 x j hx hj
def z_same (f g : Nat → Int32) : Nat → Bool
  | 0 => true
  | k + 1 => z_same f g k && decide (f k = g k)
theorem z_same_cg {f g f' g' : Nat → Int32} : ∀ {N : Nat}, (∀ i, i < N → f i = f' i) → (∀ i, i < N → g i = g' i) → z_same f g N = z_same f' g' N
  | 0, _, _ => rfl
  | k + 1, h1, h2 => by rw [z_same, z_same, z_same_cg (fun i hi => h1 i (by omega)) (fun i hi => h2 i (by omega)), h1 k (by omega), h2 k (by omega)]
theorem z_same_f {f g : Nat → Int32} {k : Nat} (h : ¬ f k = g k) : ∀ {N : Nat}, k < N → z_same f g N = false
  | N + 1, hk => by
    rw [z_same]
    by_cases c : k = N
    · rw [← c, decide_eq_false h, Bool.and_false]
    · rw [z_same_f h (by omega), Bool.false_and]
theorem p_holds {mem : q_Mem} {N : Nat} {Q : Int32 → q_Mem → Prop} (hn : mem 1 11 = nI N) (hN : N ≤ 6) (h1 : z_same (mem 10) (mem 25) N = true → Q 1 mem) (h0 : z_same (mem 10) (mem 25) N = false → Q 0 mem) : wp_X1_holdsSameWaterAs 1 16 mem Q := by
  unfold wp_X1_holdsSameWaterAs wp_X1_holdsSameWaterAs_2
  refine w_rl1 N nI (fun k m => m = mem ∧ z_same (mem 10) (mem 25) k = true) (body := fun K y m => wp_X1_holdsSameWaterAs_2_b K 1 16 y m Q) nI_0.symm ⟨rfl, rfl⟩ (fun k hk m hP K hK => ?_)
  obtain ⟨hm, hs⟩ := hP
  subst hm
  unfold wp_X1_holdsSameWaterAs_2_b
  rw [hn, z_nle2 (by omega) (by omega), al_w9 q_WB1, al_w9 q_WB16, nI_clamp (by omega)]
  refine ⟨fun c => ?_, fun c => ⟨in_nI (by omega) (by omega), in_nI (by omega) (by omega), fun e => ?_, fun e => ?_⟩⟩
  · rw [show k = N by omega] at hs; exact h1 hs
  · rintro y rfl
    rw [nI_1]
    refine hK _ (by omega) ⟨rfl, ?_⟩
    rw [z_same, hs, decide_eq_true (show m 10 k = m 25 k from e)]; rfl
  · exact h0 (z_same_f e (by omega))
/-- a round of all hours -/
def y_rnd (N s : Nat) (D : q_Mem) : Nat → q_Mem
  | 0 => D
  | j + 1 => y_st (y_rnd N s D j) N j (nI s)
theorem y_rnd_W {D : q_Mem} {N H x s r f : Nat} (h : y_W D N H x s r f) : ∀ j, j ≤ H → y_W (y_rnd N s D j) N H x s r f
  | 0, _ => h
  | j + 1, hj => (y_rnd_W h j (by omega)).st (by omega) h.sh
def y_sd (N H s : Nat) : Nat → Nat → q_Mem → Int32 × q_Mem
  | 0, _, D => (-1, D)
  | n + 1, k, D => if z_same (y_rnd N s D H 5) (D 5) N = true then (nI k, y_rnd N s D H) else y_sd N H s n (k + 1) (y_rnd N s D H)
theorem p_round {mem D : q_Mem} {N H x s r f : Nat} {Q : Int32 → q_Mem → Prop} (hC : y_C mem D) (hW : y_W D N H x s r f) (hN1 : 1 ≤ N) (h : ∀ m, y_C m (y_rnd N s D H) → y_hi mem m → Q (if z_same (y_rnd N s D H 5) (D 5) N = true then 1 else 0) m) : wp_X2_roundKeepsWater mem Q := by
  obtain ⟨⟨e0, e1, e2, e3, e4, e5⟩, ⟨g1, g2, g3, g4, g5⟩, v1, -⟩ := id hW
  have hN := v1.1
  unfold wp_X2_roundKeepsWater
  refine p_become (fun m2 hb => ?_)
  have hCm : y_C m2 D := by
    have c6 : ∀ k, k < 16 ∨ 30 < k → m2 k = mem k := hb.1
    obtain ⟨⟨a1, a2, a3, a4, a5, a6⟩, b, c, d, e, f⟩ := hC
    exact ⟨⟨by rw [c6 1 (by omega)]; exact a1, by rw [c6 0 (by omega)]; exact a2, by rw [c6 0 (by omega)]; exact a3, by rw [c6 0 (by omega)]; exact a4, by rw [c6 0 (by omega)]; exact a5, by rw [c6 0 (by omega)]; exact a6⟩, fun k hk => by rw [c6 _ (by omega)]; exact b k hk, by rw [c6 _ (by omega)]; exact c, fun x k hx hk => by rw [c6 _ (by omega)]; exact d x k hx hk, fun i j hi hj => by rw [c6 _ (by omega)]; exact e i j hi hj, fun i j hi hj => by rw [c6 _ (by omega)]; exact f i j hi hj⟩
  have h25 : ∀ i, i < 6 → m2 25 i = D 5 i := fun i hi => by rw [(hb.2.2.1 i hi).2.2.2]; exact congrFun (hC.2.1 4 (by omega)) i
  have hh : y_hi mem m2 := fun k hk => hb.1 k (by omega)
  unfold wp_X2_roundKeepsWater_13
  refine w_rl1 H nI (fun k m => y_C m (y_rnd N s D k) ∧ y_hi mem m ∧ m 25 = m2 25) (body := fun K y m => wp_X2_roundKeepsWater_13_b K y m Q) nI_0.symm ⟨hCm, hh, rfl⟩ (fun k hk m hP K hK => ?_)
  obtain ⟨hCk, hhk, hk25⟩ := hP
  have hWk := y_rnd_W hW k hk
  unfold wp_X2_roundKeepsWater_13_b
  rw [hCk.1.2.1, hWk.1.2.1, z_nle2 (by omega) (by omega), nI_clamp (by omega)]
  refine ⟨fun c => ?_, fun c => ⟨in_nI (by omega) (by omega), ?_⟩⟩
  rotate_left
  · refine s_C hCk hWk hN1 (by omega) (fun m1 h1 f1 => ?_)
    rintro y rfl
    rw [nI_1]
    exact hK _ (by omega) ⟨h1, fun q hq => by rw [f1 _ (by omega)]; exact hhk q hq, by rw [f1 _ (by omega)]; exact hk25⟩
  have hkH : k = H := by omega
  subst hkH
  have es : z_same (m 10) (m 25) N = z_same (y_rnd N s D k 5) (D 5) N := z_same_cg (fun i hi => congrFun (hCk.2.1 4 (by omega)) i) (fun i hi => by rw [hk25]; exact h25 i (by omega))
  have hq := h m hCk hhk
  unfold wp_X2_roundKeepsWater_44
  refine p_holds (hCk.1.1.trans hWk.1.1) hN (fun c => ⟨by decide, ?_⟩) (fun c => ⟨by decide, ?_⟩)
  · rw [← es, if_pos c] at hq; exact hq
  · rw [← es, if_neg (by rw [c]; decide)] at hq; exact hq
theorem o_steady {a : Int32} {mem D : q_Mem} {Q : Int32 → Int32 → q_Mem → Prop} (hC : y_C mem D) (hM : y_M mem D) (hV : y_V D) (hQ : y_K Q) : wp_X2_steady a mem (fun r1 m1 => wp_X3_steady a m1 (fun r2 m2 => Q r1 r2 m2)) := by
  obtain ⟨N, H, x, s, r, f, hW⟩ := id hV
  obtain ⟨⟨e0, e1, e2, e3, e4, e5⟩, ⟨g1, g2, g3, g4, g5⟩, v1, -⟩ := id hW
  have hN := v1.1
  unfold wp_X2_steady
  refine p_wi 1 60 rfl rfl (fun c => b_n0 ?_) (fun c => b_n1 ?_)
  · unfold wp_X3_steady
    exact p_inF 1 60 rfl rfl c (b_n0 (hQ _ _ D hC hM hV))
  refine p_ncp (hC.1.1.trans e0) (hC.1.2.1.trans e1) hN g1 (fun c0 c1 => b_n0 ?_) (fun c0 => b_n1 ?_)
  rotate_left
  · unfold wp_X3_steady
    exact p_inT 1 60 rfl rfl c (b_n1 (p_mgF (hM.1.1.trans e0) (hM.1.2.1.trans e1) hN g1 c0 (b_0 (hQ _ _ D hC hM hV))))
  rw [hC.1.2.2.1, e2, z_jeq0 (by omega)]
  refine ⟨fun cx => ?_, fun cx => ?_⟩
  rotate_left
  · unfold wp_X3_steady
    refine p_inT 1 60 rfl rfl c (b_n1 (p_mgT (hM.1.1.trans e0) (hM.1.2.1.trans e1) hN g1 c0 c1 (b_1 ?_)))
    rw [hM.1.2.2.1, e2, z_jeq0 (by omega)]
    exact ⟨fun z => absurd z cx, fun _ => hQ _ _ D hC hM hV⟩
  subst cx
  obtain ⟨n, hn1, hn2, hn3⟩ := z_nat (x := a) (by omega)
  have ca := c
  rw [hn3] at c
  subst hn2
  -- behind the class: the reference
  have back : ∀ m1, y_C m1 (y_sd N H s n 1 D).2 → y_hi mem m1 → wp_X3_steady (nI n) m1 (fun r2 m2 => Q (y_sd N H s n 1 D).1 r2 m2) := by
    intro m1 hC1 hh1
    have hM1 : y_M m1 D := hM.kept hh1
    unfold wp_X3_steady
    refine p_inT 1 60 rfl rfl ca (b_n1 (p_mgT (hM1.1.1.trans e0) (hM1.1.2.1.trans e1) hN g1 c0 c1 (b_1 ?_)))
    rw [hM1.1.2.2.1, e2]
    refine ⟨fun _ => ?_, fun z => absurd nI_0 z⟩
    unfold wp_X3_steady_34
    refine w_rl1 n (fun k => nI (k + 1)) (fun k m => ∃ E, y_M m E ∧ y_W E N H 0 s r f ∧ y_lo m1 m ∧ y_sd N H s (n - k) (k + 1) E = y_sd N H s n 1 D) (body := fun K y m => wp_X3_steady_34_b K (nI n) y m _) rfl ⟨D, hM1, hW, y_lo.rf _, rfl⟩ (fun k hk m hP K hK => ?_)
    obtain ⟨E, hME, hWE, hl, hE⟩ := hP
    unfold wp_X3_steady_34_b
    rw [show (nI n < nI (k + 1)) ↔ n < k + 1 by rw [z_lt, z_nI (by omega), z_nI (by omega)]; omega]
    refine ⟨fun d => ?_, fun d => ?_⟩
    · have hk : n - k = 0 := by omega
      rw [hk] at hE
      rw [← hE]
      rw [← hE] at hC1
      exact hQ _ _ E (hC1.kept hl) hME hWE.V
    obtain ⟨n', hn'⟩ : ∃ n', n - k = n' + 1 := ⟨n - k - 1, by omega⟩
    rw [hn', y_sd] at hE
    unfold wp_X3_steady_41
    refine w_rl1 N nI (fun i m2 => y_M m2 E ∧ y_lo m1 m2 ∧ ∀ l, l < i → m2 84 l = E 5 l) (body := fun K y m => wp_X3_steady_41_b _ K (nI n) (nI (k + 1)) y m _) nI_0.symm ⟨hME, hl, fun l hl => by omega⟩ (fun i hi m2 hP2 K2 hK2 => ?_)
    obtain ⟨hM2, hl2, hb2⟩ := hP2
    have e77 : m2 77 = E 5 := hM2.2.1 4 (by omega)
    unfold wp_X3_steady_41_b
    rw [hM2.1.1, hWE.1.1, z_nle2 (by omega) (by omega), show q_al 77 = 6 from rfl, show q_al 84 = 6 from rfl, e77, nI_clamp (by omega)]
    refine ⟨fun d2 => ?_, fun d2 => ⟨in_nI (by omega) (by omega), in_nI (by omega) (by omega), ?_⟩⟩
    rotate_left
    · rintro m4 rfl
      rintro y rfl
      rw [nI_1]
      refine hK2 _ (by omega) ⟨hM2.scratch (by omega) _, hl2.set (by omega), fun l hl => ?_⟩
      rw [q_set_s]
      by_cases z : l = i
      · rw [z, upd_s]
      · rw [upd_n z]; exact hb2 l (by omega)
    have hiN : i = N := by omega
    subst hiN
    unfold wp_X3_steady_67 wp_X3_steady_69
    refine w_rl1 H nI (fun j m3 => y_M m3 (y_nx (y_rnd i s E j) (if j < H then j else 0)) ∧ y_lo m1 m3 ∧ m3 84 = m2 84) (body := fun K y m => wp_X3_steady_69_b _ K (nI n) (nI (k + 1)) y m _) nI_0.symm ⟨?_, hl2, rfl⟩ (fun j hj m3 hP3 K3 hK3 => ?_)
    · rw [if_pos (by omega)]
      show y_M m2 (y_nx E 0)
      rw [y_nx_self hWE.1.2.2.1]
      exact hM2
    obtain ⟨hM3, hl3, hb3⟩ := hP3
    have hWj := y_rnd_W hWE j hj
    unfold wp_X3_steady_69_b
    have eH : m3 72 11 = nI H := hM3.1.2.1.trans hWj.1.2.1
    rw [eH, z_nle2 (by omega) (by omega)]
    refine ⟨fun d3 => ?_, fun d3 => ?_⟩
    rotate_left
    · have hjH : j < H := by omega
      rw [if_pos hjH] at hM3
      refine s_M hM3 (hWj.nx (Or.inr hjH)) c0 hjH (fun m4 h4 f4 => ?_)
      rintro y rfl
      rw [nI_1]
      rw [y_st_nx, y_nx_nx] at h4
      exact hK3 _ (by omega) ⟨h4, fun q hq => by rw [f4 _ (by omega)]; exact hl3 q hq, by rw [f4 _ (by omega)]; exact hb3⟩
    have hjH : j = H := by omega
    subst hjH
    rw [if_neg (by omega), y_nx_self hWj.1.2.2.1] at hM3
    have e77' : m3 77 = y_rnd i s E j 5 := hM3.2.1 4 (by omega)
    unfold wp_X3_steady_87 wp_X3_steady_92
    refine w_rl2 i nI (fun l y m => m = m3 ∧ y = (if z_same (y_rnd i s E j 5) (E 5) l = true then 1 else 0)) (body := fun K x y m => wp_X3_steady_92_b _ K (nI n) (nI (k + 1)) x y m _) nI_0.symm ⟨rfl, rfl⟩ (fun l hl y m hP4 K4 hK4 => ?_)
    obtain ⟨hm, hy⟩ := hP4
    subst hm
    unfold wp_X3_steady_92_b
    have e0' : m 72 0 = nI i := hM3.1.1.trans hWj.1.1
    rw [e0', z_nle2 (by omega) (by omega), show q_al 77 = 6 from rfl, show q_al 84 = 6 from rfl, nI_clamp (by omega), e77', hb3]
    refine ⟨fun d4 => ?_, fun d4 => ?_⟩
    · have hli : l = i := by omega
      subst hli
      unfold wp_X3_steady_134 wp_X3_steady_138
      by_cases z : z_same (y_rnd l s E j 5) (E 5) l = true
      · rw [if_pos z] at hy hE
        subst hy
        refine b_1 ?_
        rw [← hE]
        rw [← hE] at hC1
        exact hQ _ _ _ (hC1.kept hl3) hM3 hWj.V
      · rw [if_neg z] at hy hE
        subst hy
        refine b_0 ?_
        rintro y rfl
        rw [nI_1]
        refine hK _ (by omega) ⟨_, hM3, hWj, hl3, ?_⟩
        rw [show n - (k + 1) = n' by omega]; exact hE
    · unfold wp_X3_steady_126 wp_X3_steady_127
      have hin : vp_in (nI l) 6 := in_nI (by omega) (by omega)
      have k0 : z_same (y_rnd i s E j 5) (E 5) (l + 1) = false → ∀ x4 : Int32, x4 = nI l + 1 → K4 0 x4 m := by
        rintro z x4 rfl
        rw [nI_1]
        exact hK4 _ _ (by omega) ⟨rfl, by rw [z]; rfl⟩
      have k1 : z_same (y_rnd i s E j 5) (E 5) (l + 1) = true → ∀ x4 : Int32, x4 = nI l + 1 → K4 1 x4 m := by
        rintro z x4 rfl
        rw [nI_1]
        exact hK4 _ _ (by omega) ⟨rfl, by rw [z]; rfl⟩
      rw [z_same] at k0 k1
      rw [hb2 l (by omega)]
      by_cases z : z_same (y_rnd i s E j 5) (E 5) l = true
      · rw [if_pos z] at hy
        subst hy
        refine b_1 ⟨hin, hin, fun u => k0 ?_, fun u => k1 ?_⟩
        · rw [decide_eq_false (fun w => u w.symm), Bool.and_false]
        · rw [z, decide_eq_true u.symm]; rfl
      · rw [if_neg z] at hy
        subst hy
        refine b_0 (k0 ?_)
        rw [Bool.eq_false_iff.mpr z]; rfl
  unfold wp_X2_steady_32
  refine w_rl1 n (fun k => nI (k + 1)) (fun k m => ∃ E, y_C m E ∧ y_W E N H 0 s r f ∧ y_hi mem m ∧ y_sd N H s (n - k) (k + 1) E = y_sd N H s n 1 D) (body := fun K y m => wp_X2_steady_32_b K (nI n) y m _) rfl ⟨D, hC, hW, y_hi.rf _, rfl⟩ (fun k hk m hP K hK => ?_)
  obtain ⟨E, hCE, hWE, hh, hE⟩ := hP
  unfold wp_X2_steady_32_b wp_X2_steady_44
  rw [show (nI n < nI (k + 1)) ↔ n < k + 1 by rw [z_lt, z_nI (by omega), z_nI (by omega)]; omega]
  refine ⟨fun d => ?_, fun d => ?_⟩
  · have hk : n - k = 0 := by omega
    rw [hk] at hE
    rw [← hE] at back
    exact back m hCE hh
  obtain ⟨n', hn'⟩ : ∃ n', n - k = n' + 1 := ⟨n - k - 1, by omega⟩
  rw [hn', y_sd] at hE
  refine p_round hCE hWE c0 (fun m3 h3 hh3 => ?_)
  by_cases z : z_same (y_rnd N s E H 5) (E 5) N = true
  · rw [if_pos z] at hE
    rw [if_pos z]
    refine b_1 ?_
    rw [← hE] at back
    exact back m3 h3 (hh.tr hh3)
  · rw [if_neg z] at hE
    rw [if_neg z]
    refine b_0 ?_
    rintro y rfl
    rw [nI_1]
    refine hK _ (by omega) ⟨_, h3, y_rnd_W hWE H (Nat.le_refl _), hh.tr hh3, ?_⟩
    rw [show n - (k + 1) = n' by omega]; exact hE

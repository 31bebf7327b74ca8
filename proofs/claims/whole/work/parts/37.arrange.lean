/-! ===== placed, arrange ===== -/
theorem k_bst_lt {N : Nat} (hN1 : 1 ≤ N) (e : Nat → Nat) : ∀ (n S j : Nat), k_ls (k_bst N e n S).2 j < N
  | 0, _, j => by
    show ([] : List Nat).getD j 0 < N
    simp; omega
  | n + 1, S, j => by
    rw [k_bst]
    cases hb : k_bb (fun T => (k_bst N e n T).1) S N with
    | none =>
      show ([] : List Nat).getD j 0 < N
      simp; omega
    | some i =>
      cases j with
      | zero => exact (k_bb_free hb).1
      | succ j => exact k_bst_lt hN1 e n (S ||| 2 ^ i) j
theorem k_bst_18 {D : q_Mem} {N H x s r f h : Nat} (hW : y_W D N H x s r f) (hh : h < H) : (k_bst N (y_en D N h) N 0).1 ≤ 18000000 := by
  have hN := hW.2.2.1.1
  have := k_bst_le (N := N) (fun S => y_enr hW hh S) N 0
  have h6 : N * 3000000 ≤ 6 * 3000000 := Nat.mul_le_mul_right _ hN
  omega
theorem o_placed {a v : Int32} {mem D : q_Mem} {Q : Int32 → Int32 → q_Mem → Prop} (hC : y_C mem D) (hM : y_M mem D) (hV : y_V D) (hQ : y_K Q) : wp_X2_placed a v mem (fun r1 m1 => wp_X3_placed a v m1 (fun r2 m2 => Q r1 r2 m2)) := by
  obtain ⟨N, H, x, s, r, f, hW⟩ := id hV
  obtain ⟨⟨e0, e1, e2, e3, e4, e5⟩, ⟨g1, g2, g3, g4, g5⟩, v1, -⟩ := id hW
  have hN := v1.1
  have q : ∀ r : Int32, Q r r mem := fun r => hQ _ _ D hC hM hV
  have mc := hM.1.1.trans e0
  have md := hM.1.2.1.trans e1
  unfold wp_X2_placed
  refine p_hrefC (hC.1.1.trans e0) (hC.1.2.1.trans e1) hN g1 (fun c => ?_) (fun c d => ?_) (fun c d => b_ht rfl ?_)
  · refine b_sk (by decide) ?_
    unfold wp_X3_placed
    exact p_hrefM mc md hN g1 (fun _ => b_sk (by decide) (q _)) (fun z _ => absurd z c) (fun z _ => absurd z c)
  · refine b_sk (by decide) ?_
    unfold wp_X3_placed
    exact p_hrefM mc md hN g1 (fun z => absurd c z) (fun _ _ => b_sk (by decide) (q _)) (fun _ z => absurd z (by omega))
  obtain ⟨h, hh1, hh2, hh3⟩ := z_nat c.1
  have hhH : h < H := by omega
  have hcl : a.toNatClampNeg = h := by rw [hh2, nI_clamp (by omega)]
  have h18 := k_bst_18 hW hhH
  refine p_hasI (hC.1.1.trans e0) hN (fun u => b_n0 ?_) (fun u => b_n1 ⟨in_int c.1 (by omega), ?_⟩)
  · unfold wp_X3_placed
    refine p_hrefM mc md hN g1 (fun z => absurd c z) (fun _ z => absurd z (by omega)) (fun _ _ => b_ht rfl ?_)
    rw [hh2]
    refine p_findBest3 hM hW d hhH (fun m2 f2 o2 => ?_)
    refine ⟨fun z => absurd z (nI_pos (by omega)), fun _ => ?_⟩
    rw [(hM.fr f2).1.1, e0]
    refine p_inF 0 ((N : Int) - 1) rfl (by rw [t64, z_nm1 (by omega)]) (by omega) (b_0 ?_)
    exact hQ _ _ D (hC.kept (fun k hk => f2 k (by omega) (by omega))) (hM.fr f2) hV
  obtain ⟨i, hi1, hi2, hi3⟩ := z_nat u.1
  have hci : v.toNatClampNeg = i := by rw [hi2, nI_clamp (by omega)]
  have hin : vp_in v 6 := in_int u.1 (by omega)
  rw [hcl]
  refine p_findBest0 hC hW d hhH (fun m1 f1 o1 => ?_)
  have hC1 : y_C m1 D := hC.fr f1
  have hM1 : y_M m1 D := hM.kept (fun k hk => f1 k (by omega) (by omega))
  rw [show q_al 33 = 6 from rfl, hci, o1 i (by omega)]
  refine ⟨hin, ?_⟩
  unfold wp_X3_placed
  refine p_hrefM (hM1.1.1.trans e0) (hM1.1.2.1.trans e1) hN g1 (fun z => absurd c z) (fun _ z => absurd z (by omega)) (fun _ _ => b_ht rfl ?_)
  rw [hh2]
  refine p_findBest3 hM1 hW d hhH (fun m2 f2 o2 => ?_)
  refine ⟨fun z => absurd z (nI_pos (by omega)), fun _ => ?_⟩
  rw [(hM1.fr f2).1.1, e0]
  refine p_inT 0 ((N : Int) - 1) rfl (by rw [t64, z_nm1 (by omega)]) (by omega) (b_1 ?_)
  rw [show q_al 86 = 6 from rfl, hci, o2 i (by omega)]
  exact ⟨hin, hQ _ _ D (hC1.kept (fun k hk => f2 k (by omega) (by omega))) (hM1.fr f2) hV⟩
/-- a row in a new order -/
def z_ra (B : Nat → Nat) (f : Nat → Int32) (k : Nat) : Nat → Int32 := fun i => if i < k then f (B i) else f i
theorem z_ra_0 (B : Nat → Nat) (f : Nat → Int32) : z_ra B f 0 = f := by funext i; exact if_neg (Nat.not_lt_zero _)
theorem z_ra_s (B : Nat → Nat) (f : Nat → Int32) (k : Nat) : upd (z_ra B f k) k (f (B k)) = z_ra B f (k + 1) := by
  funext i
  unfold z_ra
  by_cases c : i = k
  · rw [c, upd_s, if_pos (by omega)]
  · rw [upd_n c]
    by_cases d : i < k
    · rw [if_pos d, if_pos (by omega)]
    · rw [if_neg d, if_neg (by omega)]
theorem p_reorder {a N : Nat} {B : Nat → Nat} {mem : q_Mem} {Q : q_Mem → Prop} (ha : 6 ≤ a ∧ a ≤ 13) (hal : q_al a = 6) (hn : mem 1 11 = nI N) (hN : N ≤ 6) (hB : ∀ i, i < N → mem 33 i = nI (B i) ∧ B i < N) (h : ∀ m, m a = z_ra B (mem a) N → (∀ q, q ≠ a → q ≠ 15 → m q = mem q) → Q m) : wp_X1_reorder 1 a 33 mem Q := by
  unfold wp_X1_reorder
  refine p_copyRow hal (al_w14 q_WB1) (fun g hg => ?_)
  unfold wp_X1_reorder_10
  refine w_rl1 N nI (fun k m => m a = z_ra B (mem a) k ∧ (∀ q, q ≠ a → q ≠ 15 → m q = mem q) ∧ ∀ i, i < 6 → m 15 i = mem a i) (body := fun K y m => wp_X1_reorder_10_b K 1 a 33 y m Q) nI_0.symm ⟨by rw [q_set_n (by omega), z_ra_0], fun q h1 h2 => q_set_n h2, fun i hi => by show q_set mem 15 g 15 i = _; rw [q_set_s]; exact hg i hi⟩ (fun k hk m hP K hK => ?_)
  obtain ⟨h1, h2, h3⟩ := hP
  have n0 : m 1 11 = nI N := by rw [h2 1 (by omega) (by omega)]; exact hn
  unfold wp_X1_reorder_10_b
  rw [n0, z_nle2 (by omega) (by omega), show q_al 33 = 6 from rfl, hal, al_w14 q_WB1, nI_clamp (by omega)]
  refine ⟨fun c => ?_, fun c => ⟨in_nI (by omega) (by omega), ?_⟩⟩
  · rw [show k = N by omega] at h1
    exact h m h1 h2
  obtain ⟨b1, b2⟩ := hB k (by omega)
  rw [h2 33 (by omega) (by omega), b1]
  rintro x4 rfl
  refine p_hasI n0 hN (fun z => absurd z (by rw [z_nI (by omega)]; omega)) (fun _ => b_1 ⟨in_nI (by omega) (by omega), in_nI (by omega) (by omega), ?_⟩)
  rintro m9 rfl
  unfold wp_X1_reorder_42
  rintro y rfl
  rw [nI_1, nI_clamp (by omega), show m (1 + 14) (B k) = mem a (B k) from h3 _ (by omega), h1, z_ra_s]
  exact hK _ (by omega) ⟨q_set_s _ _ _, fun q q1 q2 => by rw [q_set_n q1]; exact h2 q q1 q2, fun i hi => by rw [q_set_n (by omega)]; exact h3 i hi⟩
/-- the common state in a new order -/
def y_ar (D : q_Mem) (N : Nat) (B : Nat → Nat) : q_Mem := fun k => if 1 ≤ k ∧ k ≤ 8 then z_ra B (D k) N else D k
theorem y_ar_i {D : q_Mem} {N k : Nat} {B : Nat → Nat} (h : 1 ≤ k ∧ k ≤ 8) : y_ar D N B k = z_ra B (D k) N := if_pos h
theorem y_ar_o {D : q_Mem} {N k : Nat} {B : Nat → Nat} (h : ¬ (1 ≤ k ∧ k ≤ 8)) : y_ar D N B k = D k := if_neg h
theorem z_ra_at {B : Nat → Nat} {f : Nat → Int32} {N i : Nat} (h : i < N) : z_ra B f N i = f (B i) := if_pos h
theorem y_W.ar {D : q_Mem} {N H x s r f : Nat} {B : Nat → Nat} (h : y_W D N H x s r f) (hB : ∀ i, B i < N) : y_W (y_ar D N B) N H x s r f := by
  obtain ⟨e, g, ⟨u1, u2, u3⟩, v2, v3, v4, v5, v6⟩ := h
  unfold y_W
  rw [y_ar_o (k := 0) (by omega), y_ar_i (k := 1) (by omega), y_ar_i (k := 2) (by omega), y_ar_i (k := 3) (by omega), y_ar_i (k := 4) (by omega), y_ar_i (k := 5) (by omega), y_ar_i (k := 7) (by omega), y_ar_o (k := 9) (by omega), y_ar_o (k := 11) (by omega), y_ar_o (k := 16) (by omega), y_ar_o (k := 17) (by omega)]
  refine ⟨e, g, ⟨u1, fun i hi => ?_, fun i hi => ?_⟩, fun i hi => ?_, fun i hi => ?_, v4, v5, v6⟩
  · obtain ⟨a, b, c, d1, d2, d3, d4⟩ := u2 (B i) (hB i)
    exact ⟨a, b, c, by rw [z_ra_at hi]; exact d1, by rw [z_ra_at hi]; exact d2, by rw [z_ra_at hi]; exact d3, d4⟩
  · rw [z_ra_at hi]; exact u3 _ (hB i)
  · rw [z_ra_at hi]; exact v2 _ (hB i)
  · rw [z_ra_at hi]; exact v3 _ (hB i)
theorem p_stand {N : Nat} {B : Nat → Nat} {mem : q_Mem} {Q : q_Mem → Prop} (hn : mem 1 11 = nI N) (hN : N ≤ 6) (hB : ∀ i, i < N → mem 33 i = nI (B i) ∧ B i < N) (h : ∀ m, (∀ k, k < 8 → m (6 + k) = z_ra B (mem (6 + k)) N) → (∀ q, q < 6 ∨ (13 < q ∧ q ≠ 15) → m q = mem q) → Q m) : wp_X1_standInOrder 1 33 mem Q := by
  unfold wp_X1_standInOrder
  refine p_reorder (a := 6) (B := B) (by omega) (al_w5 q_WB1) hn hN hB (fun m1 e1 f1 => ?_)
  refine p_reorder (a := 7) (B := B) (by omega) (al_w6 q_WB1) (by rw [f1 _ (by omega) (by omega)]; exact hn) hN (fun i hi => by rw [f1 _ (by omega) (by omega)]; exact hB i hi) (fun m2 e2 f2 => ?_)
  refine p_reorder (a := 8) (B := B) (by omega) (al_w7 q_WB1) (by rw [f2 _ (by omega) (by omega), f1 _ (by omega) (by omega)]; exact hn) hN (fun i hi => by rw [f2 _ (by omega) (by omega), f1 _ (by omega) (by omega)]; exact hB i hi) (fun m3 e3 f3 => ?_)
  refine p_reorder (a := 9) (B := B) (by omega) (al_w8 q_WB1) (by rw [f3 _ (by omega) (by omega), f2 _ (by omega) (by omega), f1 _ (by omega) (by omega)]; exact hn) hN (fun i hi => by rw [f3 _ (by omega) (by omega), f2 _ (by omega) (by omega), f1 _ (by omega) (by omega)]; exact hB i hi) (fun m4 e4 f4 => ?_)
  refine p_reorder (a := 10) (B := B) (by omega) (al_w9 q_WB1) (by rw [f4 _ (by omega) (by omega), f3 _ (by omega) (by omega), f2 _ (by omega) (by omega), f1 _ (by omega) (by omega)]; exact hn) hN (fun i hi => by rw [f4 _ (by omega) (by omega), f3 _ (by omega) (by omega), f2 _ (by omega) (by omega), f1 _ (by omega) (by omega)]; exact hB i hi) (fun m5 e5 f5 => ?_)
  refine p_reorder (a := 11) (B := B) (by omega) (al_w10 q_WB1) (by rw [f5 _ (by omega) (by omega), f4 _ (by omega) (by omega), f3 _ (by omega) (by omega), f2 _ (by omega) (by omega), f1 _ (by omega) (by omega)]; exact hn) hN (fun i hi => by rw [f5 _ (by omega) (by omega), f4 _ (by omega) (by omega), f3 _ (by omega) (by omega), f2 _ (by omega) (by omega), f1 _ (by omega) (by omega)]; exact hB i hi) (fun m6 e6 f6 => ?_)
  refine p_reorder (a := 12) (B := B) (by omega) (al_w11 q_WB1) (by rw [f6 _ (by omega) (by omega), f5 _ (by omega) (by omega), f4 _ (by omega) (by omega), f3 _ (by omega) (by omega), f2 _ (by omega) (by omega), f1 _ (by omega) (by omega)]; exact hn) hN (fun i hi => by rw [f6 _ (by omega) (by omega), f5 _ (by omega) (by omega), f4 _ (by omega) (by omega), f3 _ (by omega) (by omega), f2 _ (by omega) (by omega), f1 _ (by omega) (by omega)]; exact hB i hi) (fun m7 e7 f7 => ?_)
  refine p_reorder (a := 13) (B := B) (by omega) (al_w12 q_WB1) (by rw [f7 _ (by omega) (by omega), f6 _ (by omega) (by omega), f5 _ (by omega) (by omega), f4 _ (by omega) (by omega), f3 _ (by omega) (by omega), f2 _ (by omega) (by omega), f1 _ (by omega) (by omega)]; exact hn) hN (fun i hi => by rw [f7 _ (by omega) (by omega), f6 _ (by omega) (by omega), f5 _ (by omega) (by omega), f4 _ (by omega) (by omega), f3 _ (by omega) (by omega), f2 _ (by omega) (by omega), f1 _ (by omega) (by omega)]; exact hB i hi) (fun m8 e8 f8 => ?_)
  refine h m8 (fun k hk => ?_) (fun q hq => ?_)
  · have h8 : k = 0 ∨ k = 1 ∨ k = 2 ∨ k = 3 ∨ k = 4 ∨ k = 5 ∨ k = 6 ∨ k = 7 := by omega
    rcases h8 with rfl | rfl | rfl | rfl | rfl | rfl | rfl | rfl
    · show m8 6 = z_ra B (mem 6) N; rw [f8 6 (by omega) (by omega), f7 6 (by omega) (by omega), f6 6 (by omega) (by omega), f5 6 (by omega) (by omega), f4 6 (by omega) (by omega), f3 6 (by omega) (by omega), f2 6 (by omega) (by omega), e1]
    · show m8 7 = z_ra B (mem 7) N; rw [f8 7 (by omega) (by omega), f7 7 (by omega) (by omega), f6 7 (by omega) (by omega), f5 7 (by omega) (by omega), f4 7 (by omega) (by omega), f3 7 (by omega) (by omega), e2, f1 7 (by omega) (by omega)]
    · show m8 8 = z_ra B (mem 8) N; rw [f8 8 (by omega) (by omega), f7 8 (by omega) (by omega), f6 8 (by omega) (by omega), f5 8 (by omega) (by omega), f4 8 (by omega) (by omega), e3, f2 8 (by omega) (by omega), f1 8 (by omega) (by omega)]
    · show m8 9 = z_ra B (mem 9) N; rw [f8 9 (by omega) (by omega), f7 9 (by omega) (by omega), f6 9 (by omega) (by omega), f5 9 (by omega) (by omega), e4, f3 9 (by omega) (by omega), f2 9 (by omega) (by omega), f1 9 (by omega) (by omega)]
    · show m8 10 = z_ra B (mem 10) N; rw [f8 10 (by omega) (by omega), f7 10 (by omega) (by omega), f6 10 (by omega) (by omega), e5, f4 10 (by omega) (by omega), f3 10 (by omega) (by omega), f2 10 (by omega) (by omega), f1 10 (by omega) (by omega)]
    · show m8 11 = z_ra B (mem 11) N; rw [f8 11 (by omega) (by omega), f7 11 (by omega) (by omega), e6, f5 11 (by omega) (by omega), f4 11 (by omega) (by omega), f3 11 (by omega) (by omega), f2 11 (by omega) (by omega), f1 11 (by omega) (by omega)]
    · show m8 12 = z_ra B (mem 12) N; rw [f8 12 (by omega) (by omega), e7, f6 12 (by omega) (by omega), f5 12 (by omega) (by omega), f4 12 (by omega) (by omega), f3 12 (by omega) (by omega), f2 12 (by omega) (by omega), f1 12 (by omega) (by omega)]
    · show m8 13 = z_ra B (mem 13) N; rw [e8, f7 13 (by omega) (by omega), f6 13 (by omega) (by omega), f5 13 (by omega) (by omega), f4 13 (by omega) (by omega), f3 13 (by omega) (by omega), f2 13 (by omega) (by omega), f1 13 (by omega) (by omega)]
  · rw [f8 q (by omega) (by omega), f7 q (by omega) (by omega), f6 q (by omega) (by omega), f5 q (by omega) (by omega), f4 q (by omega) (by omega), f3 q (by omega) (by omega), f2 q (by omega) (by omega), f1 q (by omega) (by omega)]
theorem p_layAside {mem : q_Mem} {Q : q_Mem → Prop} (h : ∀ g : Nat → Int32, (∀ r i, r < 8 → i < 6 → g (6 * r + i) = mem (73 + r) i) → Q (q_set mem 87 g)) : wp_X3_layAside mem Q := by
  unfold wp_X3_layAside wp_X3_layAside_2
  refine w_rl1 6 nI (fun k m => ∃ g : Nat → Int32, m = q_set mem 87 g ∧ ∀ r i, r < 8 → i < k → g (6 * r + i) = mem (73 + r) i) (body := fun K y m => wp_X3_layAside_2_b K y m Q) nI_0.symm ⟨mem 87, (q_set_self rfl).symm, fun r i _ hi => by omega⟩ (fun k hk m hP K hK => ?_)
  obtain ⟨g, rfl, hg⟩ := hP
  unfold wp_X3_layAside_2_b
  rw [z_lit 6, z_nle2 (by omega) (by omega), show q_al 87 = 48 from rfl, show q_al 73 = 6 from rfl, show q_al 74 = 6 from rfl, show q_al 75 = 6 from rfl, show q_al 76 = 6 from rfl, show q_al 77 = 6 from rfl, show q_al 78 = 6 from rfl, show q_al 79 = 6 from rfl, show q_al 80 = 6 from rfl]
  refine ⟨fun c => h g (fun r i hr hi => hg r i hr (by omega)), fun c => ?_⟩
  have i6 : vp_in (nI k) 6 := in_nI (by omega) (by omega)
  have ck : (nI k).toNatClampNeg = k := nI_clamp (by omega)
  have ii : ∀ r, r < 8 → vp_in (nI (6 * r) + nI k) 48 := fun r hr => by rw [nI_add]; exact in_nI (by omega) (by omega)
  have cc : ∀ r, r < 8 → (nI (6 * r) + nI k).toNatClampNeg = 6 * r + k := fun r hr => by rw [nI_add, nI_clamp (by omega)]
  have i0 : vp_in (nI k) 48 := in_nI (by omega) (by omega)
  refine ⟨i6, i0, ?_⟩
  rintro m rfl
  refine ⟨i6, ii 1 (by omega), ?_⟩
  rintro m rfl
  refine ⟨i6, ii 2 (by omega), ?_⟩
  rintro m rfl
  refine ⟨i6, ii 3 (by omega), ?_⟩
  rintro m rfl
  refine ⟨i6, ii 4 (by omega), ?_⟩
  rintro m rfl
  refine ⟨i6, ii 5 (by omega), ?_⟩
  rintro m rfl
  refine ⟨i6, ii 6 (by omega), ?_⟩
  rintro m rfl
  refine ⟨i6, ii 7 (by omega), ?_⟩
  rintro m rfl
  rintro y rfl
  rw [nI_1]
  have hm := hK (q_set mem 87 (upd (upd (upd (upd (upd (upd (upd (upd (g) (6 * 0 + k) (mem 73 k)) (6 * 1 + k) (mem 74 k)) (6 * 2 + k) (mem 75 k)) (6 * 3 + k) (mem 76 k)) (6 * 4 + k) (mem 77 k)) (6 * 5 + k) (mem 78 k)) (6 * 6 + k) (mem 79 k)) (6 * 7 + k) (mem 80 k))) (by omega) ⟨_, rfl, fun r i hr hi => ?_⟩
  · have e0 : 6 * 0 + k = k := by omega
    rw [e0] at hm
    rw [ck, show nI 6 = nI (6 * 1) from rfl, cc 1 (by omega), show (12 : Int32) = nI (6 * 2) from rfl, cc 2 (by omega), show (18 : Int32) = nI (6 * 3) from rfl, cc 3 (by omega), show (24 : Int32) = nI (6 * 4) from rfl, cc 4 (by omega), show (30 : Int32) = nI (6 * 5) from rfl, cc 5 (by omega), show (36 : Int32) = nI (6 * 6) from rfl, cc 6 (by omega), show (42 : Int32) = nI (6 * 7) from rfl, cc 7 (by omega)]
    simp only [q_set_s, q_set_set, q_set_n (show (73 : Nat) ≠ 87 by decide), q_set_n (show (74 : Nat) ≠ 87 by decide), q_set_n (show (75 : Nat) ≠ 87 by decide), q_set_n (show (76 : Nat) ≠ 87 by decide), q_set_n (show (77 : Nat) ≠ 87 by decide), q_set_n (show (78 : Nat) ≠ 87 by decide), q_set_n (show (79 : Nat) ≠ 87 by decide), q_set_n (show (80 : Nat) ≠ 87 by decide)]
    exact hm
  · by_cases e : i = k
    · subst e
      have h8 : r = 0 ∨ r = 1 ∨ r = 2 ∨ r = 3 ∨ r = 4 ∨ r = 5 ∨ r = 6 ∨ r = 7 := by omega
      rcases h8 with rfl | rfl | rfl | rfl | rfl | rfl | rfl | rfl
      · rw [upd_n (by omega), upd_n (by omega), upd_n (by omega), upd_n (by omega), upd_n (by omega), upd_n (by omega), upd_n (by omega), upd_s]
      · rw [upd_n (by omega), upd_n (by omega), upd_n (by omega), upd_n (by omega), upd_n (by omega), upd_n (by omega), upd_s]
      · rw [upd_n (by omega), upd_n (by omega), upd_n (by omega), upd_n (by omega), upd_n (by omega), upd_s]
      · rw [upd_n (by omega), upd_n (by omega), upd_n (by omega), upd_n (by omega), upd_s]
      · rw [upd_n (by omega), upd_n (by omega), upd_n (by omega), upd_s]
      · rw [upd_n (by omega), upd_n (by omega), upd_s]
      · rw [upd_n (by omega), upd_s]
      · rw [upd_s]
    · rw [upd_n (by omega), upd_n (by omega), upd_n (by omega), upd_n (by omega), upd_n (by omega), upd_n (by omega), upd_n (by omega), upd_n (by omega)]; exact hg r i hr (by omega)

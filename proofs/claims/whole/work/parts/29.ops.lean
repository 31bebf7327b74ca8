/-! ===== digest ===== -/
theorem w_lpL (N : Nat) (P : Nat → Prop) (X1 : Nat → Int64) (X2 : Nat → Int32) (S : Nat → q_Mem) {body : (Int64 → Int32 → q_Mem → Prop) → Int64 → Int32 → q_Mem → Prop} {x1 : Int64} {x2 : Int32} {mem : q_Mem} (h0 : P 0) (e1 : x1 = X1 0) (e2 : x2 = X2 0) (em : mem = S 0) (step : ∀ k, k ≤ N → P k → ∀ K : Int64 → Int32 → q_Mem → Prop, (k < N → P (k + 1) → K (X1 (k + 1)) (X2 (k + 1)) (S (k + 1))) → body K (X1 k) (X2 k) (S k)) :
    ∃ I : Nat → Int64 → Int32 → q_Mem → Prop, (∃ n, I n x1 x2 mem) ∧ ∀ (n : Nat) (y1 : Int64) (y2 : Int32) (ymem : q_Mem), I n y1 y2 ymem → body (fun z1 z2 zmem => ∃ n2, n2 < n ∧ I n2 z1 z2 zmem) y1 y2 ymem := by
  refine ⟨fun n y1 y2 ym => ∃ k, k ≤ N ∧ n = N - k ∧ P k ∧ y1 = X1 k ∧ y2 = X2 k ∧ ym = S k, ⟨N, 0, Nat.zero_le _, rfl, h0, e1, e2, em⟩, ?_⟩
  rintro n y1 y2 ym ⟨k, hk, rfl, hP, rfl, rfl, rfl⟩
  exact step k hk hP _ (fun hlt hp => ⟨N - (k + 1), by omega, k + 1, hlt, rfl, hp, rfl, rfl, rfl⟩)
def z_mr (f : Nat → Int32) (h : Int64) : Nat → Int64
  | 0 => h
  | k + 1 => (31 : Int64) * z_mr f h k + (f k).toInt64
theorem z_mr_cg {f g : Nat → Int32} {h : Int64} : ∀ {m : Nat}, (∀ k, k < m → f k = g k) → z_mr f h m = z_mr g h m
  | 0, _ => rfl
  | m + 1, e => by rw [z_mr, z_mr, z_mr_cg (fun k hk => e k (by omega)), e m (by omega)]
theorem z_mr_add (f : Nat → Int32) (h : Int64) (a : Nat) : ∀ m : Nat, z_mr (fun k => f (a + k)) (z_mr f h a) m = z_mr f h (a + m)
  | 0 => rfl
  | m + 1 => by rw [z_mr, z_mr_add f h a m]; rfl
theorem z_mr_row {f g : Nat → Int32} {h : Int64} {c m : Nat} (e : ∀ k, k < m → f k = g (m * c + k)) : z_mr f (z_mr g h (m * c)) m = z_mr g h (m * (c + 1)) := by
  rw [z_mr_cg e, z_mr_add, Nat.mul_succ]
theorem p_mixRow {a n L : Nat} {h : Int64} {mem : q_Mem} {Q : Int64 → q_Mem → Prop} (ha : q_al a = n) (hn : n < 2147483648) (h1 : 1 ≤ n) (hL : L ≤ n) (hq : Q (z_mr (mem a) h L) mem) : wp_X2_mixRow h a (nI L) mem Q := by
  unfold wp_X2_mixRow wp_X2_mixRow_3
  refine w_lpL L (fun _ => True) (fun k => z_mr (mem a) h k) nI (fun _ => mem) (body := fun K y1 y2 m => wp_X2_mixRow_3_b K h a (nI L) y1 y2 m Q) trivial rfl nI_0.symm rfl (fun k hk _ K hK => ?_)
  unfold wp_X2_mixRow_3_b wp_X2_mixRow_32 wp_X2_mix
  rw [ha, z_nle2 (by omega) (by omega)]
  refine ⟨fun c => ?_, fun c => ⟨by omega, fun d => ?_, fun d => ⟨in_nI (by omega) (by omega), ?_⟩⟩⟩
  · rw [show k = L by omega]; exact hq
  · exact absurd d (by show ¬ nI n ≤ nI k; rw [z_nle2 (by omega) (by omega)]; omega)
  · rintro y rfl
    rw [nI_1, nI_clamp (by omega)]
    exact hK (by omega) trivial
def z_ml (D : q_Mem) (h : Int64) : Nat → Int64
  | 0 => h
  | i + 1 => z_mr (z_tl D i) (z_ml D h i) 9
def z_md (D : q_Mem) (h : Int64) : Nat → Int64
  | 0 => h
  | i + 1 => z_mr (fun j => D (16 + j) i) (z_md D h i) 4
def z_dg (D : q_Mem) (N H r : Nat) : Int64 := (31 : Int64) * ((31 : Int64) * ((31 : Int64) * z_md D (z_mr (D 10) (z_mr (D 11) (z_ml D (z_mr (D 9) 181 15) N) (5 * H)) 5) r + (D 0 12).toInt64) + (D 0 13).toInt64) + (D 0 24).toInt64
theorem p_digest2 {mem D : q_Mem} {N H r : Nat} {Q : Int64 → q_Mem → Prop} (hC : y_C mem D) (e0 : D 0 0 = nI N) (e1 : D 0 11 = nI H) (e4 : D 0 19 = nI r) (hH : H ≤ 24) (hr : r ≤ 12) (hR : z_RG N (D 1) (D 2) (D 4) (D 5)) (hc : z_CR (D 9)) (h : Q (z_dg D N H r) mem) : wp_X2_digest mem Q := by
  have hN := hR.1
  unfold wp_X2_digest wp_X2_digest_6
  refine w_lpL 3 (fun _ => True) (fun k => z_mr (D 9) 181 (5 * k)) nI (fun _ => mem) (body := fun K y1 y2 m => wp_X2_digest_6_b K y1 y2 m Q) trivial rfl nI_0.symm rfl (fun k hk _ K hK => ?_)
  unfold wp_X2_digest_6_b
  rw [z_lit 3, z_nle2 (by omega) (by omega)]
  refine ⟨fun c => ?_, fun c => ⟨in_nI (by omega) (by omega), ?_⟩⟩
  rotate_left
  · rw [nI_clamp (by omega), z_lit 5]
    refine p_mixRow (al_w2 q_WB1 (by omega)) (by omega) (by omega) (by omega) ?_
    rintro y rfl
    rw [nI_1, z_mr_row (fun j hj => hC.2.2.2.1 k j (by omega) hj)]
    exact hK (by omega) trivial
  rw [show k = 3 by omega]
  unfold wp_X2_digest_32 wp_X2_digest_34
  refine w_lpL N (fun _ => True) (fun k => z_ml D (z_mr (D 9) 181 (5 * 3)) k) nI (fun _ => mem) (body := fun K y1 y2 m => wp_X2_digest_34_b K y1 y2 m Q) trivial rfl nI_0.symm rfl (fun i hi _ K2 hK2 => ?_)
  unfold wp_X2_digest_34_b
  rw [hC.1.1, e0, z_nle2 (by omega) (by omega)]
  refine ⟨fun c2 => ?_, fun c2 => ?_⟩
  rotate_left
  · unfold wp_X2_digest_48
    refine w_lpL 9 (fun _ => True) (fun k => z_mr (z_tl D i) (z_ml D (z_mr (D 9) 181 (5 * 3)) i) k) nI (fun _ => mem) (body := fun K y1 y2 m => wp_X2_digest_48_b K2 K y1 (nI i) y2 m Q) trivial rfl nI_0.symm rfl (fun w hw _ K3 hK3 => ?_)
    unfold wp_X2_digest_48_b wp_X2_digest_77 wp_X2_mix
    rw [z_lit 9, z_nle2 (by omega) (by omega)]
    refine ⟨fun c3 => ?_, fun c3 => ?_⟩
    · rintro y rfl
      rw [nI_1, show w = 9 by omega]
      exact hK2 (by omega) trivial
    · refine p_tellOf hC e0 hR hc (by omega) (by omega) ?_
      rintro y rfl
      rw [nI_1]
      exact hK3 (by omega) trivial
  rw [show i = N by omega]
  unfold wp_X2_digest_83 wp_X2_digest_85
  refine w_lpL H (fun _ => True) (fun k => z_mr (D 11) (z_ml D (z_mr (D 9) 181 (5 * 3)) N) (5 * k)) nI (fun _ => mem) (body := fun K y1 y2 m => wp_X2_digest_85_b K y1 y2 m Q) trivial rfl nI_0.symm rfl (fun j hj _ K4 hK4 => ?_)
  unfold wp_X2_digest_85_b
  rw [hC.1.2.1, e1, z_nle2 (by omega) (by omega)]
  refine ⟨fun c4 => ?_, fun c4 => ⟨in_nI (by omega) (by omega), ?_⟩⟩
  rotate_left
  · rw [nI_clamp (by omega), z_lit 5]
    refine p_mixRow (al_hr (by omega)) (by omega) (by omega) (by omega) ?_
    rintro y rfl
    rw [nI_1, z_mr_row (fun l hl => hC.2.2.2.2.1 j l (by omega) hl)]
    exact hK4 (by omega) trivial
  rw [show j = H by omega]
  unfold wp_X2_digest_111
  refine p_mixRow (L := 5) (al_w13 q_WB1) (by omega) (by omega) (by omega) ?_
  rw [hC.2.2.1]
  unfold wp_X2_digest_126
  refine w_lpL r (fun _ => True) (fun k => z_md D (z_mr (D 10) (z_mr (D 11) (z_ml D (z_mr (D 9) 181 (5 * 3)) N) (5 * H)) 5) k) nI (fun _ => mem) (body := fun K y1 y2 m => wp_X2_digest_126_b K y1 y2 m Q) trivial rfl nI_0.symm rfl (fun l hl _ K5 hK5 => ?_)
  unfold wp_X2_digest_126_b
  rw [hC.1.2.2.2.2.1, e4, z_nle2 (by omega) (by omega)]
  refine ⟨fun c5 => ?_, fun c5 => ⟨in_nI (by omega) (by omega), ?_⟩⟩
  rotate_left
  · rw [nI_clamp (by omega), z_lit 4]
    refine p_mixRow (al_rd (by omega)) (by omega) (by omega) (by omega) ?_
    rintro y rfl
    rw [nI_1, z_mr_cg (fun j hj => hC.2.2.2.2.2 l j (by omega) hj)]
    exact hK5 (by omega) trivial
  rw [show l = r by omega]
  unfold wp_X2_digest_152 wp_X2_mix
  simp only [hC.1.2.2.1, hC.1.2.2.2.1, hC.1.2.2.2.2.2]
  exact h
theorem p_digest3 {mem D : q_Mem} {N H r : Nat} {Q : Int64 → q_Mem → Prop} (hM : y_M mem D) (e0 : D 0 0 = nI N) (e1 : D 0 11 = nI H) (e4 : D 0 19 = nI r) (hH : H ≤ 24) (hr : r ≤ 12) (hR : z_RG N (D 1) (D 2) (D 4) (D 5)) (hc : z_CR (D 9)) (h : Q (z_dg D N H r) mem) : wp_X3_digest mem Q := by
  have hN := hR.1
  unfold wp_X3_digest wp_X3_digest_6
  refine w_lpL 15 (fun _ => True) (fun k => z_mr (D 9) 181 k) nI (fun _ => mem) (body := fun K y1 y2 m => wp_X3_digest_6_b K y1 y2 m Q) trivial rfl nI_0.symm rfl (fun k hk _ K hK => ?_)
  unfold wp_X3_digest_6_b
  rw [z_lit 15, z_nle2 (by omega) (by omega), show q_al 81 = 15 from rfl]
  refine ⟨fun c => ?_, fun c => ⟨in_nI (by omega) (by omega), ?_⟩⟩
  rotate_left
  · rintro x rfl
    rintro y rfl
    rw [nI_1, nI_clamp (by omega), hM.2.2.2.1]
    exact hK (by omega) trivial
  rw [show k = 15 by omega]
  unfold wp_X3_digest_32 wp_X3_digest_34
  refine w_lpL N (fun _ => True) (fun k => z_ml D (z_mr (D 9) 181 15) k) nI (fun _ => mem) (body := fun K y1 y2 m => wp_X3_digest_34_b K y1 y2 m Q) trivial rfl nI_0.symm rfl (fun i hi _ K2 hK2 => ?_)
  unfold wp_X3_digest_34_b
  rw [hM.1.1, e0, z_nle2 (by omega) (by omega)]
  refine ⟨fun c2 => ?_, fun c2 => ?_⟩
  rotate_left
  · unfold wp_X3_digest_45
    refine w_lpL 9 (fun _ => True) (fun k => z_mr (z_tl D i) (z_ml D (z_mr (D 9) 181 15) i) k) nI (fun _ => mem) (body := fun K y1 y2 m => wp_X3_digest_45_b K2 K y1 (nI i) y2 m Q) trivial rfl nI_0.symm rfl (fun w hw _ K3 hK3 => ?_)
    unfold wp_X3_digest_45_b wp_X3_digest_73
    rw [z_lit 9, z_nle2 (by omega) (by omega)]
    refine ⟨fun c3 => ?_, fun c3 => ?_⟩
    · rintro y rfl
      rw [nI_1, show w = 9 by omega]
      exact hK2 (by omega) trivial
    · refine p_aboutOf hM e0 hR hc (by omega) (by omega) ?_
      rintro x rfl
      rintro y rfl
      rw [nI_1]
      exact hK3 (by omega) trivial
  rw [show i = N by omega]
  unfold wp_X3_digest_79 wp_X3_digest_81
  refine w_lpL (5 * H) (fun _ => True) (fun k => z_mr (D 11) (z_ml D (z_mr (D 9) 181 15) N) k) nI (fun _ => mem) (body := fun K y1 y2 m => wp_X3_digest_81_b K y1 y2 m Q) trivial rfl nI_0.symm rfl (fun j hj _ K4 hK4 => ?_)
  unfold wp_X3_digest_81_b
  rw [hM.1.2.1, e1, z_lit 5, pk_mul, z_nle2 (by omega) (by omega), show q_al 83 = 120 from rfl]
  refine ⟨fun c4 => ?_, fun c4 => ⟨in_nI (by omega) (by omega), ?_⟩⟩
  rotate_left
  · rintro x rfl
    rintro y rfl
    rw [nI_1, nI_clamp (by omega), hM.2.2.2.2.1]
    exact hK4 (by omega) trivial
  rw [show j = 5 * H by omega]
  unfold wp_X3_digest_111 wp_X3_digest_113
  refine w_lpL 5 (fun _ => True) (fun k => z_mr (D 10) (z_mr (D 11) (z_ml D (z_mr (D 9) 181 15) N) (5 * H)) k) nI (fun _ => mem) (body := fun K y1 y2 m => wp_X3_digest_113_b K y1 y2 m Q) trivial rfl nI_0.symm rfl (fun j hj _ K6 hK6 => ?_)
  unfold wp_X3_digest_113_b
  rw [z_lit 5, z_nle2 (by omega) (by omega), show q_al 82 = 5 from rfl]
  refine ⟨fun c4 => ?_, fun c4 => ⟨in_nI (by omega) (by omega), ?_⟩⟩
  rotate_left
  · rintro x rfl
    rintro y rfl
    rw [nI_1, nI_clamp (by omega), hM.2.2.1]
    exact hK6 (by omega) trivial
  rw [show j = 5 by omega]
  unfold wp_X3_digest_138 wp_X3_digest_140
  refine w_lpL r (fun _ => True) (fun k => z_md D (z_mr (D 10) (z_mr (D 11) (z_ml D (z_mr (D 9) 181 15) N) (5 * H)) 5) k) nI (fun _ => mem) (body := fun K y1 y2 m => wp_X3_digest_140_b K y1 y2 m Q) trivial rfl nI_0.symm rfl (fun l hl _ K5 hK5 => ?_)
  unfold wp_X3_digest_140_b
  have m0 : mem 88 = D 16 := hM.2.2.2.2.2 0 (by omega)
  have m1 : mem 89 = D 17 := hM.2.2.2.2.2 1 (by omega)
  have m2 : mem 90 = D 18 := hM.2.2.2.2.2 2 (by omega)
  have m3 : mem 91 = D 19 := hM.2.2.2.2.2 3 (by omega)
  rw [hM.1.2.2.2.2.1, e4, z_nle2 (by omega) (by omega), show q_al 88 = 12 from rfl, show q_al 89 = 12 from rfl, show q_al 90 = 12 from rfl, show q_al 91 = 12 from rfl, m0, m1, m2, m3, nI_clamp (by omega)]
  have hin : vp_in (nI l) 12 ∨ l = r := by
    by_cases c : l = r
    · exact Or.inr c
    · exact Or.inl (in_nI (by omega) (by omega))
  refine ⟨fun c5 => ?_, fun c5 => ?_⟩
  rotate_left
  · rcases hin with hin | hin
    · refine ⟨hin, ?_⟩
      rintro x rfl
      refine ⟨hin, ?_⟩
      rintro x rfl
      refine ⟨hin, ?_⟩
      rintro x rfl
      refine ⟨hin, ?_⟩
      rintro x rfl
      rintro y rfl
      rw [nI_1]
      exact hK5 (by omega) trivial
    · omega
  rw [show l = r by omega]
  unfold wp_X3_digest_210
  rw [hM.1.2.2.1, hM.1.2.2.2.1, hM.1.2.2.2.2.2]
  rintro x rfl
  rintro x rfl
  exact h
theorem o_digest {mem D : q_Mem} {Q : Int64 → Int64 → q_Mem → Prop} (hC : y_C mem D) (hM : y_M mem D) (hV : y_V D) (hQ : y_K Q) : wp_X2_digest mem (fun r1 m1 => wp_X3_digest m1 (fun r2 m2 => Q r1 r2 m2)) := by
  obtain ⟨N, H, x, s, r, f, ⟨e0, e1, e2, e3, e4, e5⟩, ⟨g1, g2, g3, g4, g5⟩, v1, v2, v3, v4, v5, v6⟩ := id hV
  exact p_digest2 hC e0 e1 e4 g1 g4 v1 v4 (p_digest3 hM e0 e1 e4 g1 g4 v1 v4 (hQ _ _ D hC hM hV))

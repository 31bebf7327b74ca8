/-! ===== an hour over the common state ===== -/
theorem w_rl1 (N : Nat) (X : Nat → Int32) (P : Nat → q_Mem → Prop) {body : (Int32 → q_Mem → Prop) → Int32 → q_Mem → Prop} {x1 : Int32} {mem : q_Mem} (e1 : x1 = X 0) (h0 : P 0 mem) (step : ∀ k, k ≤ N → ∀ m, P k m → ∀ K : Int32 → q_Mem → Prop, (∀ m', k < N → P (k + 1) m' → K (X (k + 1)) m') → body K (X k) m) :
    ∃ I : Nat → Int32 → q_Mem → Prop, (∃ n, I n x1 mem) ∧ ∀ (n : Nat) (y1 : Int32) (ymem : q_Mem), I n y1 ymem → body (fun z1 zmem => ∃ n2, n2 < n ∧ I n2 z1 zmem) y1 ymem := by
  refine ⟨fun n y1 ym => ∃ k, k ≤ N ∧ n = N - k ∧ y1 = X k ∧ P k ym, ⟨N, 0, Nat.zero_le _, rfl, e1, h0⟩, ?_⟩
  rintro n y1 ym ⟨k, hk, rfl, rfl, hP⟩
  exact step k hk ym hP _ (fun m' hlt hp => ⟨N - (k + 1), by omega, k + 1, hlt, rfl, rfl, hp⟩)
theorem w_rl2 (N : Nat) (X : Nat → Int32) (P : Nat → Int32 → q_Mem → Prop) {body : (Int32 → Int32 → q_Mem → Prop) → Int32 → Int32 → q_Mem → Prop} {x1 x2 : Int32} {mem : q_Mem} (e1 : x2 = X 0) (h0 : P 0 x1 mem) (step : ∀ k, k ≤ N → ∀ y m, P k y m → ∀ K : Int32 → Int32 → q_Mem → Prop, (∀ y' m', k < N → P (k + 1) y' m' → K y' (X (k + 1)) m') → body K y (X k) m) :
    ∃ I : Nat → Int32 → Int32 → q_Mem → Prop, (∃ n, I n x1 x2 mem) ∧ ∀ (n : Nat) (y1 y2 : Int32) (ymem : q_Mem), I n y1 y2 ymem → body (fun z1 z2 zmem => ∃ n2, n2 < n ∧ I n2 z1 z2 zmem) y1 y2 ymem := by
  refine ⟨fun n y1 y2 ym => ∃ k, k ≤ N ∧ n = N - k ∧ y2 = X k ∧ P k y1 ym, ⟨N, 0, Nat.zero_le _, rfl, e1, h0⟩, ?_⟩
  rintro n y1 y2 ym ⟨k, hk, rfl, rfl, hP⟩
  exact step k hk y1 ym hP _ (fun y' m' hlt hp => ⟨N - (k + 1), by omega, k + 1, hlt, rfl, rfl, hp⟩)
def y_W (D : q_Mem) (N H x s r f : Nat) : Prop := (D 0 0 = nI N ∧ D 0 11 = nI H ∧ D 0 12 = nI x ∧ D 0 13 = nI s ∧ D 0 19 = nI r ∧ D 0 24 = nI f) ∧ (H ≤ 24 ∧ (x = 0 ∨ x < H) ∧ s ≤ 10 ∧ r ≤ 12 ∧ f ≤ 30) ∧ z_RG N (D 1) (D 2) (D 4) (D 5) ∧ z_HE N (D 3) ∧ z_MR N (D 7) ∧ z_CR (D 9) ∧
  (∀ i, i < H → z_HR (D 11 (5 * i)) (D 11 (5 * i + 1)) (D 11 (5 * i + 2)) (D 11 (5 * i + 3)) (D 11 (5 * i + 4))) ∧ ∀ i, i < r → ∃ l b : Nat, D 16 i = nI l ∧ l < N ∧ D 17 i = nI b ∧ 1 ≤ b ∧ b ≤ 100
theorem y_W.V {D : q_Mem} {N H x s r f : Nat} (h : y_W D N H x s r f) : y_V D := ⟨N, H, x, s, r, f, h⟩
def y_p (D : q_Mem) (N j : Nat) (sh : Int32) : (Nat → Int32) × (Nat → Int32) := z_hp N (D 1) (D 2) (D 4) (D 9) (D 11 (5 * j)) (D 11 (5 * j + 3)) (D 11 (5 * j + 2)) sh (D 5, D 10)
def y_t (D : q_Mem) (N j : Nat) (sh : Int32) : z_Tr := z_ht N (D 1) (D 3) (D 4) (D 9) (D 11 (5 * j + 1)) (D 11 (5 * j + 4)) (y_p D N j sh).1 (D 6, D 7, D 8)
def y_st (D : q_Mem) (N j : Nat) (sh : Int32) : q_Mem := z_M3 (z_M2 D 5 10 (y_p D N j sh)) 6 7 8 (y_t D N j sh)
def y_nx (D : q_Mem) (x : Nat) : q_Mem := q_set D 0 (upd (D 0) 12 (nI x))
theorem y_st_o {D : q_Mem} {N j k : Nat} {sh : Int32} (h : k < 5 ∨ k = 9 ∨ 10 < k) : y_st D N j sh k = D k := by
  unfold y_st
  rw [z_M3_n (by omega) (by omega) (by omega), z_M2_n (by omega) (by omega)]
theorem y_st_5 {D : q_Mem} {N j : Nat} {sh : Int32} : y_st D N j sh 5 = (y_p D N j sh).1 := by
  unfold y_st
  rw [z_M3_n (by omega) (by omega) (by omega), z_M2_1 (by omega)]
theorem y_st_7 {D : q_Mem} {N j : Nat} {sh : Int32} : y_st D N j sh 7 = (y_t D N j sh).2.1 := by
  unfold y_st
  rw [z_M3_2 (by omega)]
theorem y_W.sh {D : q_Mem} {N H x s r f : Nat} (h : y_W D N H x s r f) : 0 ≤ (nI s).toInt ∧ (nI s).toInt ≤ 10 := by
  have := h.2.1.2.2.1
  rw [z_nI (by omega)]; omega
theorem y_p_RG {D : q_Mem} {N H x s r f j : Nat} {sh : Int32} (h : y_W D N H x s r f) (hj : j < H) (hsh : 0 ≤ sh.toInt ∧ sh.toInt ≤ 10) : z_RG N (D 1) (D 2) (D 4) (y_p D N j sh).1 := by
  obtain ⟨hO, hI, hr, ho, hn⟩ := h.2.2.2.2.2.2.1 j hj
  obtain ⟨r0, r1, r2⟩ := z_rnr hr hsh
  exact z_move_RG (p := (D 5, D 10)) h.2.2.1 h.2.2.2.2.2.1 hO hI r1 r2
theorem y_W.st {D : q_Mem} {N H x s r f j : Nat} {sh : Int32} (h : y_W D N H x s r f) (hj : j < H) (hsh : 0 ≤ sh.toInt ∧ sh.toInt ≤ 10) : y_W (y_st D N j sh) N H x s r f := by
  have hR := y_p_RG h hj hsh
  obtain ⟨e, g, v1, v2, v3, v4, v5, v6⟩ := h
  unfold y_W
  rw [y_st_o (k := 0) (by omega), y_st_o (k := 1) (by omega), y_st_o (k := 2) (by omega), y_st_o (k := 3) (by omega), y_st_o (k := 4) (by omega), y_st_o (k := 9) (by omega), y_st_o (k := 11) (by omega), y_st_o (k := 16) (by omega), y_st_o (k := 17) (by omega), y_st_5, y_st_7]
  exact ⟨e, g, hR, v2, z_feel_MR (t := (D 6, D 7, D 8)) v3 N, v4, v5, v6⟩
theorem y_W.nx {D : q_Mem} {N H x s r f y : Nat} (h : y_W D N H x s r f) (hy : y = 0 ∨ y < H) : y_W (y_nx D y) N H y s r f := by
  obtain ⟨⟨e0, e1, e2, e3, e4, e5⟩, ⟨g1, g2, g3, g4, g5⟩, v1, v2, v3, v4, v5, v6⟩ := h
  exact ⟨⟨e0, e1, rfl, e3, e4, e5⟩, ⟨g1, hy, g3, g4, g5⟩, v1, v2, v3, v4, v5, v6⟩
theorem y_C.st {mem D : q_Mem} (h : y_C mem D) (p : (Nat → Int32) × (Nat → Int32)) (t : z_Tr) : y_C (z_M3 (z_M2 mem 10 14 p) 11 12 13 t) (z_M3 (z_M2 D 5 10 p) 6 7 8 t) :=
  ((((h.arr (k := 4) (by omega) p.1).sums p.2).arr (k := 5) (by omega) t.1).arr (k := 6) (by omega) t.2.1).arr (k := 7) (by omega) t.2.2
theorem y_M.st {mem D : q_Mem} (h : y_M mem D) (p : (Nat → Int32) × (Nat → Int32)) (t : z_Tr) : y_M (z_M3 (z_M2 mem 77 82 p) 78 79 80 t) (z_M3 (z_M2 D 5 10 p) 6 7 8 t) :=
  ((((h.cell (k := 5) (by omega) (by omega) p.1).cell (k := 10) (by omega) (by omega) p.2).cell (k := 6) (by omega) (by omega) t.1).cell (k := 7) (by omega) (by omega) t.2.1).cell (k := 8) (by omega) (by omega) t.2.2
theorem s_C {mem D : q_Mem} {N H x s r f j : Nat} {Q : q_Mem → Prop} (hC : y_C mem D) (hW : y_W D N H x s r f) (hN1 : 1 ≤ N) (hj : j < H) (h : ∀ m, y_C m (y_st D N j (nI s)) → (∀ k, k < 10 ∨ 14 < k → m k = mem k) → Q m) : wp_X1_letHourPass 1 (35 + j) (mem 0 6) mem Q := by
  have hsh := hW.sh
  obtain ⟨⟨e0, e1, e2, e3, e4, e5⟩, ⟨g1, g2, g3, g4, g5⟩, v1, v2, v3, v4, v5, v6⟩ := id hW
  have ej : ∀ l, l < 5 → mem (35 + j) l = D 11 (5 * j + l) := fun l hl => hC.2.2.2.2.1 j l (by omega) hl
  rw [hC.1.2.2.2.1, e3]
  refine p_letHour (t := (D 6, D 7, D 8)) q_WB1 (hC.WO e0) (hC.2.1 4 (by omega)) hC.2.2.1 (hC.2.1 2 (by omega)) (hC.2.1 5 (by omega)) (hC.2.1 6 (by omega)) (hC.2.1 7 (by omega)) hN1 v1 v2 v4 (v5 j hj) (ej 0 (by omega)) (ej 1 (by omega)) (ej 2 (by omega)) (ej 3 (by omega)) (ej 4 (by omega)) hsh (al_hr (by omega)) (by omega) ?_
  refine h _ (hC.st (y_p D N j (nI s)) (y_t D N j (nI s))) (fun k hk => ?_)
  rw [z_M3_n (by omega) (by omega) (by omega), z_M2_n (by omega) (by omega)]
theorem s_M {mem D : q_Mem} {N H x s r f : Nat} {Q : q_Mem → Prop} (hM : y_M mem D) (hW : y_W D N H x s r f) (hN1 : 1 ≤ N) (hx : x < H) (h : ∀ m, y_M m (y_nx (y_st D N x (nI s)) (if x + 1 < H then x + 1 else 0)) → (∀ k, k < 72 ∨ 83 < k → m k = mem k) → Q m) : wp_X3_goOn mem Q := by
  have hsh := hW.sh
  obtain ⟨⟨e0, e1, e2, e3, e4, e5⟩, ⟨g1, g2, g3, g4, g5⟩, v1, v2, v3, v4, v5, v6⟩ := id hW
  have ej : ∀ l, mem 83 (5 * x + l) = D 11 (5 * x + l) := fun l => by rw [hM.2.2.2.2.1]
  refine p_goOn (t := (D 6, D 7, D 8)) (sh := nI s) (hM.MO e0) (hM.2.1 4 (by omega)) hM.2.2.1 (hM.2.1 2 (by omega)) (hM.2.1 5 (by omega)) (hM.2.1 6 (by omega)) (hM.2.1 7 (by omega)) hN1 v1 v2 v4 (v5 x hx) v3 (ej 0) (ej 1) (ej 2) (ej 3) (ej 4) (hM.1.2.2.2.1.trans e3) hsh (hM.1.2.2.1.trans e2) (hM.1.2.1.trans e1) hx g1 ?_
  have h1 := (hM.st (y_p D N x (nI s)) (y_t D N x (nI s))).field 12 (nI (if x + 1 < H then x + 1 else 0))
  rw [z_M3_n (by omega) (by omega) (by omega), z_M2_n (by omega) (by omega)] at h1
  refine h _ h1 (fun k hk => ?_)
  rw [q_set_n (by omega), z_M3_n (by omega) (by omega) (by omega), z_M2_n (by omega) (by omega)]
theorem y_st_nx (D : q_Mem) (N j y : Nat) (sh : Int32) : y_st (y_nx D y) N j sh = y_nx (y_st D N j sh) y := by
  have e : y_nx (y_st D N j sh) y = q_set (y_st D N j sh) 0 (upd (D 0) 12 (nI y)) := by unfold y_nx; rw [y_st_o (by omega)]
  rw [e]
  funext k
  by_cases c : k = 0
  · rw [c, q_set_s, y_st_o (by omega)]; rfl
  · rw [q_set_n c]
    unfold y_st z_M3 z_M2
    by_cases c8 : k = 8
    · rw [c8, q_set_s, q_set_s]; rfl
    rw [q_set_n c8, q_set_n c8]
    by_cases c7 : k = 7
    · rw [c7, q_set_s, q_set_s]; rfl
    rw [q_set_n c7, q_set_n c7]
    by_cases c6 : k = 6
    · rw [c6, q_set_s, q_set_s]; rfl
    rw [q_set_n c6, q_set_n c6]
    by_cases c10 : k = 10
    · rw [c10, q_set_s, q_set_s]; rfl
    rw [q_set_n c10, q_set_n c10]
    by_cases c5 : k = 5
    · rw [c5, q_set_s, q_set_s]; rfl
    rw [q_set_n c5, q_set_n c5]
    exact q_set_n c
theorem y_nx_nx (D : q_Mem) (x y : Nat) : y_nx (y_nx D x) y = y_nx D y := by
  unfold y_nx
  rw [q_set_set, q_set_s, upd_upd]
theorem y_nx_self {D : q_Mem} {x : Nat} (h : D 0 12 = nI x) : y_nx D x = D := by
  unfold y_nx
  rw [upd_self h, q_set_self rfl]
/-! ===== pass ===== -/
def y_xn (H x : Nat) : Nat → Nat
  | 0 => x
  | k + 1 => if y_xn H x k + 1 < H then y_xn H x k + 1 else 0
theorem y_xn_lt {H x : Nat} (h : x < H) : ∀ k, y_xn H x k < H
  | 0 => h
  | k + 1 => by
    rw [y_xn]
    split
    · assumption
    · omega
def y_run (N H x s : Nat) (D : q_Mem) : Nat → q_Mem
  | 0 => D
  | k + 1 => y_nx (y_st (y_run N H x s D k) N (y_xn H x k) (nI s)) (y_xn H x (k + 1))
theorem y_run_W {D : q_Mem} {N H x s r f : Nat} (h : y_W D N H x s r f) (hx : x < H) : ∀ k, y_W (y_run N H x s D k) N H (y_xn H x k) s r f
  | 0 => h
  | k + 1 => ((y_run_W h hx k).st (y_xn_lt hx k) h.sh).nx (Or.inr (y_xn_lt hx (k + 1)))
theorem p_hb {mem : q_Mem} {H x : Nat} {Q : Int32 → q_Mem → Prop} (e : mem 0 4 = nI H) (hx : x < H) (hH : H ≤ 24) (h : Q (nI (if x + 1 < H then x + 1 else 0)) mem) : wp_X2_hourBehind (nI x) mem Q := by
  unfold wp_X2_hourBehind
  rw [e, nI_1, z_nle2 (by omega) (by omega)]
  by_cases c : x + 1 < H
  · rw [if_pos c] at h
    exact ⟨fun z => absurd z (by omega), fun _ => h⟩
  · rw [if_neg c] at h
    exact ⟨fun _ => h, fun z => absurd (by omega) z⟩
theorem p_ncp {mem : q_Mem} {N H : Nat} {Q : Int32 → q_Mem → Prop} (e0 : mem 1 11 = nI N) (e1 : mem 0 4 = nI H) (hN : N ≤ 6) (hH : H ≤ 24) (h0 : 1 ≤ N → 1 ≤ H → Q 0 mem) (h1 : (N = 0 ∨ H = 0) → Q 1 mem) : wp_X2_nothingCanPass mem Q := by
  unfold wp_X2_nothingCanPass wp_X2_nothingCanPass_17
  rw [e0, e1, z_jeq0 (by omega), z_jeq0 (by omega)]
  exact ⟨fun c => h1 (Or.inl c), fun c => ⟨fun d => h0 (by omega) (by omega), fun d => h1 (Or.inr d)⟩⟩
theorem p_mgT {mem : q_Mem} {N H : Nat} {Q : Int32 → q_Mem → Prop} (e0 : mem 72 0 = nI N) (e1 : mem 72 11 = nI H) (hN : N ≤ 6) (hH : H ≤ 24) (c : 1 ≤ N) (d : 1 ≤ H) (h : Q 1 mem) : wp_X3_mayGo mem Q := by
  unfold wp_X3_mayGo
  rw [e0, e1, z_lit 0, z_nle2 (by omega) (by omega), z_nle2 (by omega) (by omega)]
  exact ⟨fun z => absurd z (by omega), fun _ => ⟨fun z => absurd z (by omega), fun _ => h⟩⟩
theorem p_mgF {mem : q_Mem} {N H : Nat} {Q : Int32 → q_Mem → Prop} (e0 : mem 72 0 = nI N) (e1 : mem 72 11 = nI H) (hN : N ≤ 6) (hH : H ≤ 24) (c : N = 0 ∨ H = 0) (h : Q 0 mem) : wp_X3_mayGo mem Q := by
  unfold wp_X3_mayGo
  rw [e0, e1, z_lit 0, z_nle2 (by omega) (by omega), z_nle2 (by omega) (by omega)]
  exact ⟨fun _ => h, fun z => ⟨fun _ => h, fun y => by omega⟩⟩
theorem o_pass {a : Int32} {mem D : q_Mem} {Q : Int32 → Int32 → q_Mem → Prop} (hC : y_C mem D) (hM : y_M mem D) (hV : y_V D) (hQ : y_K Q) : wp_X2_pass a mem (fun r1 m1 => wp_X3_pass a m1 (fun r2 m2 => Q r1 r2 m2)) := by
  obtain ⟨N, H, x, s, r, f, hW⟩ := id hV
  obtain ⟨⟨e0, e1, e2, e3, e4, e5⟩, ⟨g1, g2, g3, g4, g5⟩, v1, -⟩ := id hW
  have hN := v1.1
  unfold wp_X2_pass
  refine p_wi 1 240 rfl rfl (fun c => b_n0 ?_) (fun c => b_n1 ?_)
  · unfold wp_X3_pass
    exact p_inF 1 240 rfl rfl c (b_n0 (hQ _ _ D hC hM hV))
  refine p_ncp (hC.1.1.trans e0) (hC.1.2.1.trans e1) hN g1 (fun c0 c1 => b_0 ?_) (fun c0 => b_1 ?_)
  rotate_left
  · unfold wp_X3_pass
    exact p_inT 1 240 rfl rfl c (b_n1 (p_mgF (hM.1.1.trans e0) (hM.1.2.1.trans e1) hN g1 c0 (b_n0 (hQ _ _ D hC hM hV))))
  have hx : x < H := by omega
  obtain ⟨n, hn1, hn2, hn3⟩ := z_nat (x := a) (by omega)
  have ca := c
  rw [hn3] at c
  subst hn2
  unfold wp_X2_pass_26
  refine w_rl1 n nI (fun k m => y_C m (y_run N H x s D k) ∧ y_hi mem m) (body := fun K y m => wp_X2_pass_26_b K (nI n) y m _) nI_0.symm ⟨hC, y_hi.rf _⟩ (fun k hk m hP K hK => ?_)
  obtain ⟨hCk, hh⟩ := hP
  have hWk := y_run_W hW hx k
  have hxk := y_xn_lt hx k
  unfold wp_X2_pass_26_b
  rw [z_nle2 (by omega) (by omega), hCk.1.2.2.1, hWk.1.2.2.1, nI_clamp (by omega)]
  refine ⟨fun d => ?_, fun d => ⟨in_nI (by omega) (by omega), ?_⟩⟩
  rotate_left
  · refine s_C hCk hWk c0 hxk (fun m1 h1 f1 => ?_)
    rw [h1.1.2.2.1, y_st_o (by omega), hWk.1.2.2.1]
    refine p_hb (h1.1.2.1.trans (by rw [y_st_o (by omega)]; exact hWk.1.2.1)) hxk g1 ?_
    rintro m7 rfl
    rintro y rfl
    rw [nI_1]
    exact hK _ (by omega) ⟨h1.field (cf := 5) (df := 12) (by omega) _, fun q hq => by rw [q_set_n (by omega), f1 _ (by omega)]; exact hh q hq⟩
  have hkn : k = n := by omega
  subst hkn
  unfold wp_X2_pass_69
  rw [hCk.1.2.2.1, hWk.1.2.2.1]
  have hMm : y_M m D := hM.kept hh
  unfold wp_X3_pass
  refine p_inT 1 240 rfl rfl ca (b_n1 (p_mgT (hMm.1.1.trans e0) (hMm.1.2.1.trans e1) hN g1 c0 c1 (b_n1 ?_)))
  unfold wp_X3_pass_27
  refine w_rl1 k nI (fun j m2 => y_M m2 (y_run N H x s D j) ∧ y_lo m m2) (body := fun K y m2 => wp_X3_pass_27_b K (nI k) y m2 _) nI_0.symm ⟨hMm, y_lo.rf _⟩ (fun j hj m2 hP2 K2 hK2 => ?_)
  obtain ⟨hMj, hl⟩ := hP2
  have hWj := y_run_W hW hx j
  have hxj := y_xn_lt hx j
  unfold wp_X3_pass_27_b
  rw [z_nle2 (by omega) (by omega)]
  refine ⟨fun d => ?_, fun d => ?_⟩
  rotate_left
  · refine s_M hMj hWj c0 hxj (fun m3 h3 f3 => ?_)
    rintro y rfl
    rw [nI_1]
    exact hK2 _ (by omega) ⟨h3, fun q hq => by rw [f3 _ (by omega)]; exact hl q hq⟩
  have hjk : j = k := by omega
  subst hjk
  unfold wp_X3_pass_42
  rw [hMj.1.2.2.1, hWj.1.2.2.1]
  exact hQ _ _ _ (hCk.kept hl) hMj hWj.V

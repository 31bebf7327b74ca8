/-! ===== the reference: the first cheapest order ===== -/
theorem y_exo {D : q_Mem} {N H x s r f h : Nat} (hW : y_W D N H x s r f) (hh : h < H) {l : List Nat} (hl : l.length = N) (hp : k_pm N 0 l = true) {face : Nat} (h1 : 1 ≤ face) (h2 : face < N) : z_ov (y_pF D N h (k_ls l) face) (y_wF D N h (k_ls l) face) = nI (y_en D N h (k_pr 0 l face)) := by
  have hN := hW.2.2.1.1
  have h64 := k_64 hN
  have hpos : 1 ≤ 2 ^ N := Nat.one_le_two_pow
  have hS : ¬ k_pr 0 l face = 0 := by
    obtain ⟨k, rfl⟩ : ∃ k, face = k + 1 := ⟨face - 1, by omega⟩
    obtain ⟨a1, a2, a3, a4⟩ := k_pr_all hN l 0 k (by omega) hp (by omega)
    have := (k_gt (S := k_pr 0 l k) (i := k_ls l k) (by omega) (by omega) a2).1
    rw [a3]; omega
  have all : ∀ g : Nat → Int32, z_sm (fun j => g (k_ls l j)) N = z_sm g N := fun g => by
    rw [z_sm_pr g hN hl hp N (Nat.le_refl _)]
    have := k_pr_end l 0 hp
    rw [hl] at this
    rw [this, ← k_all hN, z_ss_all g hN]
  have ep : y_pF D N h (k_ls l) face = y_pB D N h (nI (k_pr 0 l face)) := by
    unfold y_pF y_pB z_bF
    rw [if_neg (by omega), if_neg (by omega), z_sm_pr (D 2) hN hl hp face (by omega), all (D 2)]
  have ew : y_wF D N h (k_ls l) face = y_wB D N h (nI (k_pr 0 l face)) := by
    unfold y_wF y_wB z_bF
    rw [if_neg (by omega), if_neg (by omega), z_sm_pr (D 3) hN hl hp face (by omega), all (D 3)]
  rw [ep, ew]
  exact y_en_eq hW hh hS
def k_ov : k_A → Int32
  | none => -1
  | some a => nI a.1
def k_nt (N : Nat) (l : List Nat) : List (List Nat) → Prop
  | [] => k_nl N l = none
  | m :: _ => k_nl N l = some m
theorem k_ch_at {N : Nat} {l : List Nat} {r : List (List Nat)} (h : k_ch N (l :: r) = true) : l.length = N ∧ k_pm N 0 l = true ∧ k_nt N l r ∧ k_ch N r = true := by
  cases r with
  | nil =>
    have h' : (decide (l.length = N) && k_pm N 0 l && decide (k_nl N l = none) && k_ch N []) = true := h
    rw [Bool.and_eq_true, Bool.and_eq_true, Bool.and_eq_true] at h'
    have e : k_nl N l = none := of_decide_eq_true h'.1.2
    exact ⟨of_decide_eq_true h'.1.1.1, h'.1.1.2, e, h'.2⟩
  | cons m r =>
    have h' : (decide (l.length = N) && k_pm N 0 l && decide (k_nl N l = some m) && k_ch N (m :: r)) = true := h
    rw [Bool.and_eq_true, Bool.and_eq_true, Bool.and_eq_true] at h'
    have e : k_nl N l = some m := of_decide_eq_true h'.1.2
    exact ⟨of_decide_eq_true h'.1.1.1, h'.1.1.2, e, h'.2⟩
/-- where the reference stands ahead of an order -/
def k_at (N : Nat) (y3 : Int32) (m : q_Mem) : List (List Nat) → Prop
  | [] => y3 = 0
  | l :: _ => y3 = 1 ∧ ∀ j, j < N → m 85 j = nI (k_ls l j)
theorem p_fb91 {D mem m : q_Mem} {N H x s r f h : Nat} {a : Int32} {l : List Nat} {rest : List (List Nat)} {x2 : Int32} {K : Int32 → Int32 → q_Mem → Prop} {Q : Int32 → q_Mem → Prop} (hM : y_M m D) (hW : y_W D N H x s r f) (hN1 : 1 ≤ N) (hl : l.length = N) (hp : k_pm N 0 l = true) (hnt : k_nt N l rest) (ho : ∀ j, j < N → m 85 j = nI (k_ls l j)) (hK : ∀ y3 m', (∀ k, k ≠ 85 → m' k = m k) → k_at N y3 m' rest → K x2 y3 m') : wp_X3_findBest_91 K a x2 m Q := by
  have hN := hW.2.2.1.1
  have hpos : 1 ≤ 2 ^ N := Nat.one_le_two_pow
  unfold wp_X3_findBest_91
  refine p_goOrder (o := k_ls l) (hM.1.1.trans hW.1.1) hN hN1 (fun k hk => ⟨ho k hk, ?_⟩) (fun hz => ?_) (fun o' hz g hg => ?_)
  · have := (k_pr_all hN l 0 k (by omega) hp (by omega)).1
    omega
  · have e : k_nl N l = none := by unfold k_nl; rw [hz]
    refine hK _ _ (fun k _ => rfl) ?_
    cases rest with
    | nil => rfl
    | cons l2 r2 =>
      rw [k_nt, e] at hnt
      exact absurd hnt (by simp)
  · have e : k_nl N l = some ((List.range N).map o') := by unfold k_nl; rw [hz]
    refine hK _ _ (fun k hk => q_set_n hk) ?_
    cases rest with
    | nil =>
      rw [k_nt, e] at hnt
      exact absurd hnt (by simp)
    | cons l2 r2 =>
      rw [k_nt, e] at hnt
      injection hnt with hnt
      refine ⟨rfl, fun j hj => ?_⟩
      rw [q_set_s, hg j hj, ← hnt]
      unfold k_ls
      rw [List.getD_eq_getElem?_getD, List.getElem?_map, List.getElem?_range hj]
      rfl
theorem p_fb56 {D m : q_Mem} {N H x s r f h : Nat} {a : Int32} {l : List Nat} {rest : List (List Nat)} {x2 : Int32} {K : Int32 → Int32 → q_Mem → Prop} {Q : Int32 → q_Mem → Prop} (hM : y_M m D) (hW : y_W D N H x s r f) (hN1 : 1 ≤ N) (hl : l.length = N) (hp : k_pm N 0 l = true) (hnt : k_nt N l rest) (ho : ∀ j, j < N → m 85 j = nI (k_ls l j)) (hK : ∀ y3 m', (∀ k, k ≠ 85 → k ≠ 86 → m' k = m k) → (∀ j, j < N → m' 86 j = nI (k_ls l j)) → k_at N y3 m' rest → K x2 y3 m') : wp_X3_findBest_56 K a x2 m Q := by
  have hN := hW.2.2.1.1
  unfold wp_X3_findBest_56 wp_X3_findBest_62
  refine w_rl1 N nI (fun k m' => ∃ g : Nat → Int32, m' = q_set m 86 g ∧ ∀ j, j < k → g j = nI (k_ls l j)) (body := fun K1 y m' => wp_X3_findBest_62_b K K1 a x2 y m' Q) nI_0.symm ⟨m 86, (q_set_self rfl).symm, fun j hj => by omega⟩ (fun k hk m' hP K1 hK1 => ?_)
  obtain ⟨g, rfl, hg⟩ := hP
  have hMg : y_M (q_set m 86 g) D := hM.scratch (by omega) g
  have ho' : ∀ j, j < N → q_set m 86 g 85 j = nI (k_ls l j) := fun j hj => by rw [q_set_n (by decide)]; exact ho j hj
  unfold wp_X3_findBest_62_b
  have n0 : q_set m 86 g 72 0 = nI N := hMg.1.1.trans hW.1.1
  rw [n0, z_nle2 (by omega) (by omega), show q_al 85 = 6 from rfl, show q_al 86 = 6 from rfl, nI_clamp (by omega), q_set_s]
  refine ⟨fun c => ?_, fun c => ⟨in_nI (by omega) (by omega), in_nI (by omega) (by omega), ?_⟩⟩
  · refine p_fb91 (mem := m) (h := h) hMg hW hN1 hl hp hnt ho' (fun y3 m2 hf hat => ?_)
    refine hK y3 m2 (fun k h1 h2 => by rw [hf k h1, q_set_n h2]) (fun j hj => ?_) hat
    rw [hf 86 (by decide), q_set_s]
    exact hg j (by omega)
  · rintro m4 rfl
    rintro x5 rfl
    rw [nI_1, q_set_set, ho' k (by omega)]
    refine hK1 _ (by omega) ⟨_, rfl, fun j hj => ?_⟩
    by_cases e : j = k
    · rw [e, upd_s]
    · rw [upd_n e]; exact hg j (by omega)
theorem y_M.fr {mem m D : q_Mem} (h : y_M mem D) (g : ∀ k, k ≠ 85 → k ≠ 86 → m k = mem k) : y_M m D := by
  obtain ⟨⟨a1, a2, a3, a4, a5, a6⟩, b, c, d, e, f⟩ := h
  exact ⟨⟨by rw [g _ (by omega) (by omega)]; exact a1, by rw [g _ (by omega) (by omega)]; exact a2, by rw [g _ (by omega) (by omega)]; exact a3, by rw [g _ (by omega) (by omega)]; exact a4, by rw [g _ (by omega) (by omega)]; exact a5, by rw [g _ (by omega) (by omega)]; exact a6⟩, fun k hk => by rw [g _ (by omega) (by omega)]; exact b k hk, by rw [g _ (by omega) (by omega)]; exact c, by rw [g _ (by omega) (by omega)]; exact d, by rw [g _ (by omega) (by omega)]; exact e, fun j hj => by rw [g _ (by omega) (by omega)]; exact f j hj⟩
theorem p_findBest3 {mem D : q_Mem} {N H x s r f h : Nat} {Q : Int32 → q_Mem → Prop} (hM : y_M mem D) (hW : y_W D N H x s r f) (hN1 : 1 ≤ N) (hh : h < H) (hq : ∀ m, (∀ k, k ≠ 85 → k ≠ 86 → m k = mem k) → (∀ j, j < N → m 86 j = nI (k_ls (k_bst N (y_en D N h) N 0).2 j)) → Q (nI (k_bst N (y_en D N h) N 0).1) m) : wp_X3_findBest (nI h) mem Q := by
  have hN := hW.2.2.1.1
  have hpos : 1 ≤ 2 ^ N := Nat.one_le_two_pow
  have he := fun S => y_enr hW hh S
  obtain ⟨ch1, ch2, ch3⟩ := k_chain ⟨N - 1, by omega⟩
  rw [show (⟨N - 1, by omega⟩ : Fin 6).val + 1 = N by show N - 1 + 1 = N; omega] at ch1 ch2 ch3
  have hfin := k_main N (y_en D N h) N 0 ch3
  unfold wp_X3_findBest
  refine p_plain (hM.1.1.trans hW.1.1) hN (fun g0 hg0 => ?_)
  unfold wp_X3_findBest_8
  refine ⟨fun n y2 y3 m => ∃ (rest : List (List Nat)) (acc : k_A), n = rest.length ∧ k_ch N rest = true ∧ k_fd (k_c (y_en D N h) 0) acc rest = some (k_bst N (y_en D N h) N 0) ∧ y2 = k_ov acc ∧ (∀ k, k ≠ 85 → k ≠ 86 → m k = mem k) ∧ (∀ a, acc = some a → a.1 < 2147483648 ∧ ∀ j, j < N → m 86 j = nI (k_ls a.2 j)) ∧ k_at N y3 m rest, ⟨_, k_lx N N 0, none, rfl, ch1, hfin, rfl, fun k h1 h2 => q_set_n h1, fun a ha => absurd ha (by simp), ?_⟩, ?_⟩
  · cases hlx : k_lx N N 0 with
    | nil => rw [hlx] at ch2; exact absurd ch2 (by simp)
    | cons l rest =>
      rw [hlx] at ch2
      have hl : l = List.range N := by simpa using ch2
      refine ⟨rfl, fun j hj => ?_⟩
      rw [q_set_s, hg0 j hj, hl]
      unfold k_ls
      rw [List.getD_eq_getElem?_getD, List.getElem?_range hj]
      rfl
  rintro n y2 y3 m ⟨rest, acc, rfl, hch, hfd, rfl, hfr, hac, hat⟩
  have hMm : y_M m D := hM.fr hfr
  unfold wp_X3_findBest_8_b wp_X3_findBest_99
  cases rest with
  | nil =>
    rw [k_at] at hat
    subst hat
    rw [k_fd] at hfd
    subst hfd
    refine b_ht rfl ?_
    exact hq m hfr (hac _ rfl).2
  | cons l rest =>
    obtain ⟨hy3, ho⟩ := hat
    subst hy3
    refine b_1 ?_
    obtain ⟨hl, hp, hnt, hch2⟩ := k_ch_at hch
    rw [k_fd] at hfd
    have hcl := k_c_le he l 0
    have hc18 : k_c (y_en D N h) 0 l ≤ 18000000 := by
      rw [hl] at hcl
      have : N * 3000000 ≤ 6 * 3000000 := Nat.mul_le_mul_right _ hN
      omega
    have pr0 : k_pr 0 l 0 = 0 := by cases l <;> rfl
    have hc0 := k_c_at (y_en D N h) l 0 0 (by omega)
    rw [pr0, List.drop_zero, show y_en D N h 0 = 0 from rfl, Nat.zero_add] at hc0
    unfold wp_X3_findBest_18
    refine w_rl2 (N - 1) (fun t => nI (t + 1)) (fun t y m' => m' = m ∧ ∃ v, y = nI v ∧ v + k_c (y_en D N h) (k_pr 0 l (t + 1)) (l.drop (t + 1)) = k_c (y_en D N h) 0 l) (body := fun K y1 y2 m' => wp_X3_findBest_18_b _ K (nI h) (k_ov acc) y1 y2 m' Q) rfl ⟨rfl, 0, nI_0.symm, by rw [Nat.zero_add]; exact hc0.symm⟩ (fun t ht y m' hP K hK => ?_)
    obtain ⟨hm, v, rfl, hv⟩ := hP
    subst hm
    unfold wp_X3_findBest_18_b
    rw [hMm.1.1, hW.1.1, z_nle2 (by omega) (by omega)]
    refine ⟨fun c => ?_, fun c => ?_⟩
    rotate_left
    · refine p_excessOf (og := k_ls l) hMm hW hh (by omega) (fun k hk => ⟨ho k hk, (k_pr_all hN l 0 k (by omega) hp (by omega)).1⟩) ?_
      rw [y_exo hW hh hl hp (by omega) (by omega)]
      rintro x4 rfl
      rintro x5 rfl
      rw [nI_1, nI_add]
      refine hK _ _ (by omega) ⟨rfl, _, rfl, ?_⟩
      rw [k_c_at (y_en D N h) l 0 (t + 1) (by omega)] at hv
      omega
    have htN : t + 1 = N := by omega
    rw [htN, List.drop_of_length_le (by omega), k_c, Nat.add_zero] at hv
    subst hv
    generalize hcst : k_c (y_en D N h) 0 l = cst at *
    unfold wp_X3_findBest_45
    have go56 : k_mg acc (some (cst, l)) = some (cst, l) → wp_X3_findBest_56 (fun zx2 zx3 zmem => ∃ n2, n2 < (l :: rest).length ∧ ∃ (rest' : List (List Nat)) (acc : k_A), n2 = rest'.length ∧ k_ch N rest' = true ∧ k_fd (k_c (y_en D N h) 0) acc rest' = some (k_bst N (y_en D N h) N 0) ∧ zx2 = k_ov acc ∧ (∀ k, k ≠ 85 → k ≠ 86 → zmem k = mem k) ∧ (∀ a, acc = some a → a.1 < 2147483648 ∧ ∀ j, j < N → zmem 86 j = nI (k_ls a.2 j)) ∧ k_at N zx3 zmem rest') (nI h) (nI cst) m' Q := by
      intro hmg
      refine p_fb56 (h := h) hMm hW hN1 hl hp hnt ho (fun y3 m2 hf hb hat2 => ?_)
      refine ⟨rest.length, by simp, rest, some (cst, l), rfl, hch2, by rw [← hmg]; exact hfd, rfl, fun k h1 h2 => by rw [hf k h1 h2]; exact hfr k h1 h2, fun a ha => ?_, hat2⟩
      injection ha with ha
      subst ha
      exact ⟨by show cst < 2147483648; omega, hb⟩
    have go91 : k_mg acc (some (cst, l)) = acc → wp_X3_findBest_91 (fun zx2 zx3 zmem => ∃ n2, n2 < (l :: rest).length ∧ ∃ (rest' : List (List Nat)) (acc : k_A), n2 = rest'.length ∧ k_ch N rest' = true ∧ k_fd (k_c (y_en D N h) 0) acc rest' = some (k_bst N (y_en D N h) N 0) ∧ zx2 = k_ov acc ∧ (∀ k, k ≠ 85 → k ≠ 86 → zmem k = mem k) ∧ (∀ a, acc = some a → a.1 < 2147483648 ∧ ∀ j, j < N → zmem 86 j = nI (k_ls a.2 j)) ∧ k_at N zx3 zmem rest') (nI h) (k_ov acc) m' Q := by
      intro hmg
      refine p_fb91 (mem := m') (h := h) hMm hW hN1 hl hp hnt ho (fun y3 m2 hf hat2 => ?_)
      refine ⟨rest.length, by simp, rest, acc, rfl, hch2, by rw [hmg] at hfd; exact hfd, rfl, fun k h1 h2 => by rw [hf k h1]; exact hfr k h1 h2, fun a ha => ?_, hat2⟩
      have := hac a ha
      exact ⟨this.1, fun j hj => by rw [hf 86 (by decide)]; exact this.2 j hj⟩
    cases acc with
    | none => exact b_ht rfl (go56 rfl)
    | some a =>
      have ha := (hac a rfl).1
      have ne : ¬ k_ov (some a) = (-1 : Int32) := by show ¬ nI a.1 = (-1 : Int32); rw [z_eq, z_nI ha, t_m1]; omega
      refine b_sk ne ?_
      rw [show (k_ov (some a) ≤ nI cst) ↔ a.1 ≤ cst from z_nle2 ha (by omega)]
      refine ⟨fun d => go91 ?_, fun d => go56 ?_⟩
      · rw [k_mg, if_neg (by show ¬ cst < a.1; omega)]
      · rw [k_mg, if_pos (by show cst < a.1; omega)]
theorem y_C.fr {mem m D : q_Mem} (h : y_C mem D) (g : ∀ k, k ≠ 32 → k ≠ 33 → m k = mem k) : y_C m D := by
  obtain ⟨⟨a1, a2, a3, a4, a5, a6⟩, b, c, d, e, f⟩ := h
  exact ⟨⟨by rw [g _ (by omega) (by omega)]; exact a1, by rw [g _ (by omega) (by omega)]; exact a2, by rw [g _ (by omega) (by omega)]; exact a3, by rw [g _ (by omega) (by omega)]; exact a4, by rw [g _ (by omega) (by omega)]; exact a5, by rw [g _ (by omega) (by omega)]; exact a6⟩, fun k hk => by rw [g _ (by omega) (by omega)]; exact b k hk, by rw [g _ (by omega) (by omega)]; exact c, fun x k hx hk => by rw [g _ (by omega) (by omega)]; exact d x k hx hk, fun i j hi hj => by rw [g _ (by omega) (by omega)]; exact e i j hi hj, fun i j hi hj => by rw [g _ (by omega) (by omega)]; exact f i j hi hj⟩
theorem o_best {a : Int32} {mem D : q_Mem} {Q : Int32 → Int32 → q_Mem → Prop} (hC : y_C mem D) (hM : y_M mem D) (hV : y_V D) (hQ : y_K Q) : wp_X2_best a mem (fun r1 m1 => wp_X3_best a m1 (fun r2 m2 => Q r1 r2 m2)) := by
  obtain ⟨N, H, x, s, r, f, hW⟩ := id hV
  obtain ⟨⟨e0, e1, e2, e3, e4, e5⟩, ⟨g1, g2, g3, g4, g5⟩, v1, -⟩ := id hW
  have hN := v1.1
  have q : ∀ r : Int32, Q r r mem := fun r => hQ _ _ D hC hM hV
  have mc := hM.1.1.trans e0
  have md := hM.1.2.1.trans e1
  unfold wp_X2_best
  refine p_hrefC (hC.1.1.trans e0) (hC.1.2.1.trans e1) hN g1 (fun c => ?_) (fun c d => ?_) (fun c d => b_ht rfl ⟨in_int c.1 (by omega), ?_⟩)
  · refine b_sk (by decide) ?_
    unfold wp_X3_best
    exact p_hrefM mc md hN g1 (fun _ => b_sk (by decide) (q _)) (fun z _ => absurd z c) (fun z _ => absurd z c)
  · refine b_sk (by decide) ?_
    unfold wp_X3_best
    exact p_hrefM mc md hN g1 (fun z => absurd c z) (fun _ _ => b_sk (by decide) (q _)) (fun _ z => absurd z (by omega))
  obtain ⟨h, hh1, hh2, hh3⟩ := z_nat c.1
  have hhH : h < H := by omega
  have hcl : a.toNatClampNeg = h := by rw [hh2, nI_clamp (by omega)]
  rw [hcl]
  refine p_findBest0 hC hW d hhH (fun m1 f1 o1 => ?_)
  have hC1 : y_C m1 D := hC.fr f1
  have hM1 : y_M m1 D := hM.kept (fun k hk => f1 k (by omega) (by omega))
  unfold wp_X3_best
  refine p_hrefM (hM1.1.1.trans e0) (hM1.1.2.1.trans e1) hN g1 (fun z => absurd c z) (fun _ z => absurd z (by omega)) (fun _ _ => b_ht rfl ?_)
  rw [hh2]
  refine p_findBest3 hM1 hW d hhH (fun m2 f2 o2 => ?_)
  exact hQ _ _ D (hC1.kept (fun k hk => f2 k (by omega) (by omega))) (hM1.fr f2) hV

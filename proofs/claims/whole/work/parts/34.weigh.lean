/-! ===== an excess is small ===== -/
theorem z_flr {a b : Int32} {A : Nat} (hb : 0 < b.toInt) (ha : a.toInt.natAbs ≤ A) (hA : A ≤ 2000000000) : (z_fl a b).toInt.natAbs ≤ A + 1 := by
  have h1 : (a / b).toInt = a.toInt.tdiv b.toInt := z_div hb
  have h2 : (a.toInt.tdiv b.toInt).natAbs ≤ a.toInt.natAbs := by rw [Int.natAbs_tdiv]; exact Nat.div_le_self _ _
  unfold z_fl
  by_cases c : a.toInt.tmod b.toInt < 0
  · rw [if_pos c, z_sub (by rw [h1, t_1]; omega) (by rw [h1, t_1]; omega), h1, t_1]; omega
  · rw [if_neg c, h1]; omega
theorem z_btr {o i ah al : Int32} {B : Nat} (ho : o.toInt.natAbs ≤ B) (hi : i.toInt.natAbs ≤ B) (hB : B ≤ 2600) (h1 : 0 ≤ ah.toInt ∧ ah.toInt ≤ 300) (h2 : 0 < ((2 : Int32) + al).toInt) : (z_bt o i ah al).toInt.natAbs ≤ B + (2 * B * 301 + 1) := by
  have e1 : (i - o).toInt = i.toInt - o.toInt := z_sub (by omega) (by omega)
  have e2 : ((1 : Int32) + ah).toInt = 1 + ah.toInt := by rw [z_add (by rw [t_1]; omega) (by rw [t_1]; omega), t_1]
  have e3 : ((i - o).toInt * ((1 : Int32) + ah).toInt).natAbs ≤ 2 * B * 301 := by
    rw [Int.natAbs_mul]
    exact Nat.mul_le_mul (by omega) (by omega)
  have e4 : ((i - o) * ((1 : Int32) + ah)).toInt.natAbs ≤ 2 * B * 301 := by rw [z_mul (by omega) (by omega)]; exact e3
  have e5 := z_flr h2 e4 (by omega)
  unfold z_bt
  rw [z_add (by omega) (by omega)]
  omega
theorem z_ssr {f : Nat → Int32} {S : Int32} {N : Nat} (h : ∀ i, i < N → 1 ≤ (f i).toInt ∧ (f i).toInt ≤ 50) (hN : N ≤ 6) : ∀ k, k ≤ N → 0 ≤ (z_ss f S k).toInt ∧ (z_ss f S k).toInt ≤ 50 * k
  | 0, _ => by simp [z_ss]
  | k + 1, hk => by
    have a := z_ssr (S := S) h hN k (by omega)
    have b := h k (by omega)
    rw [z_ss]
    split
    · omega
    · rw [z_add (by omega) (by omega)]; omega
theorem z_pir {d t : Int32} (hd : 0 ≤ d.toInt ∧ d.toInt ≤ 1000) (h : -30 ≤ t.toInt ∧ t.toInt ≤ 50) : (z_pi d t).toInt.natAbs ≤ 2600 := by
  have hs := z_sar h
  have h1 : 0 ≤ d.toInt * (z_sa t).toInt := Int.mul_nonneg hd.1 hs.1
  have h2 : d.toInt * (z_sa t).toInt ≤ 1000 * 2600 := Int.mul_le_mul hd.2 hs.2 hs.1 (by omega)
  unfold z_pi
  rw [z_div (by decide), z_mul (by omega) (by omega), t_1000, Int.tdiv_eq_ediv_of_nonneg h1]
  omega
theorem z_sar2 {t : Int32} (h : t.toInt.natAbs ≤ 40000) : (z_sa t).toInt.natAbs ≤ 40 * t.toInt.natAbs + 600 := by
  unfold z_sa
  have e40 : (40 * t).toInt = 40 * t.toInt := z_mul (by rw [t_40]; omega) (by rw [t_40]; omega)
  have e20 : (20 * t).toInt = 20 * t.toInt := z_mul (by rw [t_20]; omega) (by rw [t_20]; omega)
  by_cases c : 0 ≤ t
  · rw [if_pos c, z_add (by rw [e40, t_600]; omega) (by rw [e40, t_600]; omega), e40, t_600]; omega
  · rw [if_neg c, z_add (by rw [e20, t_600]; omega) (by rw [e20, t_600]; omega), e20, t_600]; omega
def y_e (D : q_Mem) (N h S : Nat) : Int32 := z_ov (y_pB D N h (nI S)) (y_wB D N h (nI S))
def y_en (D : q_Mem) (N h S : Nat) : Nat := if S = 0 then 0 else (y_e D N h S).toInt.toNat
theorem y_er {D : q_Mem} {N H x s r f h : Nat} (hW : y_W D N H x s r f) (hh : h < H) (S : Nat) : 0 ≤ (y_e D N h S).toInt ∧ (y_e D N h S).toInt ≤ 3000000 := by
  obtain ⟨-, -, v1, v2, v3, v4, v5, v6⟩ := id hW
  obtain ⟨hN, hL, hS⟩ := v1
  obtain ⟨hO, hI, hr, ho, hn⟩ := v5 h hh
  have p := z_btr (B := 2600) (ah := z_ss (D 2) (nI S) N) (al := z_sm (D 2) N) (z_pir hO ho) (z_pir hI hn) (by omega) (by have := z_ssr (S := nI S) hS hN N (Nat.le_refl _); omega) (z_2p hN (z_sm_rng hS hN N (Nat.le_refl _)))
  have w := z_btr (B := 50) (o := D 11 (5 * h + 1)) (i := D 11 (5 * h + 4)) (ah := z_ss (D 3) (nI S) N) (al := z_sm (D 3) N) (by omega) (by omega) (by omega) (by have := z_ssr (S := nI S) v2 hN N (Nat.le_refl _); omega) (z_2p hN (z_sm_rng v2 hN N (Nat.le_refl _)))
  unfold y_e y_pB y_wB
  generalize z_bt (z_pi (D 11 (5 * h)) (D 11 (5 * h + 1))) (z_pi (D 11 (5 * h + 3)) (D 11 (5 * h + 4))) (z_ss (D 2) (nI S) N) (z_sm (D 2) N) = P at *
  generalize z_bt (D 11 (5 * h + 1)) (D 11 (5 * h + 4)) (z_ss (D 3) (nI S) N) (z_sm (D 3) N) = T at *
  have s := z_sar2 (t := T) (by omega)
  have e := z_sub (x := P) (y := z_sa T) (by omega) (by omega)
  unfold z_ov
  by_cases c : P - z_sa T < 0
  · rw [if_pos c, t_0]; omega
  · rw [if_neg c]
    rw [z_lt, t_0] at c
    rw [e] at c ⊢
    omega
theorem y_enr {D : q_Mem} {N H x s r f h : Nat} (hW : y_W D N H x s r f) (hh : h < H) (S : Nat) : y_en D N h S ≤ 3000000 := by
  have := y_er hW hh S
  unfold y_en
  split <;> omega
theorem y_en_eq {D : q_Mem} {N H x s r f h : Nat} (hW : y_W D N H x s r f) (hh : h < H) {S : Nat} (hS : ¬ S = 0) : y_e D N h S = nI (y_en D N h S) := by
  have := y_er hW hh S
  unfold y_en
  rw [if_neg hS]
  exact z_of (by omega)
/-! ===== masks ===== -/
def k_pc (S : Nat) : Nat := ((List.range 6).filter S.testBit).length
theorem k_tab : ∀ (S : Fin 64) (i : Fin 6), ((nI S.val &&& ((1 : Int32) <<< (nI i.val &&& 31)) = 0) ↔ S.val.testBit i.val = false) ∧ nI S.val ||| ((1 : Int32) <<< (nI i.val &&& 31)) = nI (S.val ||| 2 ^ i.val) ∧ (S.val.testBit i.val = false → S.val < S.val ||| 2 ^ i.val ∧ k_pc (S.val ||| 2 ^ i.val) = k_pc S.val + 1) := by decide +kernel
theorem k_tab2 : ∀ (N : Fin 7), ((1 : Int32) <<< (nI N.val &&& 31)) - (1 : Int32) = nI (2 ^ N.val - 1) ∧ k_pc (2 ^ N.val - 1) = N.val ∧ 2 ^ N.val ≤ 64 ∧ ∀ S : Fin 64, S.val < 2 ^ N.val - 1 → k_pc S.val < N.val ∧ (List.range N.val).any (fun k => !S.val.testBit k) = true := by decide +kernel
theorem k_tab3 : ∀ (N : Fin 7) (i : Fin 6) (S : Fin 64), i.val < N.val → S.val < 2 ^ N.val → S.val ||| 2 ^ i.val < 2 ^ N.val := by decide +kernel
theorem k_and {S i : Nat} (hS : S < 64) (hi : i < 6) : (nI S &&& ((1 : Int32) <<< (nI i &&& 31)) = 0) ↔ S.testBit i = false := (k_tab ⟨S, hS⟩ ⟨i, hi⟩).1
theorem k_or {S i : Nat} (hS : S < 64) (hi : i < 6) : nI S ||| ((1 : Int32) <<< (nI i &&& 31)) = nI (S ||| 2 ^ i) := (k_tab ⟨S, hS⟩ ⟨i, hi⟩).2.1
theorem k_gt {S i : Nat} (hS : S < 64) (hi : i < 6) (h : S.testBit i = false) : S < S ||| 2 ^ i ∧ k_pc (S ||| 2 ^ i) = k_pc S + 1 := (k_tab ⟨S, hS⟩ ⟨i, hi⟩).2.2 h
theorem k_bd {N S i : Nat} (hN : N ≤ 6) (hi : i < N) (hS : S < 2 ^ N) : S ||| 2 ^ i < 2 ^ N := k_tab3 ⟨N, by omega⟩ ⟨i, by omega⟩ ⟨S, by have := (k_tab2 ⟨N, by omega⟩).2.2.1; simp only [] at this; omega⟩ hi hS
theorem k_64 {N : Nat} (hN : N ≤ 6) : 2 ^ N ≤ 64 := (k_tab2 ⟨N, by omega⟩).2.2.1
theorem k_all {N : Nat} (hN : N ≤ 6) : ((1 : Int32) <<< (nI N &&& 31)) - (1 : Int32) = nI (2 ^ N - 1) := (k_tab2 ⟨N, by omega⟩).1
theorem k_pcN {N : Nat} (hN : N ≤ 6) : k_pc (2 ^ N - 1) = N := (k_tab2 ⟨N, by omega⟩).2.1
theorem k_lt {N S : Nat} (hN : N ≤ 6) (hS : S < 2 ^ N - 1) : k_pc S < N ∧ ∃ k, k < N ∧ S.testBit k = false := by
  have h64 := k_64 hN
  have := (k_tab2 ⟨N, by omega⟩).2.2.2 ⟨S, by omega⟩ hS
  refine ⟨this.1, ?_⟩
  have h2 := this.2
  rw [List.any_eq_true] at h2
  obtain ⟨k, hk1, hk2⟩ := h2
  exact ⟨k, List.mem_range.mp hk1, by simpa using hk2⟩
/-! ===== the class: weighing sets ===== -/
def k_o : Option Nat → Int32
  | none => -1
  | some i => nI i
theorem p_bestBehind {N S : Nat} {L : Nat → Nat} {mem : q_Mem} {Q : Int32 → q_Mem → Prop} (hN : N ≤ 6) (hS : S < 2 ^ N) (hL : ∀ i, i < N → S.testBit i = false → mem 32 (S ||| 2 ^ i) = nI (L (S ||| 2 ^ i)) ∧ L (S ||| 2 ^ i) < 2147483648) (h : Q (k_o (k_bb L S N)) mem) : wp_X0_bestBehind (nI S) (nI N) mem Q := by
  have h64 := k_64 hN
  unfold wp_X0_bestBehind wp_X0_bestBehind_5
  refine w_lp2 N (fun _ => True) (fun k => k_o (k_bb L S k)) nI (fun _ => mem) (body := fun K y1 y2 m => wp_X0_bestBehind_5_b K (nI S) (nI N) y1 y2 m Q) trivial rfl nI_0.symm rfl (fun k hk _ K hK => ?_)
  unfold wp_X0_bestBehind_5_b wp_X0_bestBehind_70
  rw [z_nle2 (by omega) (by omega)]
  refine ⟨fun c => ?_, fun c => ?_⟩
  · rw [show k = N by omega]; exact h
  have hkN : k < N := by omega
  have hK' := hK hkN trivial
  rw [k_bb] at hK'
  rw [k_and (by omega) (by omega)]
  unfold wp_X0_bestBehind_25 wp_X0_bestBehind_61 wp_X0_bestBehind_64
  refine ⟨fun c => b_ht rfl ?_, fun c => b_1 ?_⟩
  · rintro y rfl
    rw [nI_1]
    rw [if_pos (by simpa using c)] at hK'
    exact hK'
  rw [if_neg (by rw [c]; decide)] at hK'
  cases hb : k_bb L S k with
  | none =>
    rw [hb] at hK'
    refine b_ht rfl ?_
    rintro y rfl
    rw [nI_1]
    exact hK'
  | some i =>
    rw [hb] at hK'
    have hi := k_bb_free hb
    obtain ⟨l1, l2⟩ := hL i (by omega) hi.2
    obtain ⟨l3, l4⟩ := hL k hkN c
    have b1 := k_bd hN hkN hS
    have b2 := k_bd (i := i) hN (by omega) hS
    have ne : ¬ nI i = (-1 : Int32) := by rw [z_eq, z_nI (by omega), t_m1]; omega
    refine b_sk ne ?_
    show _ ∧ _ ∧ _
    rw [show k_o (some i) = nI i from rfl, k_or (by omega) (by omega), k_or (by omega) (by omega), nI_clamp (by omega), nI_clamp (by omega), show q_al 32 = 64 from rfl, l1, l3, z_nle2 l2 l4]
    refine ⟨in_nI (by omega) (by omega), in_nI (by omega) (by omega), fun d => ?_, fun d => ?_⟩
    · rintro y rfl
      rw [nI_1]
      simp only [if_neg (show ¬ L (S ||| 2 ^ k) < L (S ||| 2 ^ i) by omega)] at hK'
      exact hK'
    · rintro y rfl
      rw [nI_1]
      simp only [if_pos (show L (S ||| 2 ^ k) < L (S ||| 2 ^ i) by omega)] at hK'
      exact hK'
theorem k_bst_le {N E : Nat} {e : Nat → Nat} (he : ∀ S, e S ≤ E) : ∀ n S, (k_bst N e n S).1 ≤ n * E
  | 0, _ => by simp [k_bst]
  | n + 1, S => by
    have h1 := he S
    rw [k_bst]
    cases k_bb (fun T => (k_bst N e n T).1) S N with
    | none => simp only []; rw [Nat.succ_mul]; omega
    | some i =>
      have := k_bst_le (N := N) he n (S ||| 2 ^ i)
      simp only []
      rw [Nat.succ_mul]; omega
/-- what the table holds for a set -/
def k_L (N : Nat) (e : Nat → Nat) (S : Nat) : Nat := (k_bst N e (N - k_pc S) S).1
theorem k_bb_cg {L M : Nat → Nat} {S : Nat} : ∀ {K : Nat}, (∀ i, i < K → S.testBit i = false → L (S ||| 2 ^ i) = M (S ||| 2 ^ i)) → k_bb L S K = k_bb M S K
  | 0, _ => rfl
  | K + 1, h => by
    have ih : k_bb L S K = k_bb M S K := k_bb_cg (fun i hi => h i (by omega))
    rw [k_bb, k_bb, ih]
    by_cases c : S.testBit K = true
    · rw [if_pos c, if_pos c]
    · rw [if_neg c, if_neg c]
      cases hb : k_bb M S K with
      | none => rfl
      | some i =>
        have hi := k_bb_free hb
        simp only []
        rw [h K (by omega) (by simpa using c), h i (by omega) hi.2]
theorem k_L_step {N S : Nat} {e : Nat → Nat} (hN : N ≤ 6) (hS : S < 2 ^ N - 1) : ∃ i, i < N ∧ S.testBit i = false ∧ k_bb (k_L N e) S N = some i ∧ k_L N e S = e S + k_L N e (S ||| 2 ^ i) ∧ (k_bst N e (N - k_pc S) S).2 = i :: (k_bst N e (N - k_pc (S ||| 2 ^ i)) (S ||| 2 ^ i)).2 := by
  have h64 := k_64 hN
  obtain ⟨p1, k, hk1, hk2⟩ := k_lt hN hS
  obtain ⟨i, hi⟩ := k_bb_some (L := k_L N e) hk2 hk1
  have hf := k_bb_free hi
  refine ⟨i, hf.1, hf.2, hi, ?_⟩
  obtain ⟨n, hn⟩ : ∃ n, N - k_pc S = n + 1 := ⟨N - k_pc S - 1, by omega⟩
  have hp : ∀ j, j < N → S.testBit j = false → N - k_pc (S ||| 2 ^ j) = n := fun j hj hb => by
    have := (k_gt (S := S) (i := j) (by omega) (by omega) hb).2
    omega
  have hb : k_bb (fun T => (k_bst N e n T).1) S N = some i := by
    rw [← hi]
    refine k_bb_cg (fun j hj hb => ?_)
    unfold k_L
    rw [hp j hj hb]
  unfold k_L
  rw [hn, k_bst, hb, hp i hf.1 hf.2]
  exact ⟨rfl, rfl⟩
theorem p_weigh {mem D : q_Mem} {N H x s r f h : Nat} {Q : q_Mem → Prop} (hC : y_C mem D) (hW : y_W D N H x s r f) (hh : h < H) (hq : ∀ g : Nat → Int32, (∀ S, S < 2 ^ N → g S = nI (k_L N (y_en D N h) S)) → Q (q_set mem 32 g)) : wp_X0_weighSets 1 (35 + h) mem Q := by
  have n0 : mem 1 11 = nI N := hC.1.1.trans hW.1.1
  have hN := hW.2.2.1.1
  have h64 := k_64 hN
  have he := fun S => y_enr hW hh S
  have hLb : ∀ S, k_L N (y_en D N h) S ≤ 18000000 := fun S => by
    have := k_bst_le (N := N) he (N - k_pc S) S
    unfold k_L
    have h6 : (N - k_pc S) * 3000000 ≤ 6 * 3000000 := Nat.mul_le_mul_right _ (by omega)
    omega
  have hpos : 1 ≤ 2 ^ N := Nat.one_le_two_pow
  unfold wp_X0_weighSets
  refine p_first ?_
  rw [n0, k_all hN, nI_clamp (by omega), show q_al 32 = 64 from rfl]
  refine ⟨in_nI (by omega) (by omega), ?_⟩
  rintro m5 rfl
  rintro x4 rfl
  unfold wp_X0_weighSets_20
  refine w_rl1 (2 ^ N - 1) (fun t => nI (2 ^ N - 1 - t) - (1 : Int32)) (fun t m => ∃ g : Nat → Int32, m = q_set mem 32 g ∧ ∀ S, 2 ^ N - 1 - t ≤ S → S < 2 ^ N → g S = nI (k_L N (y_en D N h) S)) (body := fun K y m => wp_X0_weighSets_20_b K 1 (35 + h) y m Q) rfl ⟨_, rfl, fun S h1 h2 => ?_⟩ (fun t ht m hP K hK => ?_)
  · have hS : S = 2 ^ N - 1 := by omega
    subst hS
    rw [upd_s]
    unfold k_L
    rw [k_pcN hN, Nat.sub_self]
    rfl
  obtain ⟨g, rfl, hg⟩ := hP
  have hCg : y_C (q_set mem 32 g) D := hC.scratch (by omega) g
  have n0' : q_set mem 32 g 1 11 = nI N := hCg.1.1.trans hW.1.1
  unfold wp_X0_weighSets_20_b
  by_cases c0 : 2 ^ N - 1 - t = 0
  · rw [c0]
    refine ⟨fun _ => hq g (fun S hS => hg S (by omega) hS), fun z => absurd (by decide) z⟩
  obtain ⟨S, hS⟩ : ∃ S, 2 ^ N - 1 - t = S + 1 := ⟨2 ^ N - 1 - t - 1, by omega⟩
  rw [hS, nI_pred, n0']
  refine ⟨fun z => absurd z (nI_pos (by omega)), fun _ => ?_⟩
  have hSl : S < 2 ^ N - 1 := by omega
  obtain ⟨i, i1, i2, i3, i4, i5⟩ := k_L_step (e := y_en D N h) hN hSl
  refine p_bestBehind (L := k_L N (y_en D N h)) hN (by omega) (fun j hj hb => ?_) ?_
  · have := (k_gt (S := S) (i := j) (by omega) (by omega) hb).1
    have hl := hLb (S ||| 2 ^ j)
    exact ⟨by rw [q_set_s]; exact hg _ (by omega) (k_bd hN hj (by omega)), by omega⟩
  rw [i3]
  have ne : ¬ nI i = (-1 : Int32) := by rw [z_eq, z_nI (by omega), t_m1]; omega
  have b1 := k_bd (S := S) hN i1 (by omega)
  have g1 := (k_gt (S := S) (i := i) (by omega) (by omega) i2).1
  refine ⟨fun _ => ?_, fun z => absurd z ne⟩
  show _ ∧ _
  rw [show k_o (some i) = nI i from rfl, k_or (by omega) (by omega), nI_clamp (by omega), q_set_s, hg _ (by omega) b1, show q_al 32 = 64 from rfl]
  refine ⟨in_nI (by omega) (by omega), ?_⟩
  have key : ∀ v : Int32, v = nI (y_en D N h S) → wp_X0_weighSets_86 K 1 (35 + h) (nI S) v (nI (k_L N (y_en D N h) (S ||| 2 ^ i))) (nI S) (q_set mem 32 g) Q := by
    intro v hv
    subst hv
    unfold wp_X0_weighSets_86
    rw [show q_al 32 = 64 from rfl, nI_clamp (by omega), q_set_s, q_set_set, nI_add]
    refine ⟨in_nI (by omega) (by omega), ?_⟩
    rintro m2 rfl
    rintro x4 rfl
    have hk := hK (q_set mem 32 (upd g S (nI (k_L N (y_en D N h) (S ||| 2 ^ i) + y_en D N h S)))) (by omega) ⟨_, rfl, fun T h1 h2 => ?_⟩
    · rw [show 2 ^ N - 1 - (t + 1) = S by omega] at hk
      rw [z_subneg]
      exact hk
    · by_cases e : T = S
      · rw [e, upd_s, i4, Nat.add_comm]
      · rw [upd_n e]; exact hg T (by omega) h2
  unfold wp_X0_weighSets_59
  rw [z_jeq0 (by omega)]
  refine ⟨fun d => ?_, fun d => ?_⟩
  · refine p_excessB hCg hW hh ?_
    exact key _ (y_en_eq hW hh d)
  · refine key 0 ?_
    rw [d]; rfl
theorem p_findBest0 {mem D : q_Mem} {N H x s r f h : Nat} {Q : Int32 → q_Mem → Prop} (hC : y_C mem D) (hW : y_W D N H x s r f) (hN1 : 1 ≤ N) (hh : h < H) (hq : ∀ m, (∀ k, k ≠ 32 → k ≠ 33 → m k = mem k) → (∀ j, j < N → m 33 j = nI (k_ls (k_bst N (y_en D N h) N 0).2 j)) → Q (nI (k_bst N (y_en D N h) N 0).1) m) : wp_X0_findBestOrder 1 (35 + h) mem Q := by
  have hN := hW.2.2.1.1
  have h64 := k_64 hN
  have hpos : 1 ≤ 2 ^ N := Nat.one_le_two_pow
  have he := fun S => y_enr hW hh S
  have hLb : ∀ S, k_L N (y_en D N h) S ≤ 18000000 := fun S => by
    have := k_bst_le (N := N) he (N - k_pc S) S
    unfold k_L
    have h6 : (N - k_pc S) * 3000000 ≤ 6 * 3000000 := Nat.mul_le_mul_right _ (by omega)
    omega
  unfold wp_X0_findBestOrder
  refine p_weigh hC hW hh (fun g hg => ?_)
  unfold wp_X0_findBestOrder_11
  refine w_rl2 N nI (fun p y m => ∃ S, y = nI S ∧ S < 2 ^ N ∧ k_pc S = p ∧ (k_bst N (y_en D N h) N 0).2.drop p = (k_bst N (y_en D N h) (N - p) S).2 ∧ (∀ j, j < p → m 33 j = nI (k_ls (k_bst N (y_en D N h) N 0).2 j)) ∧ m 32 = g ∧ ∀ k, k ≠ 32 → k ≠ 33 → m k = mem k) (body := fun K y1 y2 m => wp_X0_findBestOrder_11_b K 1 (35 + h) y1 y2 m Q) nI_0.symm ⟨0, nI_0.symm, by omega, by decide, rfl, fun j hj => by omega, q_set_s _ _ _, fun k h1 h2 => q_set_n h1⟩ (fun p hp y m hP K hK => ?_)
  obtain ⟨S, rfl, hS, hpc, hd, ho, hg32, hfr⟩ := hP
  have n0 : m 1 11 = nI N := by rw [hfr 1 (by omega) (by omega)]; exact hC.1.1.trans hW.1.1
  unfold wp_X0_findBestOrder_11_b
  rw [n0, z_nle2 (by omega) (by omega)]
  refine ⟨fun c => ?_, fun c => ?_⟩
  · have hpN : p = N := by omega
    subst hpN
    unfold wp_X0_findBestOrder_59
    rw [show q_al 32 = 64 from rfl, c_0, hg32, hg 0 (by omega)]
    exact ⟨vp_in_iff.mpr (by decide), hq m hfr ho⟩
  have hSl : S < 2 ^ N - 1 := by
    by_cases e : S = 2 ^ N - 1
    · rw [e, k_pcN hN] at hpc; omega
    · omega
  obtain ⟨i, i1, i2, i3, i4, i5⟩ := k_L_step (e := y_en D N h) hN hSl
  have b1 := k_bd (S := S) hN i1 hS
  have g1 := k_gt (S := S) (i := i) (by omega) (by omega) i2
  refine p_bestBehind (L := k_L N (y_en D N h)) hN hS (fun j hj hb => ?_) ?_
  · have hl := hLb (S ||| 2 ^ j)
    exact ⟨by rw [hg32]; exact hg _ (k_bd hN hj hS), by omega⟩
  rw [i3]
  have ne : ¬ nI i = (-1 : Int32) := by rw [z_eq, z_nI (by omega), t_m1]; omega
  refine b_sk ne ⟨by rw [show q_al 33 = 6 from rfl]; exact in_nI (by omega) (by omega), ?_⟩
  rw [show k_o (some i) = nI i from rfl, nI_clamp (by omega), k_or (by omega) (by omega)]
  rintro m7 rfl
  rintro x3 rfl
  unfold wp_X0_findBestOrder_53
  rintro x4 rfl
  rw [nI_1]
  rw [← hpc, i5, hpc] at hd
  have hget : k_ls (k_bst N (y_en D N h) N 0).2 p = i := by
    unfold k_ls
    rw [List.getD_eq_getElem?_getD]
    have : (List.drop p (k_bst N (y_en D N h) N 0).2)[0]? = some i := by rw [hd]; rfl
    rw [List.getElem?_drop, Nat.add_zero] at this
    rw [this]; rfl
  refine hK _ _ (by omega) ⟨_, rfl, b1, by omega, ?_, fun j hj => ?_, ?_, fun k h1 h2 => ?_⟩
  · rw [← List.drop_drop, hd, ← hpc, ← g1.2]
    rfl
  · rw [q_set_s]
    by_cases e : j = p
    · rw [e, upd_s, hget]
    · rw [upd_n e]; exact ho j (by omega)
  · rw [q_set_n (by decide)]; exact hg32
  · rw [q_set_n h2]; exact hfr k h1 h2

/-! ===== the reference: the next order ===== -/
theorem p_swap {a b N : Nat} {mem : q_Mem} {g : Nat → Int32} {o : Nat → Nat} {Q : q_Mem → Prop} (hN : N ≤ 6) (ha : a < N) (hb : b < N) (hg : ∀ k, k < N → g k = nI (o k)) (h : ∀ g' : Nat → Int32, (∀ k, k < N → g' k = nI (k_sw o a b k)) → Q (q_set mem 85 g')) : wp_X3_swap (nI a) (nI b) (q_set mem 85 g) Q := by
  unfold wp_X3_swap
  rw [show q_al 85 = 6 from rfl, nI_clamp (by omega), nI_clamp (by omega), q_set_s]
  have ia : vp_in (nI a) 6 := in_nI (by omega) (by omega)
  have ib : vp_in (nI b) 6 := in_nI (by omega) (by omega)
  refine ⟨ia, ?_⟩
  rintro x rfl
  refine ⟨ib, ia, ?_⟩
  rintro m5 rfl
  refine ⟨ib, ?_⟩
  rintro m7 rfl
  rw [q_set_s, q_set_set, q_set_set]
  refine h _ (fun k hk => ?_)
  unfold k_sw
  by_cases c : k = b
  · rw [c, upd_s, if_pos rfl, hg a ha]
  · rw [upd_n c, if_neg c]
    by_cases d : k = a
    · rw [d, upd_s, if_pos rfl, hg b hb]
    · rw [upd_n d, if_neg d, hg k hk]
theorem p_rev {N i : Nat} {mem : q_Mem} {g : Nat → Int32} {o : Nat → Nat} {Q : Int32 → q_Mem → Prop} (hN : N ≤ 6) (hN1 : 1 ≤ N) (hi : i < N) (hg : ∀ k, k < N → g k = nI (o k)) (h : ∀ g' : Nat → Int32, (∀ k, k < N → g' k = nI (k_rv 6 (i + 1) (N - 1) o k)) → Q 1 (q_set mem 85 g')) : wp_X3_goOnOrder_86 (nI (i + 1)) (nI (N - 1)) (q_set mem 85 g) Q := by
  unfold wp_X3_goOnOrder_86
  refine w_rl2 6 (fun t => nI (N - 1 - t)) (fun t y m => ∃ (u : Nat → Int32) (p : Nat → Nat), y = nI (i + 1 + t) ∧ m = q_set mem 85 u ∧ (∀ k, k < N → u k = nI (p k)) ∧ k_rv (6 - t) (i + 1 + t) (N - 1 - t) p = k_rv 6 (i + 1) (N - 1) o) (body := fun K y1 y2 m => wp_X3_goOnOrder_86_b K y1 y2 m Q) rfl ⟨g, o, rfl, rfl, hg, rfl⟩ (fun t ht y m hP K hK => ?_)
  obtain ⟨u, p, rfl, rfl, hu, hr⟩ := hP
  unfold wp_X3_goOnOrder_86_b
  rw [z_nle2 (by omega) (by omega)]
  refine ⟨fun c => ?_, fun c => ?_⟩
  · refine h u (fun k hk => ?_)
    rw [hu k hk, ← hr]
    cases hf : 6 - t with
    | zero => rfl
    | succ f => rw [k_rv, if_neg (by omega)]
  · refine p_swap hN (by omega) (by omega) hu (fun g' hg' => ?_)
    rintro x3 rfl
    rintro x4 rfl
    rw [nI_1, z_subneg, z_pred (by omega)]
    have hk := hK (nI (i + 1 + t + 1)) (q_set mem 85 g') (by omega) ⟨g', _, rfl, rfl, hg', ?_⟩
    · rw [show N - 1 - (t + 1) = N - 1 - t - 1 by omega] at hk; exact hk
    · obtain ⟨f, hf⟩ : ∃ f, 6 - t = f + 1 := ⟨6 - t - 1, by omega⟩
      rw [hf, k_rv, if_pos (by omega)] at hr
      rw [show 6 - (t + 1) = f by omega, show N - 1 - (t + 1) = N - 1 - t - 1 by omega]
      exact hr
theorem k_fj_hit {o : Nat → Nat} {v k : Nat} (h : v ≤ o k) : k_fj o v k = k := by
  cases k with
  | zero => rfl
  | succ k => rw [k_fj, if_pos h]
theorem p_goOrder {N : Nat} {mem : q_Mem} {o : Nat → Nat} {Q : Int32 → q_Mem → Prop} (hn : mem 72 0 = nI N) (hN : N ≤ 6) (hN1 : 1 ≤ N) (ho : ∀ k, k < N → mem 85 k = nI (o k) ∧ o k < 64) (h0 : k_nx N o = none → Q 0 mem) (h1 : ∀ o', k_nx N o = some o' → ∀ g : Nat → Int32, (∀ k, k < N → g k = nI (o' k)) → Q 1 (q_set mem 85 g)) : wp_X3_goOnOrder mem Q := by
  unfold wp_X3_goOnOrder
  rintro x1 rfl
  have e2 : nI N - (2 : Int32) = nI (N - 1) - (1 : Int32) := by
    rw [z_eq, z_sub (by rw [z_nI (by omega), t_2]; omega) (by rw [z_nI (by omega), t_2]; omega), z_sub (by rw [z_nI (by omega), t_1]; omega) (by rw [z_nI (by omega), t_1]; omega), z_nI (by omega), z_nI (by omega), t_1, t_2]
    omega
  rw [hn, e2]
  unfold wp_X3_goOnOrder_7
  refine w_rl1 (N - 1) (fun t => nI (N - 1 - t) - (1 : Int32)) (fun t m => m = mem ∧ k_fi o (N - 1 - t) = k_fi o (N - 1)) (body := fun K y m => wp_X3_goOnOrder_7_b K y m Q) rfl ⟨rfl, rfl⟩ (fun t ht m hP K hK => ?_)
  obtain ⟨hm, hf⟩ := hP
  subst hm
  unfold wp_X3_goOnOrder_7_b wp_X3_goOnOrder_34
  by_cases c0 : N - 1 - t = 0
  · rw [c0] at hf ⊢
    have hq : Q 0 m := h0 (by unfold k_nx; rw [← hf]; rfl)
    refine ⟨fun _ => ⟨fun z => absurd z (by decide), fun _ => hq⟩, fun z => absurd (by decide) z⟩
  obtain ⟨i, hi⟩ : ∃ i, N - 1 - t = i + 1 := ⟨N - 1 - t - 1, by omega⟩
  rw [hi, k_fi] at hf
  obtain ⟨o1, o2⟩ := ho i (by omega)
  obtain ⟨o3, o4⟩ := ho (i + 1) (by omega)
  rw [hi, nI_pred, nI_1, nI_clamp (by omega), nI_clamp (by omega), show q_al 85 = 6 from rfl, o1, o3, z_nle2 (by omega) (by omega)]
  refine ⟨fun z => absurd z (nI_pos (by omega)), fun _ => ⟨in_nI (by omega) (by omega), in_nI (by omega) (by omega), fun c => ?_, fun c => ?_⟩⟩
  rotate_left
  · rintro x rfl
    rw [if_neg c] at hf
    rw [z_subneg]
    have hk := hK m (by omega) ⟨rfl, by rw [show N - 1 - (t + 1) = i by omega]; exact hf⟩
    rw [show N - 1 - (t + 1) = i by omega] at hk
    exact hk
  rw [if_pos c] at hf
  refine ⟨fun _ => ?_, fun z => absurd (nI_pos' (by omega)) z⟩
  rintro x2 rfl
  have hnx : k_nx N o = some (k_rv 6 (i + 1) (N - 1) (k_sw o i (k_fj o (o i) (N - 1)))) := by unfold k_nx; rw [← hf]
  have hq := h1 _ hnx
  rw [hn, z_pred (by omega)]
  unfold wp_X3_goOnOrder_47
  refine w_rl1 (N - 1) (fun t => nI (N - 1 - t)) (fun t m' => m' = m ∧ i ≤ N - 1 - t ∧ k_fj o (o i) (N - 1 - t) = k_fj o (o i) (N - 1)) (body := fun K y m' => wp_X3_goOnOrder_47_b K (nI i) y m' Q) rfl ⟨rfl, by omega, rfl⟩ (fun u hu m' hP2 K2 hK2 => ?_)
  obtain ⟨hm, hil, hfj⟩ := hP2
  subst hm
  obtain ⟨o5, o6⟩ := ho (N - 1 - u) (by omega)
  unfold wp_X3_goOnOrder_47_b
  rw [nI_clamp (by omega), nI_clamp (by omega), show q_al 85 = 6 from rfl, o1, o5, z_nle2 (by omega) (by omega)]
  refine ⟨in_nI (by omega) (by omega), in_nI (by omega) (by omega), fun d => ?_, fun d => ?_⟩
  rotate_left
  · rintro x rfl
    have hne : N - 1 - u ≠ i := fun z => d (by rw [z]; exact Nat.le_refl _)
    obtain ⟨j, hj⟩ : ∃ j, N - 1 - u = j + 1 := ⟨N - 1 - u - 1, by omega⟩
    rw [hj, k_fj, if_neg (by rw [← hj]; exact d)] at hfj
    have hk := hK2 m' (by omega) ⟨rfl, by omega, by rw [show N - 1 - (u + 1) = j by omega]; exact hfj⟩
    rw [show N - 1 - (u + 1) = j by omega] at hk
    rw [z_subneg, hj, nI_pred]
    exact hk
  rw [k_fj_hit d] at hfj
  rw [← hfj] at hq
  unfold wp_X3_goOnOrder_68
  have hsw : q_set m' 85 (m' 85) = m' := q_set_self rfl
  rw [← hsw]
  refine p_swap hN (by omega) (by omega) (fun k hk => (ho k hk).1) (fun g hg => ?_)
  rintro x3 rfl
  rintro x4 rfl
  rw [q_set_n (by decide), hn, nI_1, z_pred (by omega)]
  exact p_rev hN hN1 (by omega) hg hq
/-! ===== along an order ===== -/
def k_pr : Nat → List Nat → Nat → Nat
  | S, _, 0 => S
  | S, [], _ + 1 => S
  | S, a :: p, k + 1 => k_pr (S ||| 2 ^ a) p k
theorem k_pr_all {N : Nat} (hN : N ≤ 6) : ∀ (l : List Nat) (S k : Nat), S < 2 ^ N → k_pm N S l = true → k < l.length → k_ls l k < N ∧ (k_pr S l k).testBit (k_ls l k) = false ∧ k_pr S l (k + 1) = k_pr S l k ||| 2 ^ (k_ls l k) ∧ k_pr S l k < 2 ^ N
  | [], _, _, _, _, h => absurd h (Nat.not_lt_zero _)
  | a :: p, S, k, hS, h, hk => by
    rw [k_pm, Bool.and_eq_true, Bool.and_eq_true] at h
    obtain ⟨⟨h1, h2⟩, h3⟩ := h
    have h1 := of_decide_eq_true h1
    cases k with
    | zero => exact ⟨h1, (by show S.testBit a = false; simpa using h2), (by cases p <;> rfl), hS⟩
    | succ k => exact k_pr_all hN p (S ||| 2 ^ a) k (k_bd hN h1 hS) h3 (by simpa using hk)
theorem k_pr_end {N : Nat} : ∀ (l : List Nat) (S : Nat), k_pm N S l = true → k_pr S l l.length = 2 ^ N - 1
  | [], S, h => by
    rw [k_pm] at h
    show S = 2 ^ N - 1
    simpa using h
  | a :: p, S, h => by
    rw [k_pm, Bool.and_eq_true] at h
    exact k_pr_end p _ h.2
theorem k_c_at (e : Nat → Nat) : ∀ (l : List Nat) (S k : Nat), k < l.length → k_c e (k_pr S l k) (l.drop k) = e (k_pr S l k) + k_c e (k_pr S l (k + 1)) (l.drop (k + 1))
  | [], _, _, h => absurd h (Nat.not_lt_zero _)
  | a :: p, S, 0, _ => by cases p <;> rfl
  | a :: p, S, k + 1, h => k_c_at e p (S ||| 2 ^ a) k (by simpa using h)
theorem k_c_le {e : Nat → Nat} {E : Nat} (he : ∀ S, e S ≤ E) : ∀ (l : List Nat) (S : Nat), k_c e S l ≤ l.length * E
  | [], _ => by simp [k_c]
  | a :: p, S => by
    have h1 := he S
    have h2 := k_c_le he p (S ||| 2 ^ a)
    rw [k_c, List.length_cons, Nat.succ_mul]; omega
theorem z_ss_ins {f : Nat → Int32} {S j : Nat} (hS : S < 64) (hj : j < 6) (hS2 : S ||| 2 ^ j < 64) (h : S.testBit j = false) : ∀ k, k ≤ 6 → z_ss f (nI (S ||| 2 ^ j)) k = (if j < k then z_ss f (nI S) k + f j else z_ss f (nI S) k)
  | 0, _ => by rw [if_neg (by omega)]; rfl
  | k + 1, hk => by
    have ih := z_ss_ins (f := f) hS hj hS2 h k (by omega)
    have tb : (S ||| 2 ^ j).testBit k = (S.testBit k || decide (j = k)) := by rw [Nat.testBit_or, Nat.testBit_two_pow]
    rw [z_ss, z_ss]
    by_cases c : j = k
    · subst c
      have t1 : ¬ (nI (S ||| 2 ^ j) &&& ((1 : Int32) <<< (nI j &&& 31)) = 0) := by rw [k_and hS2 hj, tb]; simp
      rw [if_neg t1, if_pos (by omega), if_pos ((k_and hS hj).mpr h), ih, if_neg (by omega)]
    · have e : (nI (S ||| 2 ^ j) &&& ((1 : Int32) <<< (nI k &&& 31)) = 0) ↔ (nI S &&& ((1 : Int32) <<< (nI k &&& 31)) = 0) := by
        rw [k_and hS2 (by omega), k_and hS (by omega), tb, decide_eq_false c, Bool.or_false]
      by_cases d : nI S &&& ((1 : Int32) <<< (nI k &&& 31)) = 0
      · rw [if_pos (e.mpr d), if_pos d, ih]
        by_cases q : j < k
        · rw [if_pos q, if_pos (by omega)]
        · rw [if_neg q, if_neg (by omega)]
      · rw [if_neg (fun z => d (e.mp z)), if_neg d, ih]
        by_cases q : j < k
        · rw [if_pos q, if_pos (by omega), Int32.add_assoc, Int32.add_comm (f j), ← Int32.add_assoc]
        · rw [if_neg q, if_neg (by omega)]
theorem z_ss0 (f : Nat → Int32) : ∀ k, k ≤ 6 → z_ss f (nI 0) k = 0
  | 0, _ => rfl
  | k + 1, h => by
    rw [z_ss, if_pos ((k_and (by omega) (by omega)).mpr (Nat.zero_testBit k)), z_ss0 f k (by omega)]
theorem z_sm_pr (f : Nat → Int32) {N : Nat} (hN : N ≤ 6) {l : List Nat} (hl : l.length = N) (hp : k_pm N 0 l = true) : ∀ k, k ≤ N → z_sm (fun j => f (k_ls l j)) k = z_ss f (nI (k_pr 0 l k)) N
  | 0, _ => by rw [show k_pr 0 l 0 = 0 by cases l <;> rfl, z_ss0 f N hN]; rfl
  | k + 1, hk => by
    have h64 := k_64 hN
    have hpos : 1 ≤ 2 ^ N := Nat.one_le_two_pow
    obtain ⟨a1, a2, a3, a4⟩ := k_pr_all hN l 0 k (by omega) hp (by omega)
    have a5 := k_bd (S := k_pr 0 l k) hN a1 a4
    rw [z_sm, z_sm_pr f hN hl hp k (by omega), a3, z_ss_ins (f := f) (by omega) (by omega) (by omega) a2 N hN, if_pos a1]

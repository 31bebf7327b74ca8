/-! ===== rain and all borders ===== -/
def z_M2 (mem : q_Mem) (c1 c2 : Nat) (p : (Nat → Int32) × (Nat → Int32)) : q_Mem := q_set (q_set mem c1 p.1) c2 p.2
theorem z_M2_1 {mem : q_Mem} {c1 c2 : Nat} (h : c1 ≠ c2) (p : (Nat → Int32) × (Nat → Int32)) : z_M2 mem c1 c2 p c1 = p.1 := by
  unfold z_M2
  rw [q_set_n h, q_set_s]
theorem z_M2_2 (mem : q_Mem) (c1 c2 : Nat) (p : (Nat → Int32) × (Nat → Int32)) : z_M2 mem c1 c2 p c2 = p.2 := by
  unfold z_M2
  rw [q_set_s]
theorem z_M2_n {mem : q_Mem} {c1 c2 k : Nat} {p : (Nat → Int32) × (Nat → Int32)} (h1 : k ≠ c1) (h2 : k ≠ c2) : z_M2 mem c1 c2 p k = mem k := by
  unfold z_M2
  rw [q_set_n h2, q_set_n h1]
theorem z_M2_M2 {mem : q_Mem} {c1 c2 : Nat} (h : c1 ≠ c2) (p q : (Nat → Int32) × (Nat → Int32)) : z_M2 (z_M2 mem c1 c2 p) c1 c2 q = z_M2 mem c1 c2 q := by
  unfold z_M2
  rw [q_set_comm (Ne.symm h) p.2 q.1, q_set_set, q_set_set]
theorem upd_s (f : Nat → Int32) (k : Nat) (x : Int32) : upd f k x k = x := if_pos rfl
theorem upd_n {f : Nat → Int32} {k j : Nat} {x : Int32} (h : j ≠ k) : upd f k x j = f j := if_neg h
theorem z_cross_RG {N j : Nat} {ro st cu co : Nat → Int32} {dO dI : Int32} {p : (Nat → Int32) × (Nat → Int32)} (hR : z_RG N ro st cu p.1) (hC : z_CR co) (hO : z_D dO) (hI : z_D dI) (hj : j ≤ N) : z_RG N ro st cu (z_cross N ro st cu co dO dI j p).1 := by
  obtain ⟨h0, h1, h2⟩ := z_f0r (wa := p.1) hR hC hO hI hj
  obtain ⟨hN, hL, hS⟩ := hR
  have hA : 0 < j → 1 ≤ (ro (j - 1)).toInt ∧ (ro (j - 1)).toInt ≤ 1000 ∧ 0 ≤ (p.1 (j - 1)).toInt ∧ (p.1 (j - 1)).toInt ≤ (ro (j - 1)).toInt := fun q => z_LRi (hL (j - 1) (by omega))
  have hB : j < N → 1 ≤ (ro j).toInt ∧ (ro j).toInt ≤ 1000 ∧ 0 ≤ (p.1 j).toInt ∧ (p.1 j).toInt ≤ (ro j).toInt := fun q => z_LRi (hL j q)
  obtain ⟨g1, g2, g3, g4⟩ := z_flow_rng (N := N) (j := j) (ro := ro) (wa := p.1) ⟨h1, h2⟩ hA hB
  refine ⟨hN, fun i hi => ?_, hS⟩
  show z_LR ro cu (z_cw N j (z_flow N j ro p.1 (z_f0 N j ro st cu co dO dI p.1)) p.1) i
  generalize z_flow N j ro p.1 (z_f0 N j ro st cu co dO dI p.1) = fl at *
  refine z_LRmk (hL i hi) ?_ ?_
  all_goals
    unfold z_cw
    by_cases q1 : j < N
    · have b := hB q1
      have c := g2 q1
      simp only [q1, if_true]
      by_cases q2 : i = j
      · subst q2
        rw [upd_s]
        by_cases q3 : 0 < i
        · simp only [q3, if_true]
          rw [upd_n (by omega), z_add (by omega) (by omega)]
          omega
        · simp only [q3, if_false]
          rw [z_add (by omega) (by omega)]
          omega
      · rw [upd_n q2]
        by_cases q3 : 0 < j
        · have a := hA q3
          have d := g1 q3
          simp only [q3, if_true]
          by_cases q4 : i = j - 1
          · rw [q4, upd_s, z_sub (by omega) (by omega)]
            omega
          · rw [upd_n q4]
            have := z_LRi (hL i hi)
            omega
        · simp only [q3, if_false]
          have := z_LRi (hL i hi)
          omega
    · simp only [q1, if_false]
      by_cases q3 : 0 < j
      · have a := hA q3
        have d := g1 q3
        simp only [q3, if_true]
        by_cases q4 : i = j - 1
        · rw [q4, upd_s, z_sub (by omega) (by omega)]
          omega
        · rw [upd_n q4]
          have := z_LRi (hL i hi)
          omega
      · simp only [q3, if_false]
        have := z_LRi (hL i hi)
        omega
def z_all (N : Nat) (ro st cu co : Nat → Int32) (dO dI : Int32) (p : (Nat → Int32) × (Nat → Int32)) : Nat → (Nat → Int32) × (Nat → Int32)
  | 0 => p
  | k + 1 => z_cross N ro st cu co dO dI k (z_all N ro st cu co dO dI p k)
theorem z_all_RG {N : Nat} {ro st cu co : Nat → Int32} {dO dI : Int32} {p : (Nat → Int32) × (Nat → Int32)} (hR : z_RG N ro st cu p.1) (hC : z_CR co) (hO : z_D dO) (hI : z_D dI) : ∀ k, k ≤ N + 1 → z_RG N ro st cu (z_all N ro st cu co dO dI p k).1
  | 0, _ => hR
  | k + 1, h => z_cross_RG (z_all_RG hR hC hO hI k (by omega)) hC hO hI (by omega)
def z_tk (ro w : Nat → Int32) (rain : Int32) : Int32 := if rain ≤ ro 0 - w 0 then rain else ro 0 - w 0
def z_rain (ro : Nat → Int32) (rain : Int32) (p : (Nat → Int32) × (Nat → Int32)) : (Nat → Int32) × (Nat → Int32) := (upd p.1 0 (p.1 0 + z_tk ro p.1 rain), upd (upd p.2 0 (p.2 0 + z_tk ro p.1 rain)) 1 (upd p.2 0 (p.2 0 + z_tk ro p.1 rain) 1 + (rain - z_tk ro p.1 rain)))
theorem z_rain_RG {N : Nat} {ro st cu : Nat → Int32} {rain : Int32} {p : (Nat → Int32) × (Nat → Int32)} (hR : z_RG N ro st cu p.1) (h0 : 0 ≤ rain.toInt) (h1 : rain.toInt ≤ 1000) : z_RG N ro st cu (z_rain ro rain p).1 := by
  obtain ⟨hN, hL, hS⟩ := hR
  refine ⟨hN, fun i hi => ?_, hS⟩
  have a := z_LRi (hL i hi)
  show z_LR ro cu (upd p.1 0 _) i
  by_cases q : i = 0
  · subst q
    have s1 : (ro 0 - p.1 0).toInt = (ro 0).toInt - (p.1 0).toInt := z_sub (by omega) (by omega)
    have t : 0 ≤ (z_tk ro p.1 rain).toInt ∧ (z_tk ro p.1 rain).toInt ≤ (ro 0).toInt - (p.1 0).toInt := by
      unfold z_tk
      by_cases c : rain ≤ ro 0 - p.1 0
      · rw [if_pos c]
        rw [z_le, s1] at c
        omega
      · rw [if_neg c, s1]; omega
    refine z_LRmk (hL 0 hi) ?_ ?_
    · rw [upd_s, z_add (by omega) (by omega)]; omega
    · rw [upd_s, z_add (by omega) (by omega)]; omega
  · refine z_LRmk (hL i hi) ?_ ?_
    · rw [upd_n q]; omega
    · rw [upd_n q]; omega
def z_move (N : Nat) (ro st cu co : Nat → Int32) (dO dI rain : Int32) (p : (Nat → Int32) × (Nat → Int32)) : (Nat → Int32) × (Nat → Int32) := z_all N ro st cu co dO dI (z_rain ro rain p) (N + 1)
theorem z_move_RG {N : Nat} {ro st cu co : Nat → Int32} {dO dI rain : Int32} {p : (Nat → Int32) × (Nat → Int32)} (hR : z_RG N ro st cu p.1) (hC : z_CR co) (hO : z_D dO) (hI : z_D dI) (h0 : 0 ≤ rain.toInt) (h1 : rain.toInt ≤ 1000) : z_RG N ro st cu (z_move N ro st cu co dO dI rain p).1 := z_all_RG (z_rain_RG hR h0 h1) hC hO hI (N + 1) (Nat.le_refl _)
theorem z_WO_M2 {b N : Nat} {mem : q_Mem} {ro st cu co : Nat → Int32} (p : (Nat → Int32) × (Nat → Int32)) (h : z_WO b mem N ro st cu co) : z_WO b (z_M2 mem (b + 9) (b + 13) p) N ro st cu co := by
  obtain ⟨h1, h2, h3, h4, h5⟩ := h
  exact ⟨by rw [z_M2_n (by omega) (by omega)]; exact h1, by rw [z_M2_n (by omega) (by omega)]; exact h2, by rw [z_M2_n (by omega) (by omega)]; exact h3, by rw [z_M2_n (by omega) (by omega)]; exact h4, fun c k hc hk => by rw [z_M2_n (by omega) (by omega)]; exact h5 c k hc hk⟩
theorem z_MO_M2 {N : Nat} {mem : q_Mem} {ro st cu co : Nat → Int32} (p : (Nat → Int32) × (Nat → Int32)) (h : z_MO mem N ro st cu co) : z_MO (z_M2 mem 77 82 p) N ro st cu co := by
  obtain ⟨h1, h2, h3, h4, h5⟩ := h
  exact ⟨by rw [z_M2_n (by omega) (by omega)]; exact h1, by rw [z_M2_n (by omega) (by omega)]; exact h2, by rw [z_M2_n (by omega) (by omega)]; exact h3, by rw [z_M2_n (by omega) (by omega)]; exact h4, by rw [z_M2_n (by omega) (by omega)]; exact h5⟩
theorem p_move16 {b N hc : Nat} (hb : q_WB b) {sh : Int32} {mem : q_Mem} {ro st cu co : Nat → Int32} {dO dI : Int32} {p : (Nat → Int32) × (Nat → Int32)} {Q : q_Mem → Prop} (hW : z_WO b mem N ro st cu co) (hR : z_RG N ro st cu p.1) (hC : z_CR co) (hO : z_D dO) (hI : z_D dI) (eO : mem hc 0 = dO) (eI : mem hc 3 = dI) (hal : q_al hc = 5) (hhc : 35 ≤ hc) (h : Q (z_M2 mem (b + 9) (b + 13) (z_all N ro st cu co dO dI p (N + 1)))) : wp_X1_moveWater_16 b hc sh (0 : Int32) (z_M2 mem (b + 9) (b + 13) p) Q := by
  obtain ⟨hN, -, -⟩ := id hR
  have hb30 : b ≤ 16 := by rcases hb with rfl | rfl <;> omega
  unfold wp_X1_moveWater_16
  refine w_lp1 (N + 1) (fun _ => True) nI (fun k => z_M2 mem (b + 9) (b + 13) (z_all N ro st cu co dO dI p k)) (body := fun K y m => wp_X1_moveWater_16_b K b hc sh y m Q) trivial nI_0.symm rfl (fun k hk _ K hK => ?_)
  have hW2 := z_WO_M2 (z_all N ro st cu co dO dI p k) hW
  unfold wp_X1_moveWater_16_b
  rw [hW2.1]
  have hlt : nI N < nI k ↔ N < k := nI_ltI (by omega) (by omega)
  rw [hlt]
  refine ⟨fun c => ?_, fun c => ?_⟩
  · rw [show k = N + 1 by omega]
    exact h
  · refine p_crossB hb hW2 (z_M2_1 (by omega) _) (z_M2_2 _ _ _ _) (z_all_RG hR hC hO hI k hk) hC hO hI (by rw [z_M2_n (by omega) (by omega)]; exact eO) (by rw [z_M2_n (by omega) (by omega)]; exact eI) hal (by omega) ?_
    rintro x rfl
    rw [nI_1]
    have := hK (by omega) trivial
    have e : q_set (q_set (z_M2 mem (b + 9) (b + 13) (z_all N ro st cu co dO dI p k)) (b + 9) (z_cross N ro st cu co dO dI k ((z_all N ro st cu co dO dI p k).1, (z_all N ro st cu co dO dI p k).2)).1) (b + 13) (z_cross N ro st cu co dO dI k ((z_all N ro st cu co dO dI p k).1, (z_all N ro st cu co dO dI p k).2)).2 = z_M2 mem (b + 9) (b + 13) (z_all N ro st cu co dO dI p (k + 1)) := z_M2_M2 (by omega) _ _
    rw [e]
    exact this
/-- an hour's rain by a share -/
def z_rn (r sh : Int32) : Int32 := r * sh / (10 : Int32)
theorem z_rnr {r sh : Int32} (h1 : 0 ≤ r.toInt ∧ r.toInt ≤ 100) (h2 : 0 ≤ sh.toInt ∧ sh.toInt ≤ 10) : 0 ≤ (r * sh).toInt ∧ 0 ≤ (z_rn r sh).toInt ∧ (z_rn r sh).toInt ≤ 1000 := by
  have a : 0 ≤ r.toInt * sh.toInt := Int.mul_nonneg h1.1 h2.1
  have b : r.toInt * sh.toInt ≤ 100 * 10 := Int.mul_le_mul h1.2 h2.2 h2.1 (by omega)
  have e : (r * sh).toInt = r.toInt * sh.toInt := z_mul (by omega) (by omega)
  unfold z_rn
  rw [z_div (by decide), e, t_10, Int.tdiv_eq_ediv_of_nonneg a]
  omega
theorem p_moveWater {b N hc : Nat} (hb : q_WB b) {sh : Int32} {mem : q_Mem} {ro st cu co wa su : Nat → Int32} {dO dI r : Int32} {Q : q_Mem → Prop} (hW : z_WO b mem N ro st cu co) (hw : mem (b + 9) = wa) (hs : mem (b + 13) = su) (hN1 : 1 ≤ N) (hR : z_RG N ro st cu wa) (hC : z_CR co) (hO : z_D dO) (hI : z_D dI) (eO : mem hc 0 = dO) (eI : mem hc 3 = dI) (er : mem hc 2 = r) (hr : 0 ≤ r.toInt ∧ r.toInt ≤ 100) (hsh : 0 ≤ sh.toInt ∧ sh.toInt ≤ 10) (hal : q_al hc = 5) (hhc : 35 ≤ hc) (h : Q (z_M2 mem (b + 9) (b + 13) (z_move N ro st cu co dO dI (z_rn r sh) (wa, su)))) : wp_X1_moveWater b hc sh mem Q := by
  obtain ⟨r0, r1, r2⟩ := z_rnr hr hsh
  obtain ⟨hN, hL, hS⟩ := id hR
  have hb30 : b ≤ 16 := by rcases hb with rfl | rfl <;> omega
  unfold wp_X1_moveWater
  rw [hal, c_2, er]
  refine ⟨vp_in_iff.mpr (by decide), ?_⟩
  refine p_partDown (by decide) ?_
  rw [z_fl_nn r0]
  change wp_X1_takeRain b (z_rn r sh) mem _
  generalize hrn : z_rn r sh = rain at *
  unfold wp_X1_takeRain
  have hS0 : z_side N (0 : Int32) (some 0) := ⟨nI_0.symm, by omega⟩
  refine p_frS hb hW.1 hN hS0 ?_
  intro x hx
  have i9 : vp_in (0 : Int32) (q_al (b + 9)) := by rw [al_w9 hb]; exact vp_in_iff.mpr (by decide)
  have i13 : vp_in (0 : Int32) (q_al (b + 13)) := by rw [al_w13 hb]; exact vp_in_iff.mpr (by decide)
  have i131 : vp_in (1 : Int32) (q_al (b + 13)) := by rw [al_w13 hb]; exact vp_in_iff.mpr (by decide)
  have etk : (if ro 0 - wa 0 < rain then ro 0 - wa 0 else rain) = z_tk ro wa rain := by
    unfold z_tk
    by_cases c : rain ≤ ro 0 - wa 0
    · rw [if_pos c, if_neg (fun z => by rw [z_le] at c; rw [z_lt] at z; omega)]
    · rw [if_neg c, if_pos (by rw [z_lt]; exact z_nle c)]
  have hx2 : x = z_tk ro wa rain := by
    rw [hx]
    show (if mem (b + 5) 0 - mem (b + 9) 0 < rain then mem (b + 5) 0 - mem (b + 9) 0 else rain) = _
    rw [hW.2.1, hw]
    exact etk
  clear hx
  subst hx2
  rw [c_0, c_1]
  refine ⟨i9, i9, ?_⟩
  rintro m rfl
  refine ⟨i13, i13, ?_⟩
  rintro m rfl
  refine ⟨i131, i131, ?_⟩
  rintro m rfl
  have e : q_set (q_set (q_set mem (b + 9) (upd wa 0 (wa 0 + z_tk ro wa rain))) (b + 13) (upd su 0 (su 0 + z_tk ro wa rain))) (b + 13) (upd (upd su 0 (su 0 + z_tk ro wa rain)) 1 (upd su 0 (su 0 + z_tk ro wa rain) 1 + (rain - z_tk ro wa rain))) = z_M2 mem (b + 9) (b + 13) (z_rain ro rain (wa, su)) := by
    rw [q_set_set]
    rfl
  simp only [q_set_s, q_set_n (show b + 13 ≠ b + 9 by omega), hw, hs]
  rw [e]
  exact p_move16 hb hW (z_rain_RG (p := (wa, su)) hR r1 r2) hC hO hI eO eI hal hhc h

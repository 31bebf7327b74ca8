theorem z_M3_self {mem : q_Mem} {c1 c2 c3 : Nat} {t : z_Tr} (h1 : mem c1 = t.1) (h2 : mem c2 = t.2.1) (h3 : mem c3 = t.2.2) (n12 : c2 ≠ c1) (n13 : c3 ≠ c1) (n23 : c3 ≠ c2) : z_M3 mem c1 c2 c3 t = mem := by
  unfold z_M3
  rw [q_set_self h1, q_set_self h2, q_set_self h3]
/-- an hour's numbers: damp, warmth outside, rain, damp, warmth inside -/
def z_HR (dO o r dI n : Int32) : Prop := z_D dO ∧ z_D dI ∧ (0 ≤ r.toInt ∧ r.toInt ≤ 100) ∧ (-30 ≤ o.toInt ∧ o.toInt ≤ 50) ∧ (-30 ≤ n.toInt ∧ n.toInt ≤ 50)
def z_HE (N : Nat) (he : Nat → Int32) : Prop := ∀ i, i < N → 1 ≤ (he i).toInt ∧ (he i).toInt ≤ 50
/-- what an hour does to water and sums; to frost, mould, warmth -/
def z_hp (N : Nat) (ro st cu co : Nat → Int32) (dO dI r sh : Int32) (p : (Nat → Int32) × (Nat → Int32)) : (Nat → Int32) × (Nat → Int32) := z_move N ro st cu co dO dI (z_rn r sh) p
def z_ht (N : Nat) (ro he cu co : Nat → Int32) (o n : Int32) (w : Nat → Int32) (t : z_Tr) : z_Tr := z_feel N ro he w (z_dm co ro cu w) o n t N
theorem p_letHour {b N hc : Nat} (hb : q_WB b) {sh : Int32} {mem : q_Mem} {ro st cu co wa su he : Nat → Int32} {t : z_Tr} {dO o r dI n : Int32} {Q : q_Mem → Prop} (hW : z_WO b mem N ro st cu co) (hw : mem (b + 9) = wa) (hs : mem (b + 13) = su) (hhe : mem (b + 7) = he) (h10 : mem (b + 10) = t.1) (h11 : mem (b + 11) = t.2.1) (h12 : mem (b + 12) = t.2.2) (hN1 : 1 ≤ N) (hR : z_RG N ro st cu wa) (hH : z_HE N he) (hC : z_CR co) (hHR : z_HR dO o r dI n)
    (eO : mem hc 0 = dO) (eo : mem hc 1 = o) (er : mem hc 2 = r) (eI : mem hc 3 = dI) (en : mem hc 4 = n) (hsh : 0 ≤ sh.toInt ∧ sh.toInt ≤ 10) (hal : q_al hc = 5) (hhc : 35 ≤ hc) (h : Q (z_M3 (z_M2 mem (b + 9) (b + 13) (z_hp N ro st cu co dO dI r sh (wa, su))) (b + 10) (b + 11) (b + 12) (z_ht N ro he cu co o n (z_hp N ro st cu co dO dI r sh (wa, su)).1 t))) : wp_X1_letHourPass b hc sh mem Q := by
  obtain ⟨hO, hI, hr, ho, hn⟩ := hHR
  obtain ⟨r0, r1, r2⟩ := z_rnr hr hsh
  have hb30 : b ≤ 16 := by rcases hb with rfl | rfl <;> omega
  unfold wp_X1_letHourPass
  refine p_moveWater hb hW hw hs hN1 hR hC hO hI eO eI er hr hsh hal hhc ?_
  rw [hal, c_1, c_4, z_M2_n (by omega) (by omega), eo, en]
  refine ⟨vp_in_iff.mpr (by decide), vp_in_iff.mpr (by decide), ?_⟩
  have e : z_M2 mem (b + 9) (b + 13) (z_move N ro st cu co dO dI (z_rn r sh) (wa, su)) = z_M3 (z_M2 mem (b + 9) (b + 13) (z_hp N ro st cu co dO dI r sh (wa, su))) (b + 10) (b + 11) (b + 12) t := (z_M3_self (by rw [z_M2_n (by omega) (by omega)]; exact h10) (by rw [z_M2_n (by omega) (by omega)]; exact h11) (by rw [z_M2_n (by omega) (by omega)]; exact h12) (by omega) (by omega) (by omega)).symm
  rw [e]
  exact p_feelWarmth hb (z_WO_M2 _ hW) (z_M2_1 (by omega) _) (by rw [z_M2_n (by omega) (by omega)]; exact hhe) (z_move_RG (p := (wa, su)) hR hC hO hI r1 r2) hH hC h
theorem z_nextmod {x H : Nat} (hx : x < H) (hH : H ≤ 24) : (nI x + (1 : Int32)) - (nI x + (1 : Int32)) / nI H * nI H = nI (if x + 1 < H then x + 1 else 0) := by
  rw [nI_1, pk_rem (by omega) (by omega) (by omega)]
  by_cases c : x + 1 < H
  · rw [if_pos c, Nat.mod_eq_of_lt c]
  · rw [if_neg c, show x + 1 = H by omega, Nat.mod_self]
theorem p_goOn {N x H : Nat} {sh : Int32} {mem : q_Mem} {ro st cu co wa su he : Nat → Int32} {t : z_Tr} {dO o r dI n : Int32} {Q : q_Mem → Prop} (hM : z_MO mem N ro st cu co) (hw : mem 77 = wa) (hs : mem 82 = su) (hhe : mem 75 = he) (h78 : mem 78 = t.1) (h79 : mem 79 = t.2.1) (h80 : mem 80 = t.2.2) (hN1 : 1 ≤ N) (hR : z_RG N ro st cu wa) (hH : z_HE N he) (hC : z_CR co) (hHR : z_HR dO o r dI n) (hmr : z_MR N t.2.1)
    (eO : mem 83 (5 * x) = dO) (eo : mem 83 (5 * x + 1) = o) (er : mem 83 (5 * x + 2) = r) (eI : mem 83 (5 * x + 3) = dI) (en : mem 83 (5 * x + 4) = n) (esh : mem 72 13 = sh) (hsh : 0 ≤ sh.toInt ∧ sh.toInt ≤ 10) (ex : mem 72 12 = nI x) (eH : mem 72 11 = nI H) (hx : x < H) (hH24 : H ≤ 24)
    (h : Q (q_set (z_M3 (z_M2 mem 77 82 (z_hp N ro st cu co dO dI r sh (wa, su))) 78 79 80 (z_ht N ro he cu co o n (z_hp N ro st cu co dO dI r sh (wa, su)).1 t)) 72 (upd (mem 72) 12 (nI (if x + 1 < H then x + 1 else 0))))) : wp_X3_goOn mem Q := by
  obtain ⟨hO, hI, hr, ho, hn⟩ := hHR
  obtain ⟨r0, r1, r2⟩ := z_rnr hr hsh
  obtain ⟨hN, hL, hS⟩ := id hR
  have a83 : q_al 83 = 120 := rfl
  have i73 : vp_in (0 : Int32) (q_al 73) := vp_in_iff.mpr (by decide)
  have i77 : vp_in (0 : Int32) (q_al 77) := vp_in_iff.mpr (by decide)
  have i82 : vp_in (0 : Int32) (q_al 82) := vp_in_iff.mpr (by decide)
  have i821 : vp_in (1 : Int32) (q_al 82) := vp_in_iff.mpr (by decide)
  have e5 : (5 : Int32) * mem 72 12 = nI (5 * x) := by rw [ex, z_lit 5, pk_mul]
  have ek : ∀ k : Nat, k < 5 → (nI (5 * x) + nI k) = nI (5 * x + k) ∧ (nI (5 * x + k)).toNatClampNeg = 5 * x + k ∧ vp_in (nI (5 * x + k)) 120 := fun k hk => ⟨nI_add _ _, nI_clamp (by omega), in_nI (by omega) (by omega)⟩
  obtain ⟨p2, q2, s2⟩ := ek 2 (by omega)
  obtain ⟨p1, q1, s1⟩ := ek 1 (by omega)
  obtain ⟨p4, q4, s4⟩ := ek 4 (by omega)
  rw [← z_lit 2] at p2
  rw [← z_lit 1] at p1
  rw [← z_lit 4] at p4
  unfold wp_X3_goOn
  rw [e5]
  rintro y rfl
  rw [p2, q2, a83, er, esh]
  refine ⟨s2, ?_⟩
  have key : wp_X3_goOn_58 (nI (5 * x)) (z_rn r sh) (z_tk ro wa (z_rn r sh)) mem Q := by
    unfold wp_X3_goOn_58
    rw [c_0, c_1]
    refine ⟨i77, i77, ?_⟩
    rintro m rfl
    refine ⟨i82, i82, ?_⟩
    rintro m rfl
    refine ⟨i821, i821, ?_⟩
    rintro m rfl
    simp only [q_set_s, q_set_n (show (82 : Nat) ≠ 77 by decide), hw, hs]
    have e : q_set (q_set (q_set mem 77 (upd wa 0 (wa 0 + z_tk ro wa (z_rn r sh)))) 82 (upd su 0 (su 0 + z_tk ro wa (z_rn r sh)))) 82 (upd (upd su 0 (su 0 + z_tk ro wa (z_rn r sh))) 1 (upd su 0 (su 0 + z_tk ro wa (z_rn r sh)) 1 + (z_rn r sh - z_tk ro wa (z_rn r sh)))) = z_M2 mem 77 82 (z_rain ro (z_rn r sh) (wa, su)) := by
      rw [q_set_set]
      rfl
    rw [e]
    refine p_goOn_94 hM (z_rain_RG (p := (wa, su)) hR r1 r2) hC hO hI eO eI (by omega) ?_
    change wp_X3_goOn_116 (nI (5 * x)) (z_M2 mem 77 82 (z_hp N ro st cu co dO dI r sh (wa, su))) Q
    have hRp : z_RG N ro st cu (z_hp N ro st cu co dO dI r sh (wa, su)).1 := z_move_RG (p := (wa, su)) hR hC hO hI r1 r2
    generalize z_hp N ro st cu co dO dI r sh (wa, su) = p at *
    have hM2 := z_MO_M2 p hM
    unfold wp_X3_goOn_116
    rw [p1, q1, a83, p4, q4, z_M2_n (show (83 : Nat) ≠ 77 by decide) (show (83 : Nat) ≠ 82 by decide), eo, en]
    refine ⟨s1, ?_⟩
    intro y hy
    replace hy := hy.symm
    subst hy
    refine ⟨s4, ?_⟩
    intro y hy
    replace hy := hy.symm
    subst hy
    rw [hM2.1]
    refine p_heatOf hN ?_
    rw [z_M2_n (show (75 : Nat) ≠ 77 by decide) (show (75 : Nat) ≠ 82 by decide), hhe]
    rintro y rfl
    have e3 : z_M2 mem 77 82 p = z_M3 (z_M2 mem 77 82 p) 78 79 80 t := (z_M3_self (by rw [z_M2_n (by decide) (by decide)]; exact h78) (by rw [z_M2_n (by decide) (by decide)]; exact h79) (by rw [z_M2_n (by decide) (by decide)]; exact h80) (by decide) (by decide) (by decide)).symm
    rw [e3]
    refine p_goOn_153 hM2 (z_M2_1 (by decide) _) (by rw [z_M2_n (by decide) (by decide)]; exact hhe) hRp hH hC hmr ?_
    unfold wp_X3_goOn_352
    have e72 : z_M3 (z_M2 mem 77 82 p) 78 79 80 (z_feel N ro he p.1 (z_dm co ro cu p.1) o n t N) 72 = mem 72 := by rw [z_M3_n (by decide) (by decide) (by decide), z_M2_n (by decide) (by decide)]
    rw [e72, eH, ex]
    refine ⟨?_, ?_⟩
    · rw [z_jeq0 (by omega)]; omega
    · rw [z_nextmod hx hH24]
      rintro m rfl
      exact h
  rintro y rfl
  refine ⟨i73, i77, ?_⟩
  rw [c_0, hM.2.1, hw]
  unfold z_tk at key
  refine ⟨fun c => ?_, fun c => ⟨i73, i77, ?_⟩⟩
  · rw [if_pos (show z_rn r sh ≤ ro 0 - wa 0 from c)] at key; exact key
  · rw [if_neg (show ¬ z_rn r sh ≤ ro 0 - wa 0 from c)] at key; exact key

/-! ===== memory as a function of cells ===== -/
theorem q_set_set (m : q_Mem) (k : Nat) (f g : Nat → Int32) : q_set (q_set m k f) k g = q_set m k g := by
  funext j
  unfold q_set
  by_cases h : j = k <;> simp [h]
theorem q_set_self {m : q_Mem} {k : Nat} {f : Nat → Int32} (h : m k = f) : q_set m k f = m := by
  funext j
  unfold q_set
  by_cases e : j = k
  · rw [if_pos e, e, h]
  · rw [if_neg e]
theorem q_set_comm {m : q_Mem} {k j : Nat} (h : k ≠ j) (f g : Nat → Int32) : q_set (q_set m k f) j g = q_set (q_set m j g) k f := by
  funext i
  unfold q_set
  by_cases h1 : i = k
  · have h2 : i ≠ j := fun e => h (h1 ▸ e)
    rw [if_neg h2, if_pos h1, if_pos h1]
  · rw [if_neg h1]
    by_cases h2 : i = j
    · rw [if_pos h2, if_neg h1]
    · rw [if_neg h2, if_neg h1]
def z_f0 (N j : Nat) (ro st cu co : Nat → Int32) (dO dI : Int32) (wa : Nat → Int32) : Int32 := ((if j = 0 then dO else z_dm co ro cu wa (j - 1)) - (if j = N then dI else z_dm co ro cu wa j)) / ((if j = 0 then (1 : Int32) else st (j - 1)) + (if j = N then (1 : Int32) else st j))
def z_cw (N j : Nat) (fl : Int32) (w : Nat → Int32) : Nat → Int32 := (fun w1 : Nat → Int32 => if j < N then upd w1 j (w1 j + fl) else w1) (if 0 < j then upd w (j - 1) (w (j - 1) - fl) else w)
def z_cs (N j : Nat) (fl : Int32) (s : Nat → Int32) : Nat → Int32 := (fun s1 : Nat → Int32 => if j < N then s1 else upd s1 3 (s1 3 - fl)) (if 0 < j then s else upd s 2 (s 2 + fl))
def z_cross (N : Nat) (ro st cu co : Nat → Int32) (dO dI : Int32) (j : Nat) (p : (Nat → Int32) × (Nat → Int32)) : (Nat → Int32) × (Nat → Int32) :=
  (z_cw N j (z_flow N j ro p.1 (z_f0 N j ro st cu co dO dI p.1)) p.1, z_cs N j (z_flow N j ro p.1 (z_f0 N j ro st cu co dO dI p.1)) p.2)
/-- the numbers of a wall of N layers -/
def z_RG (N : Nat) (ro st cu wa : Nat → Int32) : Prop := N ≤ 6 ∧ (∀ i, i < N → z_LR ro cu wa i) ∧ ∀ i, i < N → 1 ≤ (st i).toInt ∧ (st i).toInt ≤ 50
def z_D (d : Int32) : Prop := 0 ≤ d.toInt ∧ d.toInt ≤ 1000
theorem z_tdivb {a b : Int} (hb : 0 < b) (h : -1000 ≤ a ∧ a ≤ 1000) : -1000 ≤ a.tdiv b ∧ a.tdiv b ≤ 1000 := by
  have h1 : (a.tdiv b).natAbs ≤ a.natAbs := by rw [Int.natAbs_tdiv]; exact Nat.div_le_self _ _
  omega
theorem z_f0r {N j : Nat} {ro st cu co : Nat → Int32} {dO dI : Int32} {wa : Nat → Int32} (hR : z_RG N ro st cu wa) (hC : z_CR co) (hO : z_D dO) (hI : z_D dI) (hj : j ≤ N) :
    0 < ((if j = 0 then (1 : Int32) else st (j - 1)) + (if j = N then (1 : Int32) else st j)).toInt ∧ -1000 ≤ (z_f0 N j ro st cu co dO dI wa).toInt ∧ (z_f0 N j ro st cu co dO dI wa).toInt ≤ 1000 := by
  obtain ⟨h6, hL, hS⟩ := hR
  have a1 : 1 ≤ (if j = 0 then (1 : Int32) else st (j - 1)).toInt ∧ (if j = 0 then (1 : Int32) else st (j - 1)).toInt ≤ 50 := by
    by_cases h : j = 0
    · rw [if_pos h, t_1]; omega
    · rw [if_neg h]; exact hS _ (by omega)
  have a2 : 1 ≤ (if j = N then (1 : Int32) else st j).toInt ∧ (if j = N then (1 : Int32) else st j).toInt ≤ 50 := by
    by_cases h : j = N
    · rw [if_pos h, t_1]; omega
    · rw [if_neg h]; exact hS _ (by omega)
  have a3 : z_D (if j = 0 then dO else z_dm co ro cu wa (j - 1)) := by
    by_cases h : j = 0
    · rw [if_pos h]; exact hO
    · rw [if_neg h]; exact z_dm_rng hC (hL _ (by omega))
  have a4 : z_D (if j = N then dI else z_dm co ro cu wa j) := by
    by_cases h : j = N
    · rw [if_pos h]; exact hI
    · rw [if_neg h]; exact z_dm_rng hC (hL _ (by omega))
  unfold z_f0
  generalize (if j = 0 then (1 : Int32) else st (j - 1)) = s1 at *
  generalize (if j = N then (1 : Int32) else st j) = s2 at *
  generalize (if j = 0 then dO else z_dm co ro cu wa (j - 1)) = d1 at *
  generalize (if j = N then dI else z_dm co ro cu wa j) = d2 at *
  obtain ⟨b1, b2⟩ := a3
  obtain ⟨b3, b4⟩ := a4
  have hs : 0 < (s1 + s2).toInt := by rw [z_add (by omega) (by omega)]; omega
  refine ⟨hs, ?_⟩
  rw [z_div hs, z_sub (by omega) (by omega)]
  exact z_tdivb hs (by omega)
theorem z_jle0 {j : Nat} (h : j < 2147483648) : nI j ≤ (0 : Int32) ↔ j = 0 := by rw [z_le, t_0, z_nI h]; omega
theorem z_jeq0 {j : Nat} (h : j < 2147483648) : nI j = (0 : Int32) ↔ j = 0 := by rw [z_eq, t_0, z_nI h]; omega
theorem z_nle2 {a b : Nat} (ha : a < 2147483648) (hb : b < 2147483648) : nI a ≤ nI b ↔ a ≤ b := nI_leI ha hb
theorem z_neq2 {a b : Nat} (ha : a < 2147483648) (hb : b < 2147483648) : nI a = nI b ↔ a = b := nI_eq ha hb
theorem z_pred {j : Nat} (h : 0 < j) : nI j - (1 : Int32) = nI (j - 1) := by
  obtain ⟨k, rfl⟩ : ∃ k, j = k + 1 := ⟨j - 1, by omega⟩
  rw [nI_pred]; rfl
theorem p_cross_260 {N j : Nat} {a1 fl : Int32} {mem : q_Mem} {wa su : Nat → Int32} {Q : q_Mem → Prop} (hn : mem 72 0 = nI N) (hw : mem 77 = wa) (hs : mem 82 = su) (hN : N ≤ 6) (hj : j ≤ N) (h : Q (q_set (q_set mem 77 (z_cw N j fl wa)) 82 (z_cs N j fl su))) : wp_X3_cross_260 (nI j) a1 fl mem Q := by
  have hjl : j < 2147483648 := by omega
  have hNl : N < 2147483648 := by omega
  have a77 : q_al 77 = 6 := rfl
  have i2 : vp_in (2 : Int32) (q_al 82) := vp_in_iff.mpr (by decide)
  have i3 : vp_in (3 : Int32) (q_al 82) := vp_in_iff.mpr (by decide)
  have hcl : (nI j).toNatClampNeg = j := nI_clamp hjl
  unfold wp_X3_cross_260 wp_X3_cross_291
  simp only [z_jle0 hjl, a77, i2, i3, true_and, c_2, c_3, hw, hs, hcl]
  unfold z_cw z_cs at h
  refine ⟨fun h0 => ?_, fun h0 => ?_⟩
  · rintro m rfl
    have hn2 : q_set mem 82 (upd su 2 (su 2 + fl)) 72 0 = nI N := by rw [q_set_n (by decide)]; exact hn
    rw [hn2]
    simp only [z_nle2 hNl hjl]
    simp only [show ¬ 0 < j by omega, if_false] at h
    refine ⟨fun h1 => ?_, fun h1 => ⟨in_nI (by omega) (by omega), in_nI (by omega) (by omega), ?_⟩⟩
    · rintro m rfl
      simp only [show ¬ j < N by omega, if_false] at h
      rw [q_set_s, q_set_set]
      rw [q_set_self hw] at h
      exact h
    · rintro m rfl
      simp only [show j < N by omega, if_true] at h
      rw [q_set_n (show 77 ≠ 82 by decide), hw, q_set_comm (show 82 ≠ 77 by decide)]
      exact h
  · have hp : nI j - (1 : Int32) = nI (j - 1) := z_pred (by omega)
    have hcl2 : (nI (j - 1)).toNatClampNeg = j - 1 := nI_clamp (by omega)
    rw [hp, hcl2]
    refine ⟨in_nI (by omega) (by omega), in_nI (by omega) (by omega), ?_⟩
    rintro m rfl
    have hn2 : q_set mem 77 (upd wa (j - 1) (wa (j - 1) - fl)) 72 0 = nI N := by rw [q_set_n (by decide)]; exact hn
    rw [hn2]
    simp only [z_nle2 hNl hjl]
    simp only [show 0 < j by omega, if_true] at h
    refine ⟨fun h1 => ?_, fun h1 => ⟨in_nI (by omega) (by omega), in_nI (by omega) (by omega), ?_⟩⟩
    · rintro m rfl
      simp only [show ¬ j < N by omega, if_false] at h
      rw [q_set_n (show 82 ≠ 77 by decide), hs]
      exact h
    · rintro m rfl
      simp only [show j < N by omega, if_true] at h
      rw [q_set_s, q_set_set]
      rw [q_set_self (f := su) (by rw [q_set_n (show 82 ≠ 77 by decide)]; exact hs)] at h
      exact h
theorem p_cross_85 {N j : Nat} {a1 s1 s2 s3 : Int32} {mem : q_Mem} {ro wa su : Nat → Int32} {Q : q_Mem → Prop} (hn : mem 72 0 = nI N) (hr : mem 73 = ro) (hw : mem 77 = wa) (hs : mem 82 = su) (hN : N ≤ 6) (hj : j ≤ N) (h0 : 0 < (s2 + s3).toInt) (h : Q (q_set (q_set mem 77 (z_cw N j (z_flow N j ro wa (s1 / (s2 + s3))) wa)) 82 (z_cs N j (z_flow N j ro wa (s1 / (s2 + s3))) su))) : wp_X3_cross_85 (nI j) a1 s3 s2 s1 mem Q := by
  have hjl : j < 2147483648 := by omega
  have hNl : N < 2147483648 := by omega
  have a77 : q_al 77 = 6 := rfl
  have a73 : q_al 73 = 6 := rfl
  have hcl : (nI j).toNatClampNeg = j := nI_clamp hjl
  unfold wp_X3_cross_85 wp_X3_cross_205 wp_X3_cross_207 wp_X3_cross_256 wp_X3_cross_258 wp_X3_cross_122 wp_X3_cross_124 wp_X3_cross_168 wp_X3_cross_170
  refine ⟨z_ne0 h0, ?_⟩
  rintro x rfl
  generalize s1 / (s2 + s3) = f0 at *
  unfold z_flow at h
  simp only [z_jle0 hjl, hn, z_nle2 hNl hjl, a77, a73, hr, hw, hcl]
  have key : ∀ fl : Int32, fl = z_flow N j ro wa f0 → wp_X3_cross_260 (nI j) a1 fl mem Q := fun fl e => by
    subst e
    refine p_cross_260 hn hw hs hN hj ?_
    unfold z_flow
    exact h
  unfold z_flow at key
  by_cases hj0 : j = 0
  · have hnj : ¬ 0 < j := by omega
    simp only [hnj, false_and, if_false] at key
    simp only [hj0, true_implies, not_true, false_implies, and_true]
    simp only [hj0] at key hcl
    by_cases hjN : 0 < N
    · have hnn : ¬ N ≤ 0 := by omega
      simp only [hjN, true_and] at key
      simp only [hnn, false_implies, not_false_eq_true, true_implies, true_and]
      have hin : vp_in (nI 0) 6 := in_nI (by omega) (by omega)
      refine ⟨fun c1 => ⟨hin, fun c2 => ?_, fun c2 => ⟨hin, ?_⟩⟩, fun c1 => ⟨hin, hin, fun c2 => ?_, fun c2 => ⟨hin, hin, ?_⟩⟩⟩
      · exact key _ (by rw [if_pos c1, if_neg (by simp [c2])])
      · exact key _ (by rw [if_pos c1, if_pos c2])
      · exact key _ (by rw [if_neg c1, if_neg (by simp [c2])])
      · exact key _ (by rw [if_neg c1, if_pos c2])
    · have hnn : N ≤ 0 := by omega
      simp only [hjN, false_and, if_false] at key
      simp only [hnn, true_implies, not_true, false_implies, and_true]
      exact ⟨fun c1 => key _ (by rw [if_pos c1]), fun c1 => key _ (by rw [if_neg c1])⟩
  · have hp : nI j - (1 : Int32) = nI (j - 1) := z_pred (by omega)
    have hcl2 : (nI (j - 1)).toNatClampNeg = j - 1 := nI_clamp (by omega)
    have hin2 : vp_in (nI (j - 1)) 6 := in_nI (by omega) (by omega)
    have hpj : 0 < j := by omega
    simp only [hpj, true_and] at key
    simp only [hj0, false_implies, not_false_eq_true, true_implies, true_and, hp, hcl2, hin2]
    by_cases hjN : j < N
    · have hnn : ¬ N ≤ j := by omega
      simp only [hjN, true_and] at key
      have hin : vp_in (nI j) 6 := in_nI (by omega) (by omega)
      simp only [hnn, false_implies, not_false_eq_true, true_implies, true_and, hin]
      refine ⟨fun c1 => ⟨fun c2 => ⟨fun c3 => ?_, fun c3 => ?_⟩, fun c2 => ⟨fun c3 => ?_, fun c3 => ?_⟩⟩, fun c1 => ⟨fun c2 => ⟨fun c3 => ?_, fun c3 => ?_⟩, fun c2 => ⟨fun c3 => ?_, fun c3 => ?_⟩⟩⟩
      · exact key _ (by simp only [if_pos c1, c2, c3, not_true, if_false])
      · exact key _ (by simp only [if_pos c1, c2, c3, not_true, if_false, not_false_eq_true, if_true])
      · exact key _ (by simp only [if_pos c1, c2, c3, not_true, if_false, not_false_eq_true, if_true])
      · exact key _ (by simp only [if_pos c1, c2, c3, not_false_eq_true, if_true])
      · exact key _ (by simp only [if_neg c1, c2, c3, not_true, if_false])
      · exact key _ (by simp only [if_neg c1, c2, c3, not_true, if_false, not_false_eq_true, if_true])
      · exact key _ (by simp only [if_neg c1, c2, c3, not_true, if_false, not_false_eq_true, if_true])
      · exact key _ (by simp only [if_neg c1, c2, c3, not_false_eq_true, if_true])
    · have hnn : N ≤ j := by omega
      simp only [hjN, false_and, if_false] at key
      simp only [hnn, true_implies, not_true, false_implies, and_true]
      refine ⟨fun c1 => ⟨fun c3 => ?_, fun c3 => ?_⟩, fun c1 => ⟨fun c2 => ?_, fun c2 => ?_⟩⟩
      · exact key _ (by simp only [if_pos c1, c3, not_true, if_false])
      · exact key _ (by simp only [if_pos c1, c3, not_false_eq_true, if_true])
      · exact key _ (by simp only [if_neg c1, c2, not_true, if_false])
      · exact key _ (by simp only [if_neg c1, c2, not_false_eq_true, if_true])

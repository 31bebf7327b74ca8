/-! ===== a border: what goes over it ===== -/
theorem z_LRi {ro cu wa : Nat → Int32} {i : Nat} (h : z_LR ro cu wa i) : 1 ≤ (ro i).toInt ∧ (ro i).toInt ≤ 1000 ∧ 0 ≤ (wa i).toInt ∧ (wa i).toInt ≤ (ro i).toInt := by
  obtain ⟨r, c, w, hr, hc, hw, h1, h2, h3, h4⟩ := h
  rw [hr, hw, z_nI (by omega), z_nI (by omega)]
  omega
theorem z_LRmk {ro cu wa wb : Nat → Int32} {i : Nat} (h : z_LR ro cu wa i) (h0 : 0 ≤ (wb i).toInt) (h1 : (wb i).toInt ≤ (ro i).toInt) : z_LR ro cu wb i := by
  obtain ⟨r, c, w, hr, hc, hw, g1, g2, g3, g4⟩ := h
  obtain ⟨n, hn, hn2, hn3⟩ := z_nat h0
  have hri : (ro i).toInt = (r : Int) := by rw [hr, z_nI (by omega)]
  exact ⟨r, c, n, hr, hc, hn2, g1, g2, g3, by omega⟩
theorem z_dm_rng {co ro cu wa : Nat → Int32} {i : Nat} (hC : z_CR co) (hL : z_LR ro cu wa i) : 0 ≤ (z_dm co ro cu wa i).toInt ∧ (z_dm co ro cu wa i).toInt ≤ 1000 := by
  obtain ⟨r, c, w, q, t, d, hr, hc, hw1, h1, h2, h3, h4, hq, hqd, eq, e4, ea, et, hm, hd, ed, -⟩ := z_dmF hC hL
  rw [ed, z_nI (by omega)]
  omega
def z_flow (N j : Nat) (ro wa : Nat → Int32) (f0 : Int32) : Int32 :=
  if f0 ≤ 0 then
    (if 0 < j ∧ ¬ (-(if j < N ∧ ¬ (-f0 ≤ wa j) then -(wa j) else f0) ≤ ro (j - 1) - wa (j - 1)) then wa (j - 1) - ro (j - 1) else (if j < N ∧ ¬ (-f0 ≤ wa j) then -(wa j) else f0))
  else
    (if j < N ∧ ¬ ((if 0 < j ∧ ¬ (f0 ≤ wa (j - 1)) then wa (j - 1) else f0) ≤ ro j - wa j) then ro j - wa j else (if 0 < j ∧ ¬ (f0 ≤ wa (j - 1)) then wa (j - 1) else f0))
def z_cf (f0 gA fA gB fB : Int32) : Int32 := if f0 ≤ 0 then -(if (if fA < gB then fA else gB) < -f0 then (if fA < gB then fA else gB) else -f0) else (if (if fB < gA then fB else gA) < f0 then (if fB < gA then fB else gA) else f0)
theorem z_flow_rng {N j : Nat} {ro wa : Nat → Int32} {f0 : Int32} (hf : -1000 ≤ f0.toInt ∧ f0.toInt ≤ 1000) (hA : 0 < j → 1 ≤ (ro (j - 1)).toInt ∧ (ro (j - 1)).toInt ≤ 1000 ∧ 0 ≤ (wa (j - 1)).toInt ∧ (wa (j - 1)).toInt ≤ (ro (j - 1)).toInt) (hB : j < N → 1 ≤ (ro j).toInt ∧ (ro j).toInt ≤ 1000 ∧ 0 ≤ (wa j).toInt ∧ (wa j).toInt ≤ (ro j).toInt) :
    (0 < j → (wa (j - 1)).toInt - (ro (j - 1)).toInt ≤ (z_flow N j ro wa f0).toInt ∧ (z_flow N j ro wa f0).toInt ≤ (wa (j - 1)).toInt) ∧ (j < N → -(wa j).toInt ≤ (z_flow N j ro wa f0).toInt ∧ (z_flow N j ro wa f0).toInt ≤ (ro j).toInt - (wa j).toInt) ∧ -1000 ≤ (z_flow N j ro wa f0).toInt ∧ (z_flow N j ro wa f0).toInt ≤ 1000 := by
  have n0 : (-f0).toInt = -f0.toInt := z_neg (by omega)
  unfold z_flow
  by_cases hj : 0 < j <;> by_cases hN : j < N
  · have a := hA hj
    have b := hB hN
    have n1 : (-(wa j)).toInt = -(wa j).toInt := z_neg (by omega)
    have n2 : (-(-(wa j))).toInt = (wa j).toInt := by rw [z_neg (by omega), n1]; omega
    have s1 : (ro (j - 1) - wa (j - 1)).toInt = (ro (j - 1)).toInt - (wa (j - 1)).toInt := z_sub (by omega) (by omega)
    have s2 : (wa (j - 1) - ro (j - 1)).toInt = (wa (j - 1)).toInt - (ro (j - 1)).toInt := z_sub (by omega) (by omega)
    have s3 : (ro j - wa j).toInt = (ro j).toInt - (wa j).toInt := z_sub (by omega) (by omega)
    simp only [hj, hN, true_and, true_implies]
    by_cases c1 : f0 ≤ 0
    · rw [if_pos c1]
      by_cases c2 : -f0 ≤ wa j
      · simp only [c2, not_true, if_false]
        by_cases c3 : -f0 ≤ ro (j - 1) - wa (j - 1)
        · simp only [c3, not_true, if_false]
          rw [z_le] at c1 c2 c3
          rw [s1, n0] at c3
          rw [n0] at c2
          rw [t_0] at c1
          omega
        · simp only [c3, not_false_eq_true, if_true]
          rw [z_le] at c1 c2 c3
          rw [s1, n0] at c3
          rw [n0] at c2
          rw [t_0] at c1
          rw [s2]
          omega
      · simp only [c2, not_false_eq_true, if_true]
        by_cases c3 : -(-(wa j)) ≤ ro (j - 1) - wa (j - 1)
        · simp only [c3, not_true, if_false]
          rw [z_le] at c1 c2 c3
          rw [s1, n2] at c3
          rw [n0] at c2
          rw [t_0] at c1
          rw [n1]
          omega
        · simp only [c3, not_false_eq_true, if_true]
          rw [z_le] at c1 c2 c3
          rw [s1, n2] at c3
          rw [n0] at c2
          rw [t_0] at c1
          rw [s2]
          omega
    · rw [if_neg c1]
      by_cases c2 : f0 ≤ wa (j - 1)
      · simp only [c2, not_true, if_false]
        by_cases c3 : f0 ≤ ro j - wa j
        · simp only [c3, not_true, if_false]
          rw [z_le] at c1 c2 c3
          rw [s3] at c3
          rw [t_0] at c1
          omega
        · simp only [c3, not_false_eq_true, if_true]
          rw [z_le] at c1 c2 c3
          rw [s3] at c3
          rw [t_0] at c1
          rw [s3]
          omega
      · simp only [c2, not_false_eq_true, if_true]
        by_cases c3 : wa (j - 1) ≤ ro j - wa j
        · simp only [c3, not_true, if_false]
          rw [z_le] at c1 c2 c3
          rw [s3] at c3
          rw [t_0] at c1
          omega
        · simp only [c3, not_false_eq_true, if_true]
          rw [z_le] at c1 c2 c3
          rw [s3] at c3
          rw [t_0] at c1
          rw [s3]
          omega
  · have a := hA hj
    have s1 : (ro (j - 1) - wa (j - 1)).toInt = (ro (j - 1)).toInt - (wa (j - 1)).toInt := z_sub (by omega) (by omega)
    have s2 : (wa (j - 1) - ro (j - 1)).toInt = (wa (j - 1)).toInt - (ro (j - 1)).toInt := z_sub (by omega) (by omega)
    simp only [hj, hN, true_and, false_and, if_false, true_implies, false_implies]
    by_cases c1 : f0 ≤ 0
    · rw [if_pos c1]
      by_cases c3 : -f0 ≤ ro (j - 1) - wa (j - 1)
      · simp only [c3, not_true, if_false]
        rw [z_le] at c1 c3
        rw [s1, n0] at c3
        rw [t_0] at c1
        omega
      · simp only [c3, not_false_eq_true, if_true]
        rw [z_le] at c1 c3
        rw [s1, n0] at c3
        rw [t_0] at c1
        rw [s2]
        omega
    · rw [if_neg c1]
      by_cases c2 : f0 ≤ wa (j - 1)
      · simp only [c2, not_true, if_false]
        rw [z_le] at c1 c2
        rw [t_0] at c1
        omega
      · simp only [c2, not_false_eq_true, if_true]
        rw [z_le] at c1 c2
        rw [t_0] at c1
        omega
  · have b := hB hN
    have n1 : (-(wa j)).toInt = -(wa j).toInt := z_neg (by omega)
    have s3 : (ro j - wa j).toInt = (ro j).toInt - (wa j).toInt := z_sub (by omega) (by omega)
    simp only [hj, hN, true_and, false_and, if_false, true_implies, false_implies]
    by_cases c1 : f0 ≤ 0
    · rw [if_pos c1]
      by_cases c2 : -f0 ≤ wa j
      · simp only [c2, not_true, if_false]
        rw [z_le] at c1 c2
        rw [n0] at c2
        rw [t_0] at c1
        omega
      · simp only [c2, not_false_eq_true, if_true]
        rw [z_le] at c1 c2
        rw [n0] at c2
        rw [t_0] at c1
        rw [n1]
        omega
    · rw [if_neg c1]
      by_cases c3 : f0 ≤ ro j - wa j
      · simp only [c3, not_true, if_false]
        rw [z_le] at c1 c3
        rw [s3] at c3
        rw [t_0] at c1
        omega
      · simp only [c3, not_false_eq_true, if_true]
        rw [z_le] at c1 c3
        rw [s3] at c3
        rw [t_0] at c1
        rw [s3]
        omega
  · simp only [hj, hN, false_and, if_false, false_implies, true_and]
    by_cases c1 : f0 ≤ 0
    · rw [if_pos c1]; omega
    · rw [if_neg c1]; omega

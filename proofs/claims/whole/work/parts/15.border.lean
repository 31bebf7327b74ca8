theorem z_nle {x y : Int32} (h : ¬ x ≤ y) : y.toInt < x.toInt := by rw [z_le] at h; omega
theorem z_nlt {x y : Int32} (h : ¬ x < y) : y.toInt ≤ x.toInt := by rw [z_lt] at h; omega
theorem z_cf_eq {N j : Nat} {ro wa : Nat → Int32} {f0 gA fA gB fB : Int32} (hf : -1000 ≤ f0.toInt ∧ f0.toInt ≤ 1000) (hA : 0 < j → 1 ≤ (ro (j - 1)).toInt ∧ (ro (j - 1)).toInt ≤ 1000 ∧ 0 ≤ (wa (j - 1)).toInt ∧ (wa (j - 1)).toInt ≤ (ro (j - 1)).toInt) (hB : j < N → 1 ≤ (ro j).toInt ∧ (ro j).toInt ≤ 1000 ∧ 0 ≤ (wa j).toInt ∧ (wa j).toInt ≤ (ro j).toInt)
    (kA : 0 < j → gA = wa (j - 1) ∧ fA = ro (j - 1) - wa (j - 1)) (kA0 : ¬ 0 < j → gA = 2147483647 ∧ fA = 2147483647) (kB : j < N → gB = wa j ∧ fB = ro j - wa j) (kB0 : ¬ j < N → gB = 2147483647 ∧ fB = 2147483647) : z_cf f0 gA fA gB fB = z_flow N j ro wa f0 := by
  have n0 : (-f0).toInt = -f0.toInt := z_neg (by omega)
  have n00 : (-(-f0)).toInt = f0.toInt := by rw [z_neg (by omega), n0]; omega
  have gA1 : 0 ≤ gA.toInt ∧ (0 < j → gA.toInt = (wa (j - 1)).toInt) ∧ (¬ 0 < j → gA.toInt = 2147483647) := by
    by_cases h : 0 < j
    · have := hA h; have := kA h; rw [this.1]; omega
    · have := kA0 h; rw [this.1, t_max]; omega
  have fA1 : 0 ≤ fA.toInt ∧ (0 < j → fA.toInt = (ro (j - 1)).toInt - (wa (j - 1)).toInt) ∧ (¬ 0 < j → fA.toInt = 2147483647) := by
    by_cases h : 0 < j
    · have := hA h; have := kA h; rw [this.2, z_sub (by omega) (by omega)]; omega
    · have := kA0 h; rw [this.2, t_max]; omega
  have gB1 : 0 ≤ gB.toInt ∧ (j < N → gB.toInt = (wa j).toInt) ∧ (¬ j < N → gB.toInt = 2147483647) := by
    by_cases h : j < N
    · have := hB h; have := kB h; rw [this.1]; omega
    · have := kB0 h; rw [this.1, t_max]; omega
  have fB1 : 0 ≤ fB.toInt ∧ (j < N → fB.toInt = (ro j).toInt - (wa j).toInt) ∧ (¬ j < N → fB.toInt = 2147483647) := by
    by_cases h : j < N
    · have := hB h; have := kB h; rw [this.2, z_sub (by omega) (by omega)]; omega
    · have := kB0 h; rw [this.2, t_max]; omega
  have mA : (-fA).toInt = -fA.toInt := z_neg (by omega)
  have mB : (-gB).toInt = -gB.toInt := z_neg (by omega)
  -- the class's flow
  have ec : (z_cf f0 gA fA gB fB).toInt = if f0.toInt ≤ 0 then -(min (-f0.toInt) (min gB.toInt fA.toInt)) else min f0.toInt (min gA.toInt fB.toInt) := by
    unfold z_cf
    simp only [z_le, z_lt, n0, t_0]
    by_cases c1 : f0.toInt ≤ 0
    · simp only [if_pos c1]
      by_cases c2 : fA.toInt < gB.toInt
      · simp only [if_pos c2]
        by_cases c3 : fA.toInt < -f0.toInt
        · simp only [if_pos c3, mA]; omega
        · simp only [if_neg c3, n00]; omega
      · simp only [if_neg c2]
        by_cases c3 : gB.toInt < -f0.toInt
        · simp only [if_pos c3, mB]; omega
        · simp only [if_neg c3, n00]; omega
    · simp only [if_neg c1]
      by_cases c2 : fB.toInt < gA.toInt
      · simp only [if_pos c2]
        by_cases c3 : fB.toInt < f0.toInt
        · simp only [if_pos c3]; omega
        · simp only [if_neg c3]; omega
      · simp only [if_neg c2]
        by_cases c3 : gA.toInt < f0.toInt
        · simp only [if_pos c3]; omega
        · simp only [if_neg c3]; omega
  rw [z_eq, ec]
  unfold z_flow
  by_cases hj : 0 < j <;> by_cases hN : j < N
  · have a := hA hj
    have b := hB hN
    have n1 : (-(wa j)).toInt = -(wa j).toInt := z_neg (by omega)
    have n2 : (-(-(wa j))).toInt = (wa j).toInt := by rw [z_neg (by omega), n1]; omega
    have s1 : (ro (j - 1) - wa (j - 1)).toInt = (ro (j - 1)).toInt - (wa (j - 1)).toInt := z_sub (by omega) (by omega)
    have s2 : (wa (j - 1) - ro (j - 1)).toInt = (wa (j - 1)).toInt - (ro (j - 1)).toInt := z_sub (by omega) (by omega)
    have s3 : (ro j - wa j).toInt = (ro j).toInt - (wa j).toInt := z_sub (by omega) (by omega)
    simp only [hj, hN, true_and, true_implies, not_true, false_implies, and_true] at gA1 fA1 gB1 fB1 ⊢
    by_cases c1 : f0 ≤ 0
    · have c1' := z_le.mp c1
      rw [t_0] at c1'
      rw [if_pos c1, if_pos c1']
      by_cases c2 : -f0 ≤ wa j
      · have c2' := z_le.mp c2
        rw [n0] at c2'
        simp only [c2, not_true, if_false]
        by_cases c3 : -f0 ≤ ro (j - 1) - wa (j - 1)
        · have c3' := z_le.mp c3
          rw [n0, s1] at c3'
          simp only [c3, not_true, if_false]
          omega
        · have c3' := z_nle c3
          rw [n0, s1] at c3'
          simp only [c3, not_false_eq_true, if_true]
          rw [s2]
          omega
      · have c2' := z_nle c2
        rw [n0] at c2'
        simp only [c2, not_false_eq_true, if_true]
        by_cases c3 : -(-(wa j)) ≤ ro (j - 1) - wa (j - 1)
        · have c3' := z_le.mp c3
          rw [n2, s1] at c3'
          simp only [c3, not_true, if_false]
          rw [n1]
          omega
        · have c3' := z_nle c3
          rw [n2, s1] at c3'
          simp only [c3, not_false_eq_true, if_true]
          rw [s2]
          omega
    · have c1' := z_nle c1
      rw [t_0] at c1'
      rw [if_neg c1, if_neg (Int.not_le.mpr c1')]
      by_cases c2 : f0 ≤ wa (j - 1)
      · have c2' := z_le.mp c2
        simp only [c2, not_true, if_false]
        by_cases c3 : f0 ≤ ro j - wa j
        · have c3' := z_le.mp c3
          rw [s3] at c3'
          simp only [c3, not_true, if_false]
          omega
        · have c3' := z_nle c3
          rw [s3] at c3'
          simp only [c3, not_false_eq_true, if_true]
          rw [s3]
          omega
      · have c2' := z_nle c2
        simp only [c2, not_false_eq_true, if_true]
        by_cases c3 : wa (j - 1) ≤ ro j - wa j
        · have c3' := z_le.mp c3
          rw [s3] at c3'
          simp only [c3, not_true, if_false]
          omega
        · have c3' := z_nle c3
          rw [s3] at c3'
          simp only [c3, not_false_eq_true, if_true]
          rw [s3]
          omega
  · have a := hA hj
    have s1 : (ro (j - 1) - wa (j - 1)).toInt = (ro (j - 1)).toInt - (wa (j - 1)).toInt := z_sub (by omega) (by omega)
    have s2 : (wa (j - 1) - ro (j - 1)).toInt = (wa (j - 1)).toInt - (ro (j - 1)).toInt := z_sub (by omega) (by omega)
    simp only [hj, hN, true_and, false_and, if_false, true_implies, not_true, not_false_eq_true, false_implies, and_true] at gA1 fA1 gB1 fB1 ⊢
    by_cases c1 : f0 ≤ 0
    · have c1' := z_le.mp c1
      rw [t_0] at c1'
      rw [if_pos c1, if_pos c1']
      by_cases c3 : -f0 ≤ ro (j - 1) - wa (j - 1)
      · have c3' := z_le.mp c3
        rw [n0, s1] at c3'
        simp only [c3, not_true, if_false]
        omega
      · have c3' := z_nle c3
        rw [n0, s1] at c3'
        simp only [c3, not_false_eq_true, if_true]
        rw [s2]
        omega
    · have c1' := z_nle c1
      rw [t_0] at c1'
      rw [if_neg c1, if_neg (Int.not_le.mpr c1')]
      by_cases c2 : f0 ≤ wa (j - 1)
      · have c2' := z_le.mp c2
        simp only [c2, not_true, if_false]
        omega
      · have c2' := z_nle c2
        simp only [c2, not_false_eq_true, if_true]
        omega
  · have b := hB hN
    have n1 : (-(wa j)).toInt = -(wa j).toInt := z_neg (by omega)
    have s3 : (ro j - wa j).toInt = (ro j).toInt - (wa j).toInt := z_sub (by omega) (by omega)
    simp only [hj, hN, true_and, false_and, if_false, true_implies, not_true, not_false_eq_true, false_implies, and_true] at gA1 fA1 gB1 fB1 ⊢
    by_cases c1 : f0 ≤ 0
    · have c1' := z_le.mp c1
      rw [t_0] at c1'
      rw [if_pos c1, if_pos c1']
      by_cases c2 : -f0 ≤ wa j
      · have c2' := z_le.mp c2
        rw [n0] at c2'
        simp only [c2, not_true, if_false]
        omega
      · have c2' := z_nle c2
        rw [n0] at c2'
        simp only [c2, not_false_eq_true, if_true]
        rw [n1]
        omega
    · have c1' := z_nle c1
      rw [t_0] at c1'
      rw [if_neg c1, if_neg (Int.not_le.mpr c1')]
      by_cases c3 : f0 ≤ ro j - wa j
      · have c3' := z_le.mp c3
        rw [s3] at c3'
        simp only [c3, not_true, if_false]
        omega
      · have c3' := z_nle c3
        rw [s3] at c3'
        simp only [c3, not_false_eq_true, if_true]
        rw [s3]
        omega
  · simp only [hj, hN, false_and, if_false, not_false_eq_true, true_implies, false_implies, true_and] at gA1 fA1 gB1 fB1 ⊢
    by_cases c1 : f0 ≤ 0
    · have c1' := z_le.mp c1
      rw [t_0] at c1'
      rw [if_pos c1, if_pos c1']
      omega
    · have c1' := z_nle c1
      rw [t_0] at c1'
      rw [if_neg c1, if_neg (Int.not_le.mpr c1')]
      omega

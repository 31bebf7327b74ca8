/-! ===== numbers: Int32 by its Int ===== -/
theorem z_bmod {z : Int} (h1 : -2147483648 ≤ z) (h2 : z < 2147483648) : z.bmod (2 ^ 32) = z := by
  rw [Int.bmod_def]
  split <;> omega
theorem z_rng (x : Int32) : -2147483648 ≤ x.toInt ∧ x.toInt < 2147483648 := ⟨by have := Int32.minValue_le_toInt x; simpa using this, by have h := Int32.toInt_lt x; simpa using h⟩
theorem z_add {x y : Int32} (h1 : -2147483648 ≤ x.toInt + y.toInt) (h2 : x.toInt + y.toInt < 2147483648) : (x + y).toInt = x.toInt + y.toInt := by
  rw [Int32.toInt_add, z_bmod h1 h2]
theorem z_sub {x y : Int32} (h1 : -2147483648 ≤ x.toInt - y.toInt) (h2 : x.toInt - y.toInt < 2147483648) : (x - y).toInt = x.toInt - y.toInt := by
  rw [Int32.toInt_sub, z_bmod h1 h2]
theorem z_mul {x y : Int32} (h1 : -2147483648 ≤ x.toInt * y.toInt) (h2 : x.toInt * y.toInt < 2147483648) : (x * y).toInt = x.toInt * y.toInt := by
  rw [Int32.toInt_mul, z_bmod h1 h2]
theorem z_neg {x : Int32} (h : -2147483648 < x.toInt) : (-x).toInt = -x.toInt := by
  have := z_rng x
  rw [Int32.toInt_neg, z_bmod (by omega) (by omega)]
theorem z_div {x y : Int32} (h : 0 < y.toInt) : (x / y).toInt = x.toInt.tdiv y.toInt := by
  have hx := z_rng x
  have h1 : (x.toInt.tdiv y.toInt).natAbs ≤ x.toInt.natAbs := by rw [Int.natAbs_tdiv]; exact Nat.div_le_self _ _
  rw [Int32.toInt_div]
  by_cases hm : x.toInt = -2147483648
  · by_cases h1y : y.toInt = 1
    · rw [h1y, Int.tdiv_one, z_bmod hx.1 hx.2]
    · have h2 : (x.toInt.tdiv y.toInt).natAbs < 2147483648 := by
        rw [Int.natAbs_tdiv, hm]
        have h3 : 2 ≤ y.toInt.natAbs := by omega
        have h4 : (-2147483648 : Int).natAbs = 2147483648 := rfl
        rw [h4]
        exact Nat.div_lt_self (by decide) h3
      exact z_bmod (by omega) (by omega)
  · exact z_bmod (by omega) (by omega)
theorem z_lt {x y : Int32} : x < y ↔ x.toInt < y.toInt := Int32.lt_iff_toInt_lt
theorem z_le {x y : Int32} : x ≤ y ↔ x.toInt ≤ y.toInt := Int32.le_iff_toInt_le
theorem z_eq {x y : Int32} : x = y ↔ x.toInt = y.toInt := Int32.toInt_inj.symm
theorem z_nI {n : Nat} (h : n < 2147483648) : (nI n).toInt = (n : Int) := nI_toInt h
theorem z_cl (x : Int32) : x.toNatClampNeg = x.toInt.toNat := rfl
theorem z_of {x : Int32} {n : Nat} (h : x.toInt = (n : Int)) : x = nI n := by
  have := z_rng x
  rw [z_eq, h, z_nI (by omega)]
theorem z_nat {x : Int32} (h : 0 ≤ x.toInt) : ∃ n : Nat, n < 2147483648 ∧ x = nI n ∧ x.toInt = (n : Int) := by
  have := z_rng x
  exact ⟨x.toInt.toNat, by omega, z_of (by omega), by omega⟩
theorem z_subneg (x y : Int32) : x + -y = x - y := (Int32.sub_eq_add_neg x y).symm
theorem z_subnn (x y : Int32) : x - -y = x + y := by rw [Int32.sub_eq_add_neg, Int32.neg_neg]
theorem z_lit (n : Nat) : (OfNat.ofNat n : Int32) = nI n := rfl
/-! clamps of literals -/
theorem c_0 : (0 : Int32).toNatClampNeg = 0 := rfl
theorem c_1 : (1 : Int32).toNatClampNeg = 1 := rfl
theorem c_2 : (2 : Int32).toNatClampNeg = 2 := rfl
theorem c_3 : (3 : Int32).toNatClampNeg = 3 := rfl
theorem c_4 : (4 : Int32).toNatClampNeg = 4 := rfl
theorem c_5 : (5 : Int32).toNatClampNeg = 5 := rfl
theorem c_6 : (6 : Int32).toNatClampNeg = 6 := rfl
theorem t_0 : (0 : Int32).toInt = 0 := rfl
theorem t_1 : (1 : Int32).toInt = 1 := rfl
theorem t_2 : (2 : Int32).toInt = 2 := rfl
theorem t_3 : (3 : Int32).toInt = 3 := rfl
theorem t_4 : (4 : Int32).toInt = 4 := rfl
theorem t_5 : (5 : Int32).toInt = 5 := rfl
theorem t_6 : (6 : Int32).toInt = 6 := rfl
theorem t_9 : (9 : Int32).toInt = 9 := rfl
theorem t_10 : (10 : Int32).toInt = 10 := rfl
theorem t_20 : (20 : Int32).toInt = 20 := rfl
theorem t_40 : (40 : Int32).toInt = 40 := rfl
theorem t_600 : (600 : Int32).toInt = 600 := rfl
theorem t_800 : (800 : Int32).toInt = 800 := rfl
theorem t_1000 : (1000 : Int32).toInt = 1000 := rfl
theorem t_max : (2147483647 : Int32).toInt = 2147483647 := rfl
theorem t_m1 : (-1 : Int32).toInt = -1 := rfl
/-- an index that is in its row -/
theorem in_nI {i n : Nat} (h : i < n) (hn : n < 2147483648) : vp_in (nI i) n := vp_in_nI h hn
theorem in_int {x : Int32} {n : Nat} (h0 : 0 ≤ x.toInt) (h1 : x.toInt < n) : vp_in x n := vp_in_iff.mpr ⟨h0, h1⟩
/-! lengths -/
theorem al_w {b j n : Nat} (hb : q_WB b) (hj : j < 15) (h : (q_wsh b)[j]? = some (.inl n)) : q_al (b + j) = n := by
  unfold q_al
  rw [q_sh_wall hb j hj, h]
theorem al_w2 {b c : Nat} (hb : q_WB b) (hc : c < 3) : q_al (b + 2 + c) = 5 := by
  rcases (show c = 0 ∨ c = 1 ∨ c = 2 by omega) with rfl | rfl | rfl
  · exact al_w (j := 2) hb (by decide) rfl
  · exact al_w (j := 3) hb (by decide) rfl
  · exact al_w (j := 4) hb (by decide) rfl
theorem al_w5 {b : Nat} (hb : q_WB b) : q_al (b + 5) = 6 := al_w hb (by decide) rfl
theorem al_w6 {b : Nat} (hb : q_WB b) : q_al (b + 6) = 6 := al_w hb (by decide) rfl
theorem al_w7 {b : Nat} (hb : q_WB b) : q_al (b + 7) = 6 := al_w hb (by decide) rfl
theorem al_w8 {b : Nat} (hb : q_WB b) : q_al (b + 8) = 6 := al_w hb (by decide) rfl
theorem al_w9 {b : Nat} (hb : q_WB b) : q_al (b + 9) = 6 := al_w hb (by decide) rfl
theorem al_w10 {b : Nat} (hb : q_WB b) : q_al (b + 10) = 6 := al_w hb (by decide) rfl
theorem al_w11 {b : Nat} (hb : q_WB b) : q_al (b + 11) = 6 := al_w hb (by decide) rfl
theorem al_w12 {b : Nat} (hb : q_WB b) : q_al (b + 12) = 6 := al_w hb (by decide) rfl
theorem al_w13 {b : Nat} (hb : q_WB b) : q_al (b + 13) = 5 := al_w hb (by decide) rfl
theorem al_w14 {b : Nat} (hb : q_WB b) : q_al (b + 14) = 6 := al_w hb (by decide) rfl
theorem al_hr {i : Nat} (h : i < 24) : q_al (35 + i) = 5 := by
  have key : ∀ j : Fin 24, q_al (35 + j.val) = 5 := by decide +kernel
  exact key ⟨i, h⟩
theorem al_rd {i : Nat} (h : i < 12) : q_al (60 + i) = 4 := by
  have key : ∀ j : Fin 12, q_al (60 + j.val) = 4 := by decide +kernel
  exact key ⟨i, h⟩
/-! loops: the state at each turn is told by the turn's number -/
theorem w_lp1 (N : Nat) (P : Nat → Prop) (X1 : Nat → Int32) (S : Nat → q_Mem) {body : (Int32 → q_Mem → Prop) → Int32 → q_Mem → Prop} {x1 : Int32} {mem : q_Mem} (h0 : P 0) (e1 : x1 = X1 0) (em : mem = S 0) (step : ∀ k, k ≤ N → P k → ∀ K : Int32 → q_Mem → Prop, (k < N → P (k + 1) → K (X1 (k + 1)) (S (k + 1))) → body K (X1 k) (S k)) :
    ∃ I : Nat → Int32 → q_Mem → Prop, (∃ n, I n x1 mem) ∧ ∀ (n : Nat) (y1 : Int32) (ymem : q_Mem), I n y1 ymem → body (fun z1 zmem => ∃ n2, n2 < n ∧ I n2 z1 zmem) y1 ymem := by
  refine ⟨fun n y1 ym => ∃ k, k ≤ N ∧ n = N - k ∧ P k ∧ y1 = X1 k ∧ ym = S k, ⟨N, 0, Nat.zero_le _, rfl, h0, e1, em⟩, ?_⟩
  rintro n y1 ym ⟨k, hk, rfl, hP, rfl, rfl⟩
  exact step k hk hP _ (fun hlt hp => ⟨N - (k + 1), by omega, k + 1, hlt, rfl, hp, rfl, rfl⟩)
theorem w_lp2 (N : Nat) (P : Nat → Prop) (X1 X2 : Nat → Int32) (S : Nat → q_Mem) {body : (Int32 → Int32 → q_Mem → Prop) → Int32 → Int32 → q_Mem → Prop} {x1 x2 : Int32} {mem : q_Mem} (h0 : P 0) (e1 : x1 = X1 0) (e2 : x2 = X2 0) (em : mem = S 0) (step : ∀ k, k ≤ N → P k → ∀ K : Int32 → Int32 → q_Mem → Prop, (k < N → P (k + 1) → K (X1 (k + 1)) (X2 (k + 1)) (S (k + 1))) → body K (X1 k) (X2 k) (S k)) :
    ∃ I : Nat → Int32 → Int32 → q_Mem → Prop, (∃ n, I n x1 x2 mem) ∧ ∀ (n : Nat) (y1 y2 : Int32) (ymem : q_Mem), I n y1 y2 ymem → body (fun z1 z2 zmem => ∃ n2, n2 < n ∧ I n2 z1 z2 zmem) y1 y2 ymem := by
  refine ⟨fun n y1 y2 ym => ∃ k, k ≤ N ∧ n = N - k ∧ P k ∧ y1 = X1 k ∧ y2 = X2 k ∧ ym = S k, ⟨N, 0, Nat.zero_le _, rfl, h0, e1, e2, em⟩, ?_⟩
  rintro n y1 y2 ym ⟨k, hk, rfl, hP, rfl, rfl, rfl⟩
  exact step k hk hP _ (fun hlt hp => ⟨N - (k + 1), by omega, k + 1, hlt, rfl, hp, rfl, rfl, rfl⟩)
theorem nI_s (k : Nat) : nI k + (1 : Int32) = nI (k + 1) := nI_1 k

/-! ===== leaves: range tests, parts of numbers, damp ===== -/
theorem p_within {v lo hi : Int32} {mem : q_Mem} {Q : Int32 → q_Mem → Prop} (h0 : ¬ (lo.toInt ≤ v.toInt ∧ v.toInt ≤ hi.toInt) → Q 0 mem) (h1 : lo.toInt ≤ v.toInt ∧ v.toInt ≤ hi.toInt → Q 1 mem) : wp_X2_within v lo hi mem Q := by
  unfold wp_X2_within
  simp only [z_lt]
  refine ⟨fun h => h0 (by omega), fun h => ⟨fun h2 => h0 (by omega), fun h2 => h1 (by omega)⟩⟩
theorem lg_lt {a b : Int64} : lg_cmp a b < 0 ↔ a.toInt < b.toInt := by
  unfold lg_cmp
  simp only [gt_iff_lt, Int64.lt_iff_toInt_lt]
  by_cases h : b.toInt < a.toInt
  · rw [if_pos h]
    constructor
    · intro h2; exact absurd h2 (by decide)
    · intro h2; omega
  · rw [if_neg h]
    by_cases e : a = b
    · rw [if_pos e, e]
      constructor
      · intro h2; exact absurd h2 (by decide)
      · intro h2; omega
    · rw [if_neg e]
      have hne : a.toInt ≠ b.toInt := fun q => e (Int64.toInt_inj.mp q)
      constructor
      · intro _; omega
      · intro _; decide
theorem lg_gt {a b : Int64} : 0 < lg_cmp a b ↔ b.toInt < a.toInt := by
  unfold lg_cmp
  simp only [gt_iff_lt, Int64.lt_iff_toInt_lt]
  by_cases h : b.toInt < a.toInt
  · rw [if_pos h]
    exact ⟨fun _ => h, fun _ => by decide⟩
  · rw [if_neg h]
    by_cases e : a = b
    · rw [if_pos e]
      exact ⟨fun h2 => absurd h2 (by decide), fun h2 => absurd h2 h⟩
    · rw [if_neg e]
      exact ⟨fun h2 => absurd h2 (by decide), fun h2 => absurd h2 h⟩
theorem p_in {a lo hi : Int64} {mem : q_Mem} {Q : Int32 → q_Mem → Prop} (h0 : ¬ (lo.toInt ≤ a.toInt ∧ a.toInt ≤ hi.toInt) → Q 0 mem) (h1 : lo.toInt ≤ a.toInt ∧ a.toInt ≤ hi.toInt → Q 1 mem) : wp_X3_in a lo hi mem Q := by
  unfold wp_X3_in
  simp only [lg_lt, lg_gt]
  refine ⟨fun h => h0 (by omega), fun h => ⟨fun h2 => h0 (by omega), fun h2 => h1 (by omega)⟩⟩
theorem t64 (x : Int32) : x.toInt64.toInt = x.toInt := Int32.toInt_toInt64 x
theorem z_rem {a b : Int32} (h : 0 < b.toInt) : (a - a / b * b).toInt = a.toInt.tmod b.toInt := by
  have ha := z_rng a
  have hq := z_div (x := a) h
  have hdm : b.toInt * a.toInt.tdiv b.toInt + a.toInt.tmod b.toInt = a.toInt := Int.mul_tdiv_add_tmod a.toInt b.toInt
  have hm1 := Int.tmod_lt_of_pos a.toInt h
  have hm2 := Int.lt_tmod_of_pos a.toInt h
  have hc : a.toInt.tdiv b.toInt * b.toInt = a.toInt - a.toInt.tmod b.toInt := by
    rw [Int.mul_comm]; omega
  have hs : 0 ≤ a.toInt → 0 ≤ a.toInt.tmod b.toInt ∧ a.toInt.tmod b.toInt ≤ a.toInt := fun h0 => by
    have h1 := Int.tmod_nonneg b.toInt h0
    have h2 : 0 ≤ a.toInt.tdiv b.toInt := Int.tdiv_nonneg h0 (by omega)
    have h3 : 0 ≤ b.toInt * a.toInt.tdiv b.toInt := Int.mul_nonneg (by omega) h2
    omega
  have hn : a.toInt < 0 → a.toInt.tmod b.toInt ≤ 0 ∧ a.toInt ≤ a.toInt.tmod b.toInt := fun h0 => by
    have e1 : (-a.toInt).tmod b.toInt = -(a.toInt.tmod b.toInt) := Int.neg_tmod a.toInt b.toInt
    have e2 : (-a.toInt).tdiv b.toInt = -(a.toInt.tdiv b.toInt) := Int.neg_tdiv _ _
    have h1 := Int.tmod_nonneg b.toInt (show 0 ≤ -a.toInt by omega)
    have h2 : 0 ≤ (-a.toInt).tdiv b.toInt := Int.tdiv_nonneg (by omega) (by omega)
    have h3 : 0 ≤ b.toInt * (-a.toInt).tdiv b.toInt := Int.mul_nonneg (by omega) h2
    have h4 : b.toInt * (-a.toInt).tdiv b.toInt + (-a.toInt).tmod b.toInt = -a.toInt := Int.mul_tdiv_add_tmod (-a.toInt) b.toInt
    omega
  have hmul : (a / b * b).toInt = a.toInt - a.toInt.tmod b.toInt := by
    rw [z_mul (by rw [hq, hc]; by_cases h0 : 0 ≤ a.toInt; have := hs h0; omega; have := hn (by omega); omega) (by rw [hq, hc]; by_cases h0 : 0 ≤ a.toInt; have := hs h0; omega; have := hn (by omega); omega), hq, hc]
  by_cases h0 : 0 ≤ a.toInt
  · have := hs h0
    rw [z_sub (by omega) (by omega), hmul]; omega
  · have := hn (by omega)
    rw [z_sub (by omega) (by omega), hmul]; omega
/-- rounded down -/
def z_fl (a b : Int32) : Int32 := if a.toInt.tmod b.toInt < 0 then a / b - 1 else a / b
theorem z_ne0 {b : Int32} (h : 0 < b.toInt) : ¬ b = 0 := fun e => by rw [e] at h; exact absurd h (by decide)
theorem p_partDown {a b : Int32} {mem : q_Mem} {Q : Int32 → q_Mem → Prop} (hb : 0 < b.toInt) (h : Q (z_fl a b) mem) : wp_X2_partDown a b mem Q := by
  unfold wp_X2_partDown
  simp only [z_le, z_rem hb, t_0, t_1]
  unfold z_fl at h
  refine ⟨fun _ => ⟨z_ne0 hb, fun h2 => ⟨z_ne0 hb, ?_⟩, fun h2 => ⟨z_ne0 hb, ?_⟩⟩, fun h2 => absurd (by omega) h2⟩
  · rw [if_neg (by omega)] at h; exact h
  · rw [if_pos (by omega)] at h; exact h
theorem p_floor {a b : Int32} {mem : q_Mem} {Q : Int32 → q_Mem → Prop} (hb : 0 < b.toInt) (h : Q (z_fl a b) mem) : wp_X3_floor a b mem Q := by
  unfold wp_X3_floor wp_X3_floor_20
  simp only [z_le, z_eq (y := (0 : Int32)), z_rem hb, t_0]
  unfold z_fl at h
  refine ⟨by omega, ?_⟩
  rintro x rfl
  refine ⟨fun h2 => ?_, fun h2 => ⟨by omega, fun h3 => ?_, fun h3 => ?_⟩⟩
  · have := Int.tmod_nonneg b.toInt h2
    rw [if_neg (by omega)] at h; exact h
  · rw [if_neg (by omega)] at h; exact h
  · have e1 : (-a.toInt).tmod b.toInt = -(a.toInt.tmod b.toInt) := Int.neg_tmod a.toInt b.toInt
    have h1 := Int.tmod_nonneg b.toInt (show 0 ≤ -a.toInt by omega)
    rw [if_pos (by omega)] at h; exact h
theorem z_fl_nn {a b : Int32} (h : 0 ≤ a.toInt) : z_fl a b = a / b := by
  unfold z_fl
  have := Int.tmod_nonneg b.toInt h
  rw [if_neg (by omega)]
theorem p_partCut {a b : Int32} {mem : q_Mem} {Q : Int32 → q_Mem → Prop} (hb : 0 < b.toInt) (h : Q (a / b) mem) : wp_X2_partCut a b mem Q := by
  unfold wp_X2_partCut
  simp only [z_le, t_1]
  exact ⟨fun _ => ⟨z_ne0 hb, h⟩, fun h2 => absurd (by omega) h2⟩
/-! damp -/
def z_dm (co ro cu wa : Nat → Int32) (i : Nat) : Int32 := co ((5 : Int32) * cu i + (4 : Int32) * wa i / ro i).toNatClampNeg + (if (4 : Int32) ≤ (4 : Int32) * wa i / ro i then 0 else (co ((5 : Int32) * cu i + (4 : Int32) * wa i / ro i + (1 : Int32)).toNatClampNeg - co ((5 : Int32) * cu i + (4 : Int32) * wa i / ro i).toNatClampNeg) * ((4 : Int32) * wa i - (4 : Int32) * wa i / ro i * ro i) / ro i)
/-- the curves: rising, 0 to 1000 -/
def z_CR (co : Nat → Int32) : Prop := ∃ cn : Nat → Nat, (∀ k, k < 15 → co k = nI (cn k) ∧ cn k ≤ 1000) ∧ ∀ c k, c < 3 → k < 4 → cn (5 * c + k) ≤ cn (5 * c + k + 1)
/-- a layer's numbers -/
def z_LR (ro cu wa : Nat → Int32) (i : Nat) : Prop := ∃ r c w : Nat, ro i = nI r ∧ cu i = nI c ∧ wa i = nI w ∧ 1 ≤ r ∧ r ≤ 1000 ∧ c < 3 ∧ w ≤ r
theorem z_dmF {co ro cu wa : Nat → Int32} {i : Nat} (hC : z_CR co) (hL : z_LR ro cu wa i) : ∃ r c w q t d : Nat, ro i = nI r ∧ cu i = nI c ∧ wa i = nI w ∧ 1 ≤ r ∧ r ≤ 1000 ∧ c < 3 ∧ w ≤ r ∧ q ≤ 4 ∧ q = 4 * w / r ∧ (4 : Int32) * wa i / ro i = nI q ∧ (4 : Int32) * wa i = nI (4 * w) ∧ (5 : Int32) * cu i + nI q = nI (5 * c + q) ∧ (4 : Int32) * wa i - nI q * ro i = nI t ∧ t < r ∧ d ≤ 1000 ∧ z_dm co ro cu wa i = nI d ∧
    (q = 4 → z_dm co ro cu wa i = co (5 * c + 4)) ∧ (q < 4 → z_dm co ro cu wa i = co (5 * c + q) + (co (5 * c + q + 1) - co (5 * c + q)) * nI t / ro i ∧ ∃ e : Nat, e ≤ 1000 ∧ co (5 * c + q + 1) - co (5 * c + q) = nI e ∧ (co (5 * c + q + 1) - co (5 * c + q)) * nI t = nI (e * t) ∧ e * t < 2147483648) := by
  obtain ⟨r, c, w, hr, hc, hw, h1, h2, h3, h4⟩ := hL
  obtain ⟨cn, hn1, hn2⟩ := hC
  have e4 : (4 : Int32) * wa i = nI (4 * w) := by rw [hw, z_lit 4, pk_mul]
  have eq : (4 : Int32) * wa i / ro i = nI (4 * w / r) := by rw [e4, hr, pk_div (by omega) (by omega) (by omega)]
  have hq : 4 * w / r ≤ 4 := by
    have := Nat.div_le_div_right (c := r) (show 4 * w ≤ 4 * r by omega)
    rw [Nat.mul_div_cancel _ (by omega)] at this
    exact this
  have hd : r * (4 * w / r) + 4 * w % r = 4 * w := Nat.div_add_mod (4 * w) r
  have hm : 4 * w % r < r := Nat.mod_lt _ (by omega)
  have ea : (5 : Int32) * cu i + nI (4 * w / r) = nI (5 * c + 4 * w / r) := by rw [hc, z_lit 5, pk_mul, nI_add]
  have et : (4 : Int32) * wa i - nI (4 * w / r) * ro i = nI (4 * w % r) := by
    have hcm : 4 * w / r * r = r * (4 * w / r) := Nat.mul_comm _ _
    rw [e4, hr, pk_mul, pk_sub (by omega)]
    congr 1
    omega
  generalize hqd : 4 * w / r = q at *
  generalize htd : 4 * w % r = t at *
  have ecl : (nI (5 * c + q)).toNatClampNeg = 5 * c + q := nI_clamp (by omega)
  have ecl1 : (nI (5 * c + q) + (1 : Int32)).toNatClampNeg = 5 * c + q + 1 := by rw [nI_1, nI_clamp (by omega)]
  have ezd : z_dm co ro cu wa i = co (5 * c + q) + (if (4 : Int32) ≤ nI q then 0 else (co (5 * c + q + 1) - co (5 * c + q)) * nI t / ro i) := by
    unfold z_dm
    rw [eq, ea, ecl, ecl1, et]
  have h44 : (4 : Int32) ≤ nI q ↔ 4 ≤ q := by rw [z_le, t_4, z_nI (by omega)]; omega
  have z0 : ∀ x : Int32, x + 0 = x := fun x => Int32.add_zero x
  by_cases hq4 : q = 4
  · have ev : z_dm co ro cu wa i = co (5 * c + 4) := by rw [ezd, if_pos (h44.mpr (by omega)), z0, hq4]
    obtain ⟨g1, g2⟩ := hn1 (5 * c + 4) (by omega)
    exact ⟨r, c, w, q, t, cn (5 * c + 4), hr, hc, hw, h1, h2, h3, h4, hq, hqd.symm, eq, e4, ea, et, hm, g2, by rw [ev, g1], fun _ => ev, fun h => by omega⟩
  · obtain ⟨g1, g2⟩ := hn1 (5 * c + q) (by omega)
    obtain ⟨g3, g4⟩ := hn1 (5 * c + q + 1) (by omega)
    have g5 := hn2 c q h3 (by omega)
    have ee : co (5 * c + q + 1) - co (5 * c + q) = nI (cn (5 * c + q + 1) - cn (5 * c + q)) := by rw [g1, g3, pk_sub g5]
    generalize hed : cn (5 * c + q + 1) - cn (5 * c + q) = e at *
    have hte : e * t ≤ 1000 * 1000 := Nat.mul_le_mul (by omega) (by omega)
    have hdv : e * t / r ≤ e := by
      have := Nat.div_le_div_right (c := r) (show e * t ≤ e * r from Nat.mul_le_mul_left e (by omega))
      rw [Nat.mul_div_cancel _ (by omega)] at this
      exact this
    have ev : z_dm co ro cu wa i = co (5 * c + q) + (co (5 * c + q + 1) - co (5 * c + q)) * nI t / ro i := by rw [ezd, if_neg (fun h => by have := h44.mp h; omega)]
    refine ⟨r, c, w, q, t, cn (5 * c + q) + e * t / r, hr, hc, hw, h1, h2, h3, h4, hq, hqd.symm, eq, e4, ea, et, hm, by omega, ?_, fun h => by omega, fun _ => ⟨ev, e, by omega, ee, by rw [ee, pk_mul], by omega⟩⟩
    rw [ev, ee, g1, hr, pk_mul, pk_div (by omega) (by omega) (by omega), nI_add]

/-! ===== the law's loop: the state D goes through every call, class and reference alike ===== -/
def y_0 : q_Mem := fun k => q_m0 (72 + k)
theorem y_M0 : y_M q_m0 y_0 := ⟨⟨rfl, rfl, rfl, rfl, rfl, rfl⟩, fun k _ => by unfold y_0; rw [show 73 + k = 72 + (1 + k) by omega], rfl, rfl, rfl, fun j _ => by unfold y_0; rw [show 88 + j = 72 + (16 + j) by omega]⟩
theorem y_C0 : y_C q_m0 y_0 := by
  refine ⟨⟨rfl, rfl, rfl, rfl, rfl, rfl⟩, fun k hk => ?_, rfl, fun c k hc hk => ?_, fun i j hi hj => ?_, fun i j hi hj => ?_⟩
  · rcases (show k = 0 ∨ k = 1 ∨ k = 2 ∨ k = 3 ∨ k = 4 ∨ k = 5 ∨ k = 6 ∨ k = 7 by omega) with rfl | rfl | rfl | rfl | rfl | rfl | rfl | rfl <;> rfl
  · have key : ∀ (c : Fin 3) (k : Fin 5), q_m0 (3 + c.val) k.val = y_0 9 (5 * c.val + k.val) := by decide +kernel
    exact key ⟨c, hc⟩ ⟨k, hk⟩
  · have key : ∀ (c : Fin 24) (k : Fin 5), q_m0 (35 + c.val) k.val = y_0 11 (5 * c.val + k.val) := by decide +kernel
    exact key ⟨i, hi⟩ ⟨j, hj⟩
  · have key : ∀ (c : Fin 12) (k : Fin 4), q_m0 (60 + c.val) k.val = y_0 (16 + k.val) c.val := by decide +kernel
    exact key ⟨i, hi⟩ ⟨j, hj⟩
theorem y_V0 : y_V y_0 := by
  refine ⟨0, 0, 0, 10, 0, 0, ⟨rfl, rfl, rfl, rfl, rfl, rfl⟩, ⟨by omega, Or.inl rfl, by omega, by omega, by omega⟩, ⟨by omega, fun i h => absurd h (by omega), fun i h => absurd h (by omega)⟩, fun i h => absurd h (by omega), fun i h => absurd h (by omega), ⟨fun k => 250 * (k % 5), ?_, ?_⟩, fun i h => absurd h (by omega), fun i h => absurd h (by omega)⟩
  · intro k hk
    have key : ∀ k : Fin 15, y_0 9 k.val = nI (250 * (k.val % 5)) ∧ 250 * (k.val % 5) ≤ 1000 := by decide +kernel
    exact key ⟨k, hk⟩
  · intro c k hc hk
    show 250 * ((5 * c + k) % 5) ≤ 250 * ((5 * c + k + 1) % 5)
    omega
/-- an element of the call at hand is in the script -/
theorem y_el {L k j : Nat} (hL : L ≤ 3072) (h : 6 * k + 6 ≤ L) (hj : j < 6) : vp_in (nI (6 * k) + nI j) L := by
  have e : nI (6 * k) + nI j = nI (6 * k + j) := nI_add _ _
  rw [e]
  exact in_nI (by omega) (by omega)
set_option maxRecDepth 100000 in
set_option maxHeartbeats 4000000 in
theorem o_body {bs L k : Nat} {xs : Nat → Int32} {K : Int32 → q_Mem → Prop} {Q : Int32 → q_Mem → Prop} {mem D : q_Mem} (hL : L ≤ 3072) (hk : 6 * k ≤ L) (hC : y_C mem D) (hM : y_M mem D) (hV : y_V D) (hQ : Q 1 mem) (hK : 6 * k + 6 ≤ L → ∀ m E : q_Mem, y_C m E → y_M m E → y_V E → K (nI (6 * (k + 1))) m) : wp_L_law_18_b K bs L xs (nI (6 * k)) mem Q := by
  unfold wp_L_law_18_b
  refine ⟨fun _ => hQ, fun c => ?_⟩
  have h6 : 6 * k + 6 ≤ L := by
    rw [z_lt, z_sub (by rw [show (Int32.ofNat L).toInt = (L : Int) from z_nI (by omega), t_6]; omega) (by rw [show (Int32.ofNat L).toInt = (L : Int) from z_nI (by omega), t_6]; omega), show (Int32.ofNat L).toInt = (L : Int) from z_nI (by omega), t_6, z_nI (by omega)] at c
    omega
  have v0 : vp_in (nI (6 * k)) L := in_nI (by omega) (by omega)
  have v1 : vp_in (nI (6 * k) + (1 : Int32)) L := y_el (j := 1) hL h6 (by omega)
  have v2 : vp_in (nI (6 * k) + (2 : Int32)) L := y_el (j := 2) hL h6 (by omega)
  have v3 : vp_in (nI (6 * k) + (3 : Int32)) L := y_el (j := 3) hL h6 (by omega)
  have v4 : vp_in (nI (6 * k) + (4 : Int32)) L := y_el (j := 4) hL h6 (by omega)
  have v5 : vp_in (nI (6 * k) + (5 : Int32)) L := y_el (j := 5) hL h6 (by omega)
  have hG : ∀ m E : q_Mem, y_C m E → y_M m E → y_V E → wp_L_law_773 K bs L xs (nI (6 * k)) m Q := by
    intro m E g1 g2 g3 x3 hx
    rw [hx, show nI (6 * k) + (6 : Int32) = nI (6 * (k + 1)) from nI_add (6 * k) 6]
    exact hK h6 m E g1 g2 g3
  have hG2 : y_K (fun (r1 r2 : Int32) (m : q_Mem) => ((r1 = r2) → wp_L_law_773 K bs L xs (nI (6 * k)) m Q) ∧ ((¬ r1 = r2) → Q (0 : Int32) m)) := fun r m E g1 g2 g3 => ⟨fun _ => hG m E g1 g2 g3, fun z => absurd rfl z⟩
  have hG3 : y_K (fun (r1 r2 : Int64) (m : q_Mem) => (((lg_cmp r1 r2) = 0) → wp_L_law_773 K bs L xs (nI (6 * k)) m Q) ∧ ((¬ (lg_cmp r1 r2) = 0) → Q (0 : Int32) m)) := fun r m E g1 g2 g3 => ⟨fun _ => hG m E g1 g2 g3, fun z => absurd ((lg_cmp_eq r r).mpr rfl) z⟩
  generalize nI (6 * k) = x3 at *
  refine ⟨v0, ?_⟩
  refine ⟨fun _ => ?_, fun _ => ?_⟩
  · simp only [eq_true v1, eq_true v2, eq_true v3, eq_true v4, true_and]
    exact o_layer hC hM hV hG2
  refine ⟨fun _ => ?_, fun _ => ?_⟩
  · exact o_clear hC hM hV hG2
  refine ⟨fun _ => ?_, fun _ => ?_⟩
  · simp only [eq_true v1, eq_true v2, eq_true v3, true_and]
    exact o_corner hC hM hV hG2
  refine ⟨fun _ => ?_, fun _ => ?_⟩
  · simp only [eq_true v1, eq_true v2, true_and]
    exact o_water hC hM hV hG2
  refine ⟨fun _ => ?_, fun _ => ?_⟩
  · simp only [eq_true v1, eq_true v2, true_and]
    exact o_about hC hM hV hG2
  refine ⟨fun _ => ?_, fun _ => ?_⟩
  · simp only [eq_true v1, eq_true v2, eq_true v3, eq_true v4, eq_true v5, true_and]
    exact o_hour hC hM hV hG2
  refine ⟨fun _ => ?_, fun _ => ?_⟩
  · exact o_fair hC hM hV hG2
  refine ⟨fun _ => ?_, fun _ => ?_⟩
  · simp only [eq_true v1, true_and]
    exact o_share hC hM hV hG2
  refine ⟨fun _ => ?_, fun _ => ?_⟩
  · simp only [eq_true v1, true_and]
    exact o_pass hC hM hV hG2
  refine ⟨fun _ => ?_, fun _ => ?_⟩
  · simp only [eq_true v1, true_and]
    exact o_steady hC hM hV hG2
  refine ⟨fun _ => ?_, fun _ => ?_⟩
  · simp only [eq_true v1, true_and]
    exact o_sum hC hM hV hG2
  refine ⟨fun _ => ?_, fun _ => ?_⟩
  · simp only [eq_true v1, eq_true v2, true_and]
    exact o_pressure hC hM hV hG2
  refine ⟨fun _ => ?_, fun _ => ?_⟩
  · simp only [eq_true v1, eq_true v2, true_and]
    exact o_warmth hC hM hV hG2
  refine ⟨fun _ => ?_, fun _ => ?_⟩
  · simp only [eq_true v1, eq_true v2, true_and]
    exact o_excess hC hM hV hG2
  refine ⟨fun _ => ?_, fun _ => ?_⟩
  · simp only [eq_true v1, true_and]
    exact o_best hC hM hV hG2
  refine ⟨fun _ => ?_, fun _ => ?_⟩
  · simp only [eq_true v1, eq_true v2, true_and]
    exact o_placed hC hM hV hG2
  refine ⟨fun _ => ?_, fun _ => ?_⟩
  · simp only [eq_true v1, true_and]
    exact o_arrange hC hM hV hG2
  refine ⟨fun _ => ?_, fun _ => ?_⟩
  · simp only [eq_true v1, eq_true v2, eq_true v3, eq_true v4, true_and]
    exact o_read hC hM hV hG2
  refine ⟨fun _ => ?_, fun _ => ?_⟩
  · exact o_forget hC hM hV hG2
  refine ⟨fun _ => ?_, fun _ => ?_⟩
  · exact o_fits hC hM hV hG2
  refine ⟨fun _ => ?_, fun _ => ?_⟩
  · simp only [eq_true v1, true_and]
    exact o_count hC hM hV hG2
  refine ⟨fun _ => ?_, fun _ => ?_⟩
  · exact o_digest hC hM hV hG3
  exact hG mem D hC hM hV
theorem o_law {bs L : Nat} {xs : Nat → Int32} (hL : L ≤ 3072) : wp_L_law_18 bs L xs (0 : Int32) q_m0 (fun v _ => v = 1) := by
  unfold wp_L_law_18
  refine ⟨fun n y m => ∃ (k : Nat) (D : q_Mem), n = L - 6 * k ∧ 6 * k ≤ L ∧ y = nI (6 * k) ∧ y_C m D ∧ y_M m D ∧ y_V D, ⟨L, 0, y_0, rfl, by omega, rfl, y_C0, y_M0, y_V0⟩, ?_⟩
  rintro n y m ⟨k, D, hn, hk, hy, hC, hM, hV⟩
  rw [hy]
  exact o_body hL hk hC hM hV rfl (fun h6 m2 E g1 g2 g3 => ⟨L - 6 * (k + 1), by omega, k + 1, E, rfl, by omega, rfl, g1, g2, g3⟩)

/-! ===== fits ===== -/
def k_bits (D : q_Mem) (N H x r : Nat) : Nat → Int32
  | 0 => 0
  | v + 1 => k_bits D N H x r v ||| (if k_ga D (y_T D N H x v) r 100 = true then (1 : Int32) <<< (nI v &&& 31) else 0)
theorem p_fits2 {mem D : q_Mem} {N H x s r f L : Nat} {Q : Int32 → q_Mem → Prop} (hC : y_C mem D) (hW : y_W D N H x s r f) (hN1 : 1 ≤ N) (hx : x < H) (hL1 : L ≤ 100) (hL2 : ∀ i, i < r → ∃ b, D 17 i = nI b ∧ b ≤ L) (h : ∀ m, (∀ q, q < 16 ∨ 30 < q → m q = mem q) → Q (k_bits D N H x r 11) m) : wp_X2_fits_38 (nI L) (0 : Int32) (0 : Int32) mem Q := by
  unfold wp_X2_fits_38
  refine w_rl2 11 nI (fun v y m => y = k_bits D N H x r v ∧ ∀ q, q < 16 ∨ 30 < q → m q = mem q) (body := fun K y1 y2 m => wp_X2_fits_38_b K (nI L) y1 y2 m Q) nI_0.symm ⟨rfl, fun _ _ => rfl⟩ (fun v hv y m hP K hK => ?_)
  obtain ⟨rfl, hf⟩ := hP
  have hCm : y_C m D := by
    obtain ⟨⟨a1, a2, a3, a4, a5, a6⟩, b, c, d, e, f⟩ := hC
    exact ⟨⟨by rw [hf 1 (by omega)]; exact a1, by rw [hf 0 (by omega)]; exact a2, by rw [hf 0 (by omega)]; exact a3, by rw [hf 0 (by omega)]; exact a4, by rw [hf 0 (by omega)]; exact a5, by rw [hf 0 (by omega)]; exact a6⟩, fun k hk => by rw [hf _ (by omega)]; exact b k hk, by rw [hf _ (by omega)]; exact c, fun x k hx hk => by rw [hf _ (by omega)]; exact d x k hx hk, fun i j hi hj => by rw [hf _ (by omega)]; exact e i j hi hj, fun i j hi hj => by rw [hf _ (by omega)]; exact f i j hi hj⟩
  unfold wp_X2_fits_38_b wp_X2_fits_65 wp_X2_fits_59
  rw [z_lit 10, nI_ltI (by omega) (by omega)]
  refine ⟨fun c => ?_, fun c => ?_⟩
  · have hv11 : v = 11 := by omega
    subst hv11
    exact h m hf
  refine p_holdWith hCm hW hN1 hx (by omega) hL1 hL2 (fun m2 f2 => ?_)
  have hf2 : ∀ q, q < 16 ∨ 30 < q → m2 q = mem q := fun q hq => by rw [f2 q hq]; exact hf q hq
  by_cases g : k_ga D (y_T D N H x v) r 100 = true
  · rw [if_pos g]
    refine b_1 ?_
    rintro x2 rfl
    rintro x3 rfl
    rw [nI_1]
    exact hK _ _ (by omega) ⟨by rw [k_bits, if_pos g], hf2⟩
  · rw [if_neg g]
    refine b_ht rfl ?_
    rintro x3 rfl
    rw [nI_1]
    exact hK _ _ (by omega) ⟨by rw [k_bits, if_neg g, Int32.or_zero], hf2⟩

/-- the reference ahead of a trial: all but share and sums -/
def y_sm (D E : q_Mem) : Prop := (∀ k, k ≠ 13 → E 0 k = D 0 k) ∧ (∀ k, k ≠ 0 → k ≠ 10 → E k = D k) ∧ ∀ i, 5 ≤ i → E 10 i = D 10 i
theorem y_W.sm {D E : q_Mem} {N H x s r f v : Nat} (h : y_W D N H x s r f) (g : y_sm D E) (hv : E 0 13 = nI v) (hv2 : v ≤ 10) : y_W E N H x v r f := by
  obtain ⟨⟨e0, e1, e2, e3, e4, e5⟩, ⟨g1, g2, g3, g4, g5⟩, v1, v2, v3, v4, v5, v6⟩ := h
  obtain ⟨s1, s2, s3⟩ := g
  unfold y_W
  rw [s1 0 (by decide), s1 11 (by decide), s1 12 (by decide), s1 19 (by decide), s1 24 (by decide), s2 1 (by decide) (by decide), s2 2 (by decide) (by decide), s2 3 (by decide) (by decide), s2 4 (by decide) (by decide), s2 5 (by decide) (by decide), s2 7 (by decide) (by decide), s2 9 (by decide) (by decide), s2 11 (by decide) (by decide), s2 16 (by decide) (by decide), s2 17 (by decide) (by decide)]
  exact ⟨⟨e0, e1, e2, hv, e4, e5⟩, ⟨g1, g2, hv2, g4, g5⟩, v1, v2, v3, v4, v5, v6⟩
theorem p_back {m D E F : q_Mem} {N H x s r f v : Nat} {K73 : Int32 → Int32 → q_Mem → Prop} {x1 s2 s1 : Int32} {Q : Int32 → q_Mem → Prop} (hM : y_M m F) (hW : y_W D N H x s r f) (hl : y_lv N E F) (hs : y_sm D E) (hv : E 0 13 = nI v) (ha : ∀ r i, r < 8 → i < 6 → m 87 (6 * r + i) = D (1 + r) i) (h : ∀ m' E', y_M m' E' → y_sm D E' → E' 0 13 = nI v → m' 87 = m 87 → m' 92 = m 92 → y_lo m m' → K73 (s1 ||| s2) (nI (v + 1)) m') : wp_X3_fits_207 K73 x1 (nI x) (nI v) s2 s1 m Q := by
  have hN := hW.2.2.1.1
  obtain ⟨l1, l2, l3, l4⟩ := hl
  obtain ⟨z1, z2, z3⟩ := hs
  have row : ∀ r i, r < 8 → 6 ≤ i → m (73 + r) i = D (1 + r) i := fun r i hr hi => by
    rw [hM.2.1 r hr]
    by_cases c : r < 4
    · rw [l2 (1 + r) (by omega), z2 (1 + r) (by omega) (by omega)]
    · rw [l3 (1 + r) i (by omega) (by omega) (by omega), z2 (1 + r) (by omega) (by omega)]
  unfold wp_X3_fits_207
  rintro x3 rfl
  rintro m2 rfl
  unfold wp_X3_fits_217
  refine w_rl1 6 nI (fun k m' => (∀ r i, r < 8 → (i < k ∨ 6 ≤ i) → m' (73 + r) i = D (1 + r) i) ∧ ∀ q, q < 73 ∨ 80 < q → m' q = q_set m 72 (upd (m 72) 12 (nI x)) q) (body := fun K y m' => wp_X3_fits_217_b K73 K x1 (nI x) (s1 ||| s2) (nI v) y m' Q) nI_0.symm ⟨fun r i hr hi => by rw [q_set_n (by omega)]; exact row r i hr (by omega), fun q _ => rfl⟩ (fun k hk m' hP K hK => ?_)
  obtain ⟨p1, p2⟩ := hP
  unfold wp_X3_fits_217_b wp_X3_fits_238
  rw [z_lit 6, z_nle2 (by omega) (by omega)]
  refine ⟨fun c => ?_, fun c => ?_⟩
  rotate_left
  · refine p_fetch (by omega) (by omega) (fun m3 w1 w2 => ?_)
    rintro y rfl
    rw [nI_1]
    refine hK _ (by omega) ⟨fun r i hr hi => ?_, fun q hq => by rw [w2 q hq]; exact p2 q hq⟩
    rw [w1 r hr]
    by_cases e : i = k
    · rw [e, upd_s, p2 87 (by omega), q_set_n (by decide)]; exact ha r k hr (by omega)
    · rw [upd_n e]; exact p1 r i hr (by omega)
  rintro y rfl
  rw [nI_1]
  have e72 : m' 72 = upd (m 72) 12 (nI x) := by rw [p2 72 (by omega), q_set_s]
  have eo : ∀ q, 80 < q → m' q = m q := fun q hq => by rw [p2 q (by omega), q_set_n (by omega)]
  have fe : ∀ k, k ≠ 0 → k ≠ 10 → (1 ≤ k ∧ k ≤ 4) ∨ k = 9 ∨ 11 ≤ k → F k = D k := fun k h1 h2 h3 => (l2 k h3).trans (z2 k h1 h2)
  refine h m' (fun k => if k = 0 then upd (F 0) 12 (nI x) else if k = 10 then F 10 else D k) ?_ ⟨fun k hk => ?_, fun k h1 h2 => ?_, fun i hi => ?_⟩ ?_ (eo 87 (by omega)) (eo 92 (by omega)) (fun q hq => by rw [p2 q (by omega), q_set_n (by omega)])
  · obtain ⟨⟨a1, a2, a3, a4, a5, a6⟩, b, c, d, e, f⟩ := hM
    refine ⟨?_, fun k hk => ?_, ?_, ?_, ?_, fun j hj => ?_⟩
    · rw [e72]
      exact ⟨a1, a2, rfl, a4, a5, a6⟩
    · simp only [if_neg (show ¬ 1 + k = 0 by omega), if_neg (show ¬ 1 + k = 10 by omega)]
      funext i
      exact p1 k i hk (by omega)
    · rw [eo 82 (by omega)]; exact c
    · rw [eo 81 (by omega)]; exact d.trans (fe 9 (by omega) (by omega) (by omega))
    · rw [eo 83 (by omega)]; exact e.trans (fe 11 (by omega) (by omega) (by omega))
    · simp only [if_neg (show ¬ 16 + j = 0 by omega), if_neg (show ¬ 16 + j = 10 by omega)]
      rw [eo (88 + j) (by omega)]; exact (f j hj).trans (fe (16 + j) (by omega) (by omega) (by omega))
  · show upd (F 0) 12 (nI x) k = D 0 k
    by_cases e : k = 12
    · rw [e, upd_s]; exact hW.1.2.2.1.symm
    · rw [upd_n e, l1 k e]; exact z1 k hk
  · simp only [if_neg h1, if_neg h2]
  · exact (l4 i hi).trans (z3 i hi)
  · show upd (F 0) 12 (nI x) 13 = nI v
    rw [upd_n (by decide), l1 13 (by decide)]; exact hv

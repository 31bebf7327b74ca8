/-- the reference ahead of a trial: all but share and sums -/
def y_sm (D E : q_Mem) : Prop := (∀ k, k ≠ 13 → E 0 k = D 0 k) ∧ (∀ k, k ≠ 0 → k ≠ 10 → E k = D k) ∧ ∀ i, 5 ≤ i → E 10 i = D 10 i
theorem y_W.sm {D E : q_Mem} {N H x s r f v : Nat} (h : y_W D N H x s r f) (g : y_sm D E) (hv : E 0 13 = nI v) (hv2 : v ≤ 10) : y_W E N H x v r f := by
  obtain ⟨⟨e0, e1, e2, e3, e4, e5⟩, ⟨g1, g2, g3, g4, g5⟩, v1, v2, v3, v4, v5, v6⟩ := h
  obtain ⟨s1, s2, s3⟩ := g
  unfold y_W
  rw [s1 0 (by decide), s1 11 (by decide), s1 12 (by decide), s1 19 (by decide), s1 24 (by decide), s2 1 (by decide) (by decide), s2 2 (by decide) (by decide), s2 3 (by decide) (by decide), s2 4 (by decide) (by decide), s2 5 (by decide) (by decide), s2 7 (by decide) (by decide), s2 9 (by decide) (by decide), s2 11 (by decide) (by decide), s2 16 (by decide) (by decide), s2 17 (by decide) (by decide)]
  exact ⟨⟨e0, e1, e2, hv, e4, e5⟩, ⟨g1, g2, hv2, g4, g5⟩, v1, v2, v3, v4, v5, v6⟩

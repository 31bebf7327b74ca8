/-! ===== what an hour reads and what it leaves ===== -/
theorem z_dm_cg {co ro cu wa ro' cu' wa' : Nat → Int32} {i : Nat} (h1 : ro i = ro' i) (h2 : cu i = cu' i) (h3 : wa i = wa' i) : z_dm co ro cu wa i = z_dm co ro' cu' wa' i := by
  unfold z_dm
  rw [h1, h2, h3]
theorem z_flow_cg {N j : Nat} {ro wa ro' wa' : Nat → Int32} {f0 : Int32} (hj : j ≤ N) (hr : ∀ i, i < N → ro i = ro' i) (hw : ∀ i, i < N → wa i = wa' i) : z_flow N j ro wa f0 = z_flow N j ro' wa' f0 := by
  unfold z_flow
  by_cases c1 : 0 < j
  · rw [hr (j - 1) (by omega), hw (j - 1) (by omega)]
    by_cases c2 : j < N
    · rw [hr j c2, hw j c2]
    · simp only [c2, false_and, if_false]
  · by_cases c2 : j < N
    · rw [hr j c2, hw j c2]
      simp only [c1, false_and, if_false]
    · simp only [c1, c2, false_and, if_false]
theorem z_cw_cg {N j : Nat} {w w' : Nat → Int32} {fl : Int32} (hj : j ≤ N) (hw : ∀ i, i < N → w i = w' i) : ∀ i, i < N → z_cw N j fl w i = z_cw N j fl w' i := by
  intro i hi
  unfold z_cw
  have h1 : ∀ k, k < N → (if 0 < j then upd w (j - 1) (w (j - 1) - fl) else w) k = (if 0 < j then upd w' (j - 1) (w' (j - 1) - fl) else w') k := by
    intro k hk
    by_cases c : 0 < j
    · rw [if_pos c, if_pos c, hw (j - 1) (by omega)]
      by_cases d : k = j - 1
      · rw [d, upd_s, upd_s]
      · rw [upd_n d, upd_n d]; exact hw k hk
    · rw [if_neg c, if_neg c]; exact hw k hk
  generalize (if 0 < j then upd w (j - 1) (w (j - 1) - fl) else w) = a at *
  generalize (if 0 < j then upd w' (j - 1) (w' (j - 1) - fl) else w') = b at *
  simp only []
  by_cases c : j < N
  · rw [if_pos c, if_pos c, h1 j c]
    by_cases d : i = j
    · rw [d, upd_s, upd_s]
    · rw [upd_n d, upd_n d]; exact h1 i hi
  · rw [if_neg c, if_neg c]; exact h1 i hi
theorem z_cw_o {N j : Nat} {w : Nat → Int32} {fl : Int32} (hj : j ≤ N) {i : Nat} (hi : N ≤ i) : z_cw N j fl w i = w i := by
  unfold z_cw
  have h1 : (if 0 < j then upd w (j - 1) (w (j - 1) - fl) else w) i = w i := by
    by_cases c : 0 < j
    · rw [if_pos c, upd_n (by omega)]
    · rw [if_neg c]
  generalize (if 0 < j then upd w (j - 1) (w (j - 1) - fl) else w) = a at *
  simp only []
  by_cases c : j < N
  · rw [if_pos c, upd_n (by omega)]; exact h1
  · rw [if_neg c]; exact h1
theorem z_cs_o {N j : Nat} {s : Nat → Int32} {fl : Int32} {i : Nat} (hi : 5 ≤ i) : z_cs N j fl s i = s i := by
  unfold z_cs
  have h1 : (if 0 < j then s else upd s 2 (s 2 + fl)) i = s i := by
    by_cases c : 0 < j
    · rw [if_pos c]
    · rw [if_neg c, upd_n (by omega)]
  generalize (if 0 < j then s else upd s 2 (s 2 + fl)) = a at *
  simp only []
  by_cases c : j < N
  · rw [if_pos c]; exact h1
  · rw [if_neg c, upd_n (by omega)]; exact h1
theorem z_all_o {N : Nat} {ro st cu co : Nat → Int32} {dO dI : Int32} {p : (Nat → Int32) × (Nat → Int32)} : ∀ k, k ≤ N + 1 → (∀ i, N ≤ i → (z_all N ro st cu co dO dI p k).1 i = p.1 i) ∧ ∀ i, 5 ≤ i → (z_all N ro st cu co dO dI p k).2 i = p.2 i
  | 0, _ => ⟨fun _ _ => rfl, fun _ _ => rfl⟩
  | k + 1, h => by
    have ih := z_all_o (N := N) (ro := ro) (st := st) (cu := cu) (co := co) (dO := dO) (dI := dI) (p := p) k (by omega)
    refine ⟨fun i hi => ?_, fun i hi => ?_⟩
    · rw [z_all]
      exact (z_cw_o (by omega) hi).trans (ih.1 i hi)
    · rw [z_all]
      exact (z_cs_o hi).trans (ih.2 i hi)
theorem z_move_o {N : Nat} {ro st cu co : Nat → Int32} {dO dI rain : Int32} {p : (Nat → Int32) × (Nat → Int32)} (hN1 : 1 ≤ N) : (∀ i, N ≤ i → (z_move N ro st cu co dO dI rain p).1 i = p.1 i) ∧ ∀ i, 5 ≤ i → (z_move N ro st cu co dO dI rain p).2 i = p.2 i := by
  have h := z_all_o (N := N) (ro := ro) (st := st) (cu := cu) (co := co) (dO := dO) (dI := dI) (p := z_rain ro rain p) (N + 1) (Nat.le_refl _)
  refine ⟨fun i hi => ?_, fun i hi => ?_⟩
  · unfold z_move
    rw [h.1 i hi]
    show upd p.1 0 _ i = _
    rw [upd_n (by omega)]
  · unfold z_move
    rw [h.2 i hi]
    show upd (upd p.2 0 _) 1 _ i = _
    rw [upd_n (by omega), upd_n (by omega)]
theorem z_feel_o {N : Nat} {ro he wa dm : Nat → Int32} {o n : Int32} {t : z_Tr} : ∀ k, k ≤ N → ∀ i, N ≤ i → (z_feel N ro he wa dm o n t k).1 i = t.1 i ∧ (z_feel N ro he wa dm o n t k).2.1 i = t.2.1 i ∧ (z_feel N ro he wa dm o n t k).2.2 i = t.2.2 i
  | 0, _, i, _ => ⟨rfl, rfl, rfl⟩
  | k + 1, hk, i, hi => by
    have ih := z_feel_o (N := N) (ro := ro) (he := he) (wa := wa) (dm := dm) (o := o) (n := n) (t := t) k (by omega) i hi
    rw [z_feel]
    unfold z_fe
    refine ⟨?_, ?_, ?_⟩
    · show (if _ then upd _ k _ else _) i = _
      split
      · rw [upd_n (by omega)]; exact ih.1
      · exact ih.1
    · show upd _ k _ i = _
      rw [upd_n (by omega)]; exact ih.2.1
    · show upd _ k _ i = _
      rw [upd_n (by omega)]; exact ih.2.2

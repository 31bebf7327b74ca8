theorem z_f0_cg {N j : Nat} {ro st cu co wa ro' st' cu' wa' : Nat → Int32} {dO dI : Int32} (hj : j ≤ N) (hr : ∀ i, i < N → ro i = ro' i) (hs : ∀ i, i < N → st i = st' i) (hc : ∀ i, i < N → cu i = cu' i) (hw : ∀ i, i < N → wa i = wa' i) : z_f0 N j ro st cu co dO dI wa = z_f0 N j ro' st' cu' co dO dI wa' := by
  unfold z_f0
  have hd : ∀ i, i < N → z_dm co ro cu wa i = z_dm co ro' cu' wa' i := fun i hi => z_dm_cg (hr i hi) (hc i hi) (hw i hi)
  by_cases c1 : j = 0
  · by_cases c2 : j = N
    · rw [if_pos c1, if_pos c2, if_pos c1, if_pos c2, if_pos c1, if_pos c2, if_pos c1, if_pos c2]
    · rw [if_pos c1, if_neg c2, if_pos c1, if_neg c2, if_pos c1, if_neg c2, if_pos c1, if_neg c2, hd j (by omega), hs j (by omega)]
  · by_cases c2 : j = N
    · rw [if_neg c1, if_pos c2, if_neg c1, if_pos c2, if_neg c1, if_pos c2, if_neg c1, if_pos c2, hd (j - 1) (by omega), hs (j - 1) (by omega)]
    · rw [if_neg c1, if_neg c2, if_neg c1, if_neg c2, if_neg c1, if_neg c2, if_neg c1, if_neg c2, hd (j - 1) (by omega), hs (j - 1) (by omega), hd j (by omega), hs j (by omega)]
theorem z_all_cg {N : Nat} {ro st cu co ro' st' cu' : Nat → Int32} {dO dI : Int32} {p p' : (Nat → Int32) × (Nat → Int32)} (hr : ∀ i, i < N → ro i = ro' i) (hs : ∀ i, i < N → st i = st' i) (hc : ∀ i, i < N → cu i = cu' i) (hp : ∀ i, i < N → p.1 i = p'.1 i) : ∀ k, k ≤ N + 1 → ∀ i, i < N → (z_all N ro st cu co dO dI p k).1 i = (z_all N ro' st' cu' co dO dI p' k).1 i
  | 0, _ => hp
  | k + 1, h => by
    have ih := z_all_cg (co := co) (dO := dO) (dI := dI) hr hs hc hp k (by omega)
    intro i hi
    rw [z_all, z_all]
    unfold z_cross
    rw [z_f0_cg (by omega) hr hs hc ih, z_flow_cg (by omega) hr ih]
    exact z_cw_cg (by omega) ih i hi
theorem z_move_cg {N : Nat} {ro st cu co ro' st' cu' : Nat → Int32} {dO dI rain : Int32} {p p' : (Nat → Int32) × (Nat → Int32)} (hN1 : 1 ≤ N) (hr : ∀ i, i < N → ro i = ro' i) (hs : ∀ i, i < N → st i = st' i) (hc : ∀ i, i < N → cu i = cu' i) (hp : ∀ i, i < N → p.1 i = p'.1 i) : ∀ i, i < N → (z_move N ro st cu co dO dI rain p).1 i = (z_move N ro' st' cu' co dO dI rain p').1 i := by
  unfold z_move
  refine z_all_cg hr hs hc (fun i hi => ?_) (N + 1) (Nat.le_refl _)
  show upd p.1 0 (p.1 0 + z_tk ro p.1 rain) i = upd p'.1 0 (p'.1 0 + z_tk ro' p'.1 rain) i
  have e : z_tk ro p.1 rain = z_tk ro' p'.1 rain := by unfold z_tk; rw [hr 0 (by omega), hp 0 (by omega)]
  rw [e, hp 0 (by omega)]
  by_cases c : i = 0
  · rw [c, upd_s, upd_s]
  · rw [upd_n c, upd_n c]; exact hp i hi
/-- what the hours leave of the common state -/
def y_lv (N : Nat) (D E : q_Mem) : Prop := (∀ k, k ≠ 12 → E 0 k = D 0 k) ∧ (∀ k, (1 ≤ k ∧ k ≤ 4) ∨ k = 9 ∨ 11 ≤ k → E k = D k) ∧ (∀ k i, 5 ≤ k → k ≤ 8 → N ≤ i → E k i = D k i) ∧ ∀ i, 5 ≤ i → E 10 i = D 10 i
theorem y_lv.rf (N : Nat) (D : q_Mem) : y_lv N D D := ⟨fun _ _ => rfl, fun _ _ => rfl, fun _ _ _ _ _ => rfl, fun _ _ => rfl⟩
theorem y_st_6 {D : q_Mem} {N j : Nat} {sh : Int32} : y_st D N j sh 6 = (y_t D N j sh).1 := by
  unfold y_st
  rw [z_M3_1 (by omega) (by omega)]
theorem y_st_8 {D : q_Mem} {N j : Nat} {sh : Int32} : y_st D N j sh 8 = (y_t D N j sh).2.2 := by
  unfold y_st
  rw [z_M3_3]
theorem y_st_10 {D : q_Mem} {N j : Nat} {sh : Int32} : y_st D N j sh 10 = (y_p D N j sh).2 := by
  unfold y_st
  rw [z_M3_n (by omega) (by omega) (by omega), z_M2_2]
theorem y_lv.st {D E : q_Mem} {N j x : Nat} {sh : Int32} (hN1 : 1 ≤ N) (h : y_lv N D E) : y_lv N D (y_nx (y_st E N j sh) x) := by
  obtain ⟨h1, h2, h3, h4⟩ := h
  refine ⟨fun k hk => ?_, fun k hk => ?_, fun k i hk1 hk2 hi => ?_, fun i hi => ?_⟩
  · unfold y_nx
    rw [q_set_s, upd_n hk, y_st_o (by omega)]; exact h1 k hk
  · unfold y_nx
    rw [q_set_n (by omega), y_st_o (by omega)]; exact h2 k hk
  · unfold y_nx
    rw [q_set_n (by omega)]
    have h9 : k = 5 ∨ k = 6 ∨ k = 7 ∨ k = 8 := by omega
    rcases h9 with rfl | rfl | rfl | rfl
    · rw [y_st_5]; exact ((z_move_o (p := (E 5, E 10)) hN1).1 i hi).trans (h3 5 i (by omega) (by omega) hi)
    · rw [y_st_6]; exact ((z_feel_o (t := (E 6, E 7, E 8)) N (Nat.le_refl _) i hi).1).trans (h3 6 i (by omega) (by omega) hi)
    · rw [y_st_7]; exact ((z_feel_o (t := (E 6, E 7, E 8)) N (Nat.le_refl _) i hi).2.1).trans (h3 7 i (by omega) (by omega) hi)
    · rw [y_st_8]; exact ((z_feel_o (t := (E 6, E 7, E 8)) N (Nat.le_refl _) i hi).2.2).trans (h3 8 i (by omega) (by omega) hi)
  · unfold y_nx
    rw [q_set_n (by omega), y_st_10]
    exact ((z_move_o (p := (E 5, E 10)) hN1).2 i hi).trans (h4 i hi)
theorem y_run_lv {D : q_Mem} {N H x s : Nat} (hN1 : 1 ≤ N) : ∀ k, y_lv N D (y_run N H x s D k)
  | 0 => y_lv.rf _ _
  | k + 1 => (y_run_lv hN1 k).st hN1

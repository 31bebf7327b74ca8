theorem z_m1 : nI 0 - (1 : Int32) = -1 := by decide
theorem z_sA {N j : Nat} (hj : j ≤ N) : z_side N (nI j - (1 : Int32)) (if j = 0 then none else some (j - 1)) := by
  by_cases h : j = 0
  · rw [if_pos h, h, z_m1]; exact Or.inl rfl
  · rw [if_neg h, z_pred (by omega)]; exact ⟨rfl, by omega⟩
theorem z_sB {N j : Nat} (hj : j ≤ N) : z_side N (nI j) (if j < N then some j else none) := by
  by_cases h : j < N
  · rw [if_pos h]; exact ⟨rfl, h⟩
  · rw [if_neg h, show j = N by omega]; exact Or.inr rfl
theorem p_crossB_117 {b N j : Nat} (hb : q_WB b) {a1 : Nat} {fl : Int32} {mem : q_Mem} {wa su : Nat → Int32} {Q : q_Mem → Prop} (hn : mem b 11 = nI N) (hw : mem (b + 9) = wa) (hs : mem (b + 13) = su) (hN : N ≤ 6) (hj : j ≤ N) (h : Q (q_set (q_set mem (b + 9) (z_cw N j fl wa)) (b + 13) (z_cs N j fl su))) : wp_X1_crossBorder_117 b (nI j) a1 (nI j - (1 : Int32)) fl mem Q := by
  unfold wp_X1_crossBorder_117
  have hA := z_sA hj
  have hB := z_sB hj
  unfold z_cw z_cs at h
  by_cases h0 : j = 0
  · rw [if_pos h0] at hA
    refine p_awS hb hn hN hA ?_
    have hlt : nI j - (1 : Int32) < 0 := by rw [h0]; decide
    have hnj : ¬ 0 < j := by omega
    simp only [Option.elim, if_pos hlt, hs, z_subnn]
    simp only [hnj, if_false] at h
    have hn2 : q_set mem (b + 13) (upd su 2 (su 2 + fl)) b 11 = nI N := by rw [q_set_n (by omega)]; exact hn
    by_cases h1 : j < N
    · rw [if_pos h1] at hB
      refine p_awS hb hn2 hN hB ?_
      simp only [h1, if_true] at h
      simp only [Option.elim, q_set_n (show b + 9 ≠ b + 13 by omega), hw]
      rw [q_set_comm (show b + 13 ≠ b + 9 by omega)]
      exact h
    · rw [if_neg h1] at hB
      refine p_awS hb hn2 hN hB ?_
      have hlt2 : ¬ nI j < (0 : Int32) := by rw [h0]; decide
      simp only [h1, if_false] at h
      simp only [Option.elim, if_neg hlt2, q_set_s, q_set_set]
      rw [q_set_self hw] at h
      exact h
  · rw [if_neg h0] at hA
    refine p_awS hb hn hN hA ?_
    have hpj : 0 < j := by omega
    simp only [Option.elim, hw, z_subneg]
    simp only [hpj, if_true] at h
    have hn2 : q_set mem (b + 9) (upd wa (j - 1) (wa (j - 1) - fl)) b 11 = nI N := by rw [q_set_n (by omega)]; exact hn
    by_cases h1 : j < N
    · rw [if_pos h1] at hB
      refine p_awS hb hn2 hN hB ?_
      simp only [h1, if_true] at h
      simp only [Option.elim, q_set_s, q_set_set]
      rw [q_set_self (f := su) (by rw [q_set_n (show b + 13 ≠ b + 9 by omega)]; exact hs)] at h
      exact h
    · rw [if_neg h1] at hB
      refine p_awS hb hn2 hN hB ?_
      have hlt2 : ¬ nI j < (0 : Int32) := by rw [z_lt, t_0, z_nI (by omega)]; omega
      simp only [h1, if_false] at h
      simp only [Option.elim, if_neg hlt2, q_set_n (show b + 13 ≠ b + 9 by omega), hs]
      exact h
theorem p_crossB_44 {b N j : Nat} (hb : q_WB b) {a1 : Nat} {x4 s1 : Int32} {mem : q_Mem} {ro st cu co wa su : Nat → Int32} {Q : q_Mem → Prop} (hW : z_WO b mem N ro st cu co) (hw : mem (b + 9) = wa) (hs : mem (b + 13) = su) (hR : z_RG N ro st cu wa) (hj : j ≤ N) (h0 : 0 < ((if j = 0 then (1 : Int32) else st (j - 1)) + (if j = N then (1 : Int32) else st j)).toInt)
    (hf : -1000 ≤ ((x4 - s1) / ((if j = 0 then (1 : Int32) else st (j - 1)) + (if j = N then (1 : Int32) else st j))).toInt ∧ ((x4 - s1) / ((if j = 0 then (1 : Int32) else st (j - 1)) + (if j = N then (1 : Int32) else st j))).toInt ≤ 1000)
    (h : ∀ fl, fl = z_flow N j ro wa ((x4 - s1) / ((if j = 0 then (1 : Int32) else st (j - 1)) + (if j = N then (1 : Int32) else st j))) → Q (q_set (q_set mem (b + 9) (z_cw N j fl wa)) (b + 13) (z_cs N j fl su))) : wp_X1_crossBorder_44 b (nI j) a1 (nI j - (1 : Int32)) x4 s1 mem Q := by
  obtain ⟨hn, h5, h6, h8, hco⟩ := hW
  obtain ⟨hN, hL, hS⟩ := hR
  have hA := z_sA hj
  have hB := z_sB hj
  unfold wp_X1_crossBorder_44
  refine p_srS hb hn hN hA ?_
  refine p_srS hb hn hN hB ?_
  have e1 : ((if j = 0 then none else some (j - 1)).elim (1 : Int32) (fun i => mem (b + 6) i)) = (if j = 0 then (1 : Int32) else st (j - 1)) := by
    by_cases q : j = 0
    · simp only [if_pos q, Option.elim]
    · simp only [if_neg q, h6, Option.elim]
  have e2 : ((if j < N then some j else none).elim (1 : Int32) (fun i => mem (b + 6) i)) = (if j = N then (1 : Int32) else st j) := by
    by_cases q : j = N
    · simp only [if_pos q, show ¬ j < N by omega, if_false, Option.elim]
    · simp only [if_neg q, show j < N by omega, if_true, h6, Option.elim]
  rw [e1, e2]
  refine p_partCut h0 ?_
  generalize (x4 - s1) / ((if j = 0 then (1 : Int32) else st (j - 1)) + (if j = N then (1 : Int32) else st j)) = f0 at hf h ⊢
  have hcf : ∀ gA fA gB fB : Int32, (gA = (if j = 0 then none else some (j - 1)).elim (2147483647 : Int32) (fun i => mem (b + 9) i)) → (fA = (if j = 0 then none else some (j - 1)).elim (2147483647 : Int32) (fun i => mem (b + 5) i - mem (b + 9) i)) → (gB = (if j < N then some j else none).elim (2147483647 : Int32) (fun i => mem (b + 9) i)) → (fB = (if j < N then some j else none).elim (2147483647 : Int32) (fun i => mem (b + 5) i - mem (b + 9) i)) → z_cf f0 gA fA gB fB = z_flow N j ro wa f0 := by
    intro gA fA gB fB k1 k2 k3 k4
    refine z_cf_eq hf (fun q => z_LRi (hL (j - 1) (by omega))) (fun q => z_LRi (hL j q)) (fun q => ?_) (fun q => ?_) (fun q => ?_) (fun q => ?_)
    · rw [if_neg (by omega)] at k1 k2
      rw [k1, k2, hw, h5]
      exact ⟨rfl, rfl⟩
    · rw [if_pos (by omega)] at k1 k2
      exact ⟨k1, k2⟩
    · rw [if_pos q] at k3 k4
      rw [k3, k4, hw, h5]
      exact ⟨rfl, rfl⟩
    · rw [if_neg q] at k3 k4
      exact ⟨k3, k4⟩
  refine ⟨fun c => ?_, fun c => ?_⟩
  · refine p_wgS hb hn hN hB ?_
    refine p_frS hb hn hN hA ?_
    rintro x rfl
    refine p_crossB_117 hb hn hw hs hN hj ?_
    refine h _ ?_
    rw [← hcf _ _ _ _ rfl rfl rfl rfl]
    unfold z_cf
    rw [if_pos c]
  · refine p_wgS hb hn hN hA ?_
    refine p_frS hb hn hN hB ?_
    rintro x rfl
    refine p_crossB_117 hb hn hw hs hN hj ?_
    refine h _ ?_
    rw [← hcf _ _ _ _ rfl rfl rfl rfl]
    unfold z_cf
    rw [if_neg c]
theorem p_crossB {b N j hc : Nat} (hb : q_WB b) {mem : q_Mem} {ro st cu co wa su : Nat → Int32} {dO dI : Int32} {Q : q_Mem → Prop} (hW : z_WO b mem N ro st cu co) (hw : mem (b + 9) = wa) (hs : mem (b + 13) = su) (hR : z_RG N ro st cu wa) (hC : z_CR co) (hO : z_D dO) (hI : z_D dI) (eO : mem hc 0 = dO) (eI : mem hc 3 = dI) (hal : q_al hc = 5) (hj : j ≤ N)
    (h : Q (q_set (q_set mem (b + 9) (z_cross N ro st cu co dO dI j (wa, su)).1) (b + 13) (z_cross N ro st cu co dO dI j (wa, su)).2)) : wp_X1_crossBorder b (nI j) hc mem Q := by
  obtain ⟨h0, h1, h2⟩ := z_f0r (wa := wa) hR hC hO hI hj
  obtain ⟨hN, hL, hS⟩ := id hR
  obtain ⟨hn, h5, h6, h8, hco⟩ := id hW
  have key : wp_X1_crossBorder_44 b (nI j) hc (nI j - (1 : Int32)) (if j = 0 then dO else z_dm co ro cu wa (j - 1)) (if j = N then dI else z_dm co ro cu wa j) mem Q :=
    p_crossB_44 hb hW hw hs hR hj h0 ⟨h1, h2⟩ (fun fl e => by subst e; exact h)
  have key2 : wp_X1_crossBorder_23 b (nI j) hc (nI j - (1 : Int32)) (if j = 0 then dO else z_dm co ro cu wa (j - 1)) mem Q := by
    unfold wp_X1_crossBorder_23
    refine p_has hn (by omega) (by omega) (fun c => ?_) (fun c => ?_)
    · rw [if_neg (show ¬ j = N by omega)] at key
      exact ⟨fun q => absurd q z_n10, fun _ => p_dampOf hb hW hw hC (by omega) (hL j c) key⟩
    · rw [if_pos (show j = N by omega)] at key
      refine ⟨fun _ => ⟨by rw [hal]; exact vp_in_iff.mpr (by decide), ?_⟩, fun q => absurd rfl q⟩
      rw [c_3, eI]
      exact key
  unfold wp_X1_crossBorder
  rintro x rfl
  refine p_hasS hn hN (z_sA hj) (fun i e => ?_) (fun e => ?_)
  · by_cases q : j = 0
    · rw [if_pos q] at e; cases e
    · rw [if_neg q] at key2
      refine ⟨fun z => absurd z z_n10, fun _ => ?_⟩
      rw [z_pred (by omega)] at key2 ⊢
      exact p_dampOf hb hW hw hC (by omega) (hL (j - 1) (by omega)) key2
  · by_cases q : j = 0
    · rw [if_pos q] at key2
      refine ⟨fun _ => ⟨by rw [hal]; exact vp_in_iff.mpr (by decide), ?_⟩, fun z => absurd rfl z⟩
      rw [c_0, eO]
      exact key2
    · rw [if_neg q] at e; cases e

/-! the reference's cross(j, w) -/
theorem p_cross_45 {N j : Nat} {a1 x3 s1 : Int32} {mem : q_Mem} {st : Nat → Int32} {Q : q_Mem → Prop} (hn : mem 72 0 = nI N) (hst : mem 74 = st) (hN : N ≤ 6) (hj : j ≤ N) (h : wp_X3_cross_85 (nI j) a1 (if j = N then (1 : Int32) else st j) (if j = 0 then (1 : Int32) else st (j - 1)) (x3 - s1) mem Q) : wp_X3_cross_45 (nI j) a1 x3 s1 mem Q := by
  have hjl : j < 2147483648 := by omega
  have hNl : N < 2147483648 := by omega
  have hcl : (nI j).toNatClampNeg = j := nI_clamp hjl
  have a74 : q_al 74 = 6 := rfl
  unfold wp_X3_cross_45 wp_X3_cross_67
  simp only [z_jeq0 hjl, hn, z_neq2 hjl hNl, hst, a74, hcl]
  refine ⟨fun h0 => ?_, fun h0 => ⟨fun h1 => ⟨in_nI (by omega) (by omega), ?_⟩, fun h1 => ?_⟩⟩
  · have hp : nI j - (1 : Int32) = nI (j - 1) := z_pred (by omega)
    have hcl2 : (nI (j - 1)).toNatClampNeg = j - 1 := nI_clamp (by omega)
    rw [hp, hcl2]
    rw [if_neg h0] at h
    refine ⟨in_nI (by omega) (by omega), fun h1 => ⟨in_nI (by omega) (by omega), ?_⟩, fun h1 => ?_⟩
    · rw [if_neg h1] at h; exact h
    · rw [if_pos h1] at h; exact h
  · rw [if_neg h1, if_pos h0] at h; exact h
  · rw [if_pos h1, if_pos h0] at h; exact h
theorem p_cross {N j w : Nat} {mem : q_Mem} {ro st cu co wa su : Nat → Int32} {dO dI : Int32} {Q : q_Mem → Prop} (hM : z_MO mem N ro st cu co) (hw : mem 77 = wa) (hs : mem 82 = su) (hR : z_RG N ro st cu wa) (hC : z_CR co) (hO : z_D dO) (hI : z_D dI) (eO : mem 83 w = dO) (eI : mem 83 (w + 3) = dI) (hw3 : w + 3 < 120) (hj : j ≤ N)
    (h : Q (q_set (q_set mem 77 (z_cross N ro st cu co dO dI j (wa, su)).1) 82 (z_cross N ro st cu co dO dI j (wa, su)).2)) : wp_X3_cross (nI j) (nI w) mem Q := by
  obtain ⟨h0, h1, h2⟩ := z_f0r (wa := wa) hR hC hO hI hj
  obtain ⟨hN, hL, hS⟩ := id hR
  obtain ⟨m1, m2, m3, m4, m5⟩ := id hM
  have hjl : j < 2147483648 := by omega
  have hNl : N < 2147483648 := by omega
  have a83 : q_al 83 = 120 := rfl
  have hclw : (nI w).toNatClampNeg = w := nI_clamp (by omega)
  have hw3' : nI w + (3 : Int32) = nI (w + 3) := by rw [z_lit 3, nI_add]
  have hclw3 : (nI (w + 3)).toNatClampNeg = w + 3 := nI_clamp (by omega)
  have key : wp_X3_cross_45 (nI j) (nI w) (if j = 0 then dO else z_dm co ro cu wa (j - 1)) (if j = N then dI else z_dm co ro cu wa j) mem Q :=
    p_cross_45 m1 m3 hN hj (p_cross_85 m1 m2 hw hs hN hj h0 h)
  have key2 : wp_X3_cross_20 (nI j) (nI w) (if j = 0 then dO else z_dm co ro cu wa (j - 1)) mem Q := by
    unfold wp_X3_cross_20
    simp only [m1, z_neq2 hjl hNl, hw3', hclw3, eI, a83]
    refine ⟨fun c => ?_, fun c => ⟨in_nI (by omega) (by omega), ?_⟩⟩
    · rw [if_neg c] at key
      exact p_damp hM hw hC (by omega) (hL j (by omega)) key
    · rw [if_pos c] at key
      exact key
  unfold wp_X3_cross
  simp only [z_jeq0 hjl, hclw, eO, a83]
  refine ⟨fun c => ?_, fun c => ⟨in_nI (by omega) (by omega), ?_⟩⟩
  · rw [if_neg c] at key2
    rw [z_pred (by omega)]
    exact p_damp hM hw hC (by omega) (hL (j - 1) (by omega)) key2
  · rw [if_pos c] at key2
    exact key2
/-! the class's crossBorder: what lies on either side, a layer or not -/
def z_side (N : Nat) (x : Int32) (o : Option Nat) : Prop := match o with
  | some i => x = nI i ∧ i < N
  | none => x = -1 ∨ x = nI N
theorem p_hasS {b N : Nat} {x : Int32} {o : Option Nat} {mem : q_Mem} {Q : Int32 → q_Mem → Prop} (hs : mem b 11 = nI N) (hN : N ≤ 6) (hx : z_side N x o) (h1 : ∀ i, o = some i → Q 1 mem) (h0 : o = none → Q 0 mem) : wp_X1_has b x mem Q := by
  cases o with
  | some i =>
    obtain ⟨rfl, hi⟩ := hx
    exact p_has hs (by omega) (by omega) (fun _ => h1 i rfl) (fun h => by omega)
  | none =>
    rcases hx with rfl | rfl
    · exact p_hasm1 (h0 rfl)
    · exact p_has hs (by omega) (by omega) (fun h => by omega) (fun _ => h0 rfl)
theorem z_n10 : ¬ (1 : Int32) = 0 := by decide
theorem p_srS {b N : Nat} (hb : q_WB b) {x : Int32} {o : Option Nat} {mem : q_Mem} {Q : Int32 → q_Mem → Prop} (hs : mem b 11 = nI N) (hN : N ≤ 6) (hx : z_side N x o) (h : Q (o.elim (1 : Int32) (fun i => mem (b + 6) i)) mem) : wp_X1_steamResist b x mem Q := by
  unfold wp_X1_steamResist
  refine p_hasS hs hN hx (fun i e => ?_) (fun e => ?_)
  · subst e
    obtain ⟨rfl, hi⟩ := hx
    refine ⟨fun c => absurd c z_n10, fun _ => ⟨by rw [al_w6 hb]; exact in_nI (by omega) (by omega), ?_⟩⟩
    rw [nI_clamp (by omega)]
    exact h
  · subst e
    exact ⟨fun _ => h, fun c => absurd rfl c⟩
theorem p_wgS {b N : Nat} (hb : q_WB b) {x : Int32} {o : Option Nat} {mem : q_Mem} {Q : Int32 → q_Mem → Prop} (hs : mem b 11 = nI N) (hN : N ≤ 6) (hx : z_side N x o) (h : Q (o.elim (2147483647 : Int32) (fun i => mem (b + 9) i)) mem) : wp_X1_waterToGive b x mem Q := by
  unfold wp_X1_waterToGive
  refine p_hasS hs hN hx (fun i e => ?_) (fun e => ?_)
  · subst e
    obtain ⟨rfl, hi⟩ := hx
    refine ⟨fun c => absurd c z_n10, fun _ => ⟨by rw [al_w9 hb]; exact in_nI (by omega) (by omega), ?_⟩⟩
    rw [nI_clamp (by omega)]
    exact h
  · subst e
    exact ⟨fun _ => h, fun c => absurd rfl c⟩
theorem p_frS {b N : Nat} (hb : q_WB b) {x : Int32} {o : Option Nat} {mem : q_Mem} {Q : Int32 → q_Mem → Prop} (hs : mem b 11 = nI N) (hN : N ≤ 6) (hx : z_side N x o) (h : Q (o.elim (2147483647 : Int32) (fun i => mem (b + 5) i - mem (b + 9) i)) mem) : wp_X1_freeRoom b x mem Q := by
  unfold wp_X1_freeRoom
  refine p_hasS hs hN hx (fun i e => ?_) (fun e => ?_)
  · subst e
    obtain ⟨rfl, hi⟩ := hx
    refine ⟨fun c => absurd c z_n10, fun _ => ⟨by rw [al_w5 hb]; exact in_nI (by omega) (by omega), by rw [al_w9 hb]; exact in_nI (by omega) (by omega), ?_⟩⟩
    rw [nI_clamp (by omega)]
    exact h
  · subst e
    exact ⟨fun _ => h, fun c => absurd rfl c⟩
theorem p_awS {b N : Nat} (hb : q_WB b) {x am : Int32} {o : Option Nat} {mem : q_Mem} {Q : q_Mem → Prop} (hs : mem b 11 = nI N) (hN : N ≤ 6) (hx : z_side N x o) (h : Q (o.elim (if x < 0 then q_set mem (b + 13) (upd (mem (b + 13)) 2 (mem (b + 13) 2 - am)) else q_set mem (b + 13) (upd (mem (b + 13)) 3 (mem (b + 13) 3 - am))) (fun i => q_set mem (b + 9) (upd (mem (b + 9)) i (mem (b + 9) i + am))))) : wp_X1_addWater b x am mem Q := by
  unfold wp_X1_addWater wp_X1_addWater_34
  refine p_hasS hs hN hx (fun i e => ?_) (fun e => ?_)
  · subst e
    obtain ⟨rfl, hi⟩ := hx
    have hin : vp_in (nI i) (q_al (b + 9)) := by rw [al_w9 hb]; exact in_nI (by omega) (by omega)
    refine ⟨fun c => absurd c z_n10, fun _ => ⟨hin, hin, ?_⟩⟩
    rw [nI_clamp (by omega)]
    rintro m rfl
    exact h
  · subst e
    have i2 : vp_in (2 : Int32) (q_al (b + 13)) := by rw [al_w13 hb]; exact vp_in_iff.mpr (by decide)
    have i3 : vp_in (3 : Int32) (q_al (b + 13)) := by rw [al_w13 hb]; exact vp_in_iff.mpr (by decide)
    refine ⟨fun _ => ⟨fun c => ⟨i3, i3, ?_⟩, fun c => ⟨i2, i2, ?_⟩⟩, fun c => absurd rfl c⟩
    · rintro m rfl
      simp only [Option.elim] at h
      rw [if_neg (fun z => by rw [z_le, t_0] at c; rw [z_lt, t_0] at z; omega)] at h
      exact h
    · rintro m rfl
      simp only [Option.elim] at h
      rw [if_pos (by rw [z_lt, t_0]; have := z_nle c; rw [t_0] at this; exact this)] at h
      exact h

/-! ===== the old way: pressure, warmth, excess ===== -/
theorem w_lp3 (N : Nat) (X1 X2 X3 : Nat → Int32) (mem : q_Mem) {body : (Int32 → Int32 → Int32 → q_Mem → Prop) → Int32 → Int32 → Int32 → q_Mem → Prop} {x1 x2 x3 : Int32} (e1 : x1 = X1 0) (e2 : x2 = X2 0) (e3 : x3 = X3 0) (step : ∀ k, k ≤ N → ∀ K : Int32 → Int32 → Int32 → q_Mem → Prop, (k < N → K (X1 (k + 1)) (X2 (k + 1)) (X3 (k + 1)) mem) → body K (X1 k) (X2 k) (X3 k) mem) :
    ∃ I : Nat → Int32 → Int32 → Int32 → q_Mem → Prop, (∃ n, I n x1 x2 x3 mem) ∧ ∀ (n : Nat) (y1 y2 y3 : Int32) (ymem : q_Mem), I n y1 y2 y3 ymem → body (fun z1 z2 z3 zmem => ∃ n2, n2 < n ∧ I n2 z1 z2 z3 zmem) y1 y2 y3 ymem := by
  refine ⟨fun n y1 y2 y3 ym => ∃ k, k ≤ N ∧ n = N - k ∧ y1 = X1 k ∧ y2 = X2 k ∧ y3 = X3 k ∧ ym = mem, ⟨N, 0, Nat.zero_le _, rfl, e1, e2, e3, rfl⟩, ?_⟩
  rintro n y1 y2 y3 ym ⟨k, hk, rfl, rfl, rfl, rfl, rfl⟩
  exact step k hk _ (fun hlt => ⟨N - (k + 1), by omega, k + 1, hlt, rfl, rfl, rfl, rfl, rfl⟩)
def z_sa (t : Int32) : Int32 := if 0 ≤ t then (600 : Int32) + (40 : Int32) * t else (600 : Int32) + (20 : Int32) * t
def z_pi (d t : Int32) : Int32 := d * z_sa t / 1000
def z_bt (o i ah al : Int32) : Int32 := o + z_fl ((i - o) * ((1 : Int32) + ah)) ((2 : Int32) + al)
def z_bF (o i : Int32) (f : Nat → Int32) (N face : Nat) : Int32 := if face = 0 then o else if face = N then i else z_bt o i (z_sm f face) (z_sm f N)
theorem z_sar {t : Int32} (h : -30 ≤ t.toInt ∧ t.toInt ≤ 50) : 0 ≤ (z_sa t).toInt ∧ (z_sa t).toInt ≤ 2600 := by
  unfold z_sa
  have e40 : (40 * t).toInt = 40 * t.toInt := z_mul (by rw [t_40]; omega) (by rw [t_40]; omega)
  have e20 : (20 * t).toInt = 20 * t.toInt := z_mul (by rw [t_20]; omega) (by rw [t_20]; omega)
  by_cases c : 0 ≤ t
  · rw [if_pos c]
    rw [z_le, t_0] at c
    rw [z_add (by rw [e40, t_600]; omega) (by rw [e40, t_600]; omega), e40, t_600]; omega
  · rw [if_neg c]
    rw [z_le, t_0] at c
    rw [z_add (by rw [e20, t_600]; omega) (by rw [e20, t_600]; omega), e20, t_600]; omega
theorem z_pin {d t : Int32} (hd : 0 ≤ d.toInt ∧ d.toInt ≤ 1000) (h : -30 ≤ t.toInt ∧ t.toInt ≤ 50) : 0 ≤ (d * z_sa t).toInt := by
  have hs := z_sar h
  have h1 : 0 ≤ d.toInt * (z_sa t).toInt := Int.mul_nonneg hd.1 hs.1
  have h2 : d.toInt * (z_sa t).toInt ≤ 1000 * 2600 := Int.mul_le_mul hd.2 hs.2 hs.1 (by omega)
  rw [z_mul (by omega) (by omega)]; exact h1
theorem p_sat0 {t : Int32} {mem : q_Mem} {Q : Int32 → q_Mem → Prop} (h : Q (z_sa t) mem) : wp_X0_saturation t mem Q := by
  unfold wp_X0_saturation
  unfold z_sa at h
  exact ⟨fun c => by rw [if_pos c] at h; exact h, fun c => by rw [if_neg c] at h; exact h⟩
theorem p_sat3 {t : Int32} {mem : q_Mem} {Q : Int32 → q_Mem → Prop} (h : Q (z_sa t) mem) : wp_X3_saturation t mem Q := by
  unfold wp_X3_saturation wp_X3_saturation_14
  unfold z_sa at h
  exact ⟨fun c => by rw [if_pos c] at h; exact h, fun c => by rw [if_neg c] at h; exact h⟩
theorem p_pIn {d t : Int32} {mem : q_Mem} {Q : Int32 → q_Mem → Prop} (hd : 0 ≤ d.toInt ∧ d.toInt ≤ 1000) (ht : -30 ≤ t.toInt ∧ t.toInt ≤ 50) (h : Q (z_pi d t) mem) : wp_X0_pressureIn d t mem Q := by
  unfold wp_X0_pressureIn
  refine p_sat0 (p_partDown (by decide) ?_)
  rw [z_fl_nn (z_pin hd ht)]
  exact h
theorem z_2p {a : Int32} {N : Nat} (hN : N ≤ 6) (h : (N : Int) ≤ a.toInt ∧ a.toInt ≤ 50 * N) : 0 < ((2 : Int32) + a).toInt := by
  rw [z_add (by rw [t_2]; omega) (by rw [t_2]; omega), t_2]; omega
theorem p_between0 {o i ah al : Int32} {mem : q_Mem} {Q : Int32 → q_Mem → Prop} (hp : 0 < ((2 : Int32) + al).toInt) (h : Q (z_bt o i ah al) mem) : wp_X0_between o i ah al mem Q := by
  unfold wp_X0_between
  exact p_partDown hp h
theorem p_between3 {o i a3 : Int32} {face N : Nat} {og : Nat → Nat} {f : Nat → Int32} {mem : q_Mem} {Q : Int32 → q_Mem → Prop} (hn : mem 72 0 = nI N) (hN : N ≤ 6) (hf : face ≤ N) (ho : ∀ k, k < N → mem 85 k = nI (og k) ∧ og k < N) (hs : (a3 = 0 ∧ f = mem 75) ∨ (a3 = 1 ∧ f = mem 74)) (hr : ∀ k, k < N → 1 ≤ (f k).toInt ∧ (f k).toInt ≤ 50) (h : Q (z_bF o i (fun k => f (og k)) N face) mem) : wp_X3_between o i (nI face) a3 mem Q := by
  have hg : ∀ k, k < N → 1 ≤ (f (og k)).toInt ∧ (f (og k)).toInt ≤ 50 := fun k hk => hr _ (ho k hk).2
  unfold z_bF at h
  unfold wp_X3_between wp_X3_between_12
  rw [hn, z_jeq0 (by omega), show (nI face = nI N) ↔ face = N by rw [z_eq, z_nI (by omega), z_nI (by omega)]; omega]
  refine ⟨fun c => ⟨fun z => absurd c z, fun _ => by rw [if_pos c] at h; exact h⟩, fun c => ⟨fun d => ?_, fun d => ⟨fun _ => by rw [if_neg c, if_pos d] at h; exact h, fun z => absurd z c⟩⟩⟩
  rw [if_neg c, if_neg d] at h
  unfold wp_X3_between_31
  refine w_lp3 N (fun k => (1 : Int32) + z_sm (fun k => f (og k)) (min face k)) (fun k => (2 : Int32) + z_sm (fun k => f (og k)) k) nI mem (body := fun K y1 y2 y3 m => wp_X3_between_31_b K o i (nI face) a3 y1 y2 y3 m Q) ?_ ?_ nI_0.symm (fun k hk K hK => ?_)
  · rw [Nat.min_zero]; rfl
  · rfl
  unfold wp_X3_between_31_b
  rw [hn, z_nle2 (by omega) (by omega), show q_al 85 = 6 from rfl, show q_al 74 = 6 from rfl, show q_al 75 = 6 from rfl, nI_clamp (by omega)]
  refine ⟨fun e => ?_, fun e => ?_⟩
  · have hk : k = N := by omega
    subst hk
    unfold wp_X3_between_104
    rw [show min face k = face by omega]
    exact p_floor (z_2p hN (z_sm_rng hg hN k (Nat.le_refl _))) h
  have hkN : k < N := by omega
  obtain ⟨o1, o2⟩ := ho k hkN
  rw [o1, nI_clamp (by omega)]
  have i1 : vp_in (nI k) 6 := in_nI (by omega) (by omega)
  have i2 : vp_in (nI (og k)) 6 := in_nI (by omega) (by omega)
  have key : wp_X3_between_72 K o i (nI face) a3 ((1 : Int32) + z_sm (fun k => f (og k)) (min face k)) ((2 : Int32) + z_sm (fun k => f (og k)) k) (nI k) (f (og k)) mem Q := by
    have hK1 := hK hkN
    unfold wp_X3_between_72 wp_X3_between_88
    rw [z_nle2 (by omega) (by omega)]
    refine ⟨fun u => ?_, fun u => ?_⟩
    · rintro x5 rfl
      rintro x6 rfl
      rintro x7 rfl
      rw [nI_1, Int32.add_zero, Int32.add_assoc]
      rw [show min face (k + 1) = min face k by omega] at hK1
      exact hK1
    · rintro x5 rfl
      rintro x6 rfl
      rintro x7 rfl
      rw [nI_1, Int32.add_assoc, Int32.add_assoc, show min face k = k by omega]
      rw [show min face (k + 1) = k + 1 by omega] at hK1
      exact hK1
  rcases hs with ⟨s1, s2⟩ | ⟨s1, s2⟩
  · rw [s1] at key ⊢
    refine b_ht rfl ⟨i1, i2, ?_⟩
    rw [← s2]; exact key
  · rw [s1] at key ⊢
    refine b_1 ⟨i1, i2, ?_⟩
    rw [← s2]; exact key
/-- the reference's order lies in cell 85 -/
def z_OG (mem : q_Mem) (N : Nat) (og : Nat → Nat) : Prop := ∀ k, k < N → mem 85 k = nI (og k) ∧ og k < N
def y_pF (D : q_Mem) (N h : Nat) (og : Nat → Nat) (face : Nat) : Int32 := z_bF (z_pi (D 11 (5 * h)) (D 11 (5 * h + 1))) (z_pi (D 11 (5 * h + 3)) (D 11 (5 * h + 4))) (fun k => D 2 (og k)) N face
def y_wF (D : q_Mem) (N h : Nat) (og : Nat → Nat) (face : Nat) : Int32 := z_bF (D 11 (5 * h + 1)) (D 11 (5 * h + 4)) (fun k => D 3 (og k)) N face
def z_ov (p w : Int32) : Int32 := if p - z_sa w < 0 then 0 else p - z_sa w
theorem z_5h {h : Nat} (hh : h < 24) : (5 : Int32) * nI h = nI (5 * h) ∧ ∀ k, k < 5 → nI (5 * h) + nI k = nI (5 * h + k) ∧ (nI (5 * h + k)).toNatClampNeg = 5 * h + k ∧ vp_in (nI (5 * h + k)) 120 := ⟨by rw [z_lit 5, pk_mul], fun k hk => ⟨nI_add _ _, nI_clamp (by omega), in_nI (by omega) (by omega)⟩⟩
theorem p_pressureOf {mem D : q_Mem} {N H x s r f h face : Nat} {og : Nat → Nat} {Q : Int32 → q_Mem → Prop} (hM : y_M mem D) (hW : y_W D N H x s r f) (hh : h < H) (hf : face ≤ N) (ho : z_OG mem N og) (hq : Q (y_pF D N h og face) mem) : wp_X3_pressureOf (nI h) (nI face) mem Q := by
  obtain ⟨⟨e0, e1, e2, e3, e4, e5⟩, ⟨g1, g2, g3, g4, g5⟩, v1, v2, v3, v4, v5, v6⟩ := id hW
  obtain ⟨hN, hL, hS⟩ := v1
  obtain ⟨q5, qk⟩ := z_5h (h := h) (by omega)
  obtain ⟨p0, c0, i0⟩ := qk 0 (by omega)
  obtain ⟨p1, c1, i1⟩ := qk 1 (by omega)
  obtain ⟨p3, c3, i3⟩ := qk 3 (by omega)
  obtain ⟨p4, c4, i4⟩ := qk 4 (by omega)
  rw [← z_lit 1] at p1
  rw [← z_lit 3] at p3
  rw [← z_lit 4] at p4
  unfold wp_X3_pressureOf
  rw [q5, p1, p3, p4, c1, show (nI (5 * h)).toNatClampNeg = 5 * h from c0, show q_al 83 = 120 from rfl, hM.2.2.2.2.1]
  refine ⟨i0, i1, p_sat3 ?_⟩
  rintro x3 rfl
  refine ⟨i3, i4, ?_⟩
  rw [c3, c4, hM.2.2.2.2.1]
  refine p_sat3 ?_
  rintro x4 rfl
  exact p_between3 (f := D 2) (og := og) (hM.1.1.trans e0) hN hf ho (Or.inr ⟨rfl, (hM.2.1 1 (by omega)).symm⟩) hS hq
theorem p_warmthOf {mem D : q_Mem} {N H x s r f h face : Nat} {og : Nat → Nat} {Q : Int32 → q_Mem → Prop} (hM : y_M mem D) (hW : y_W D N H x s r f) (hh : h < H) (hf : face ≤ N) (ho : z_OG mem N og) (hq : Q (y_wF D N h og face) mem) : wp_X3_warmthOf (nI h) (nI face) mem Q := by
  obtain ⟨⟨e0, e1, e2, e3, e4, e5⟩, ⟨g1, g2, g3, g4, g5⟩, v1, v2, v3, v4, v5, v6⟩ := id hW
  obtain ⟨hN, hL, hS⟩ := v1
  obtain ⟨q5, qk⟩ := z_5h (h := h) (by omega)
  obtain ⟨p1, c1, i1⟩ := qk 1 (by omega)
  obtain ⟨p4, c4, i4⟩ := qk 4 (by omega)
  rw [← z_lit 1] at p1
  rw [← z_lit 4] at p4
  unfold wp_X3_warmthOf
  rw [q5, p1, p4, c1, c4, show q_al 83 = 120 from rfl, hM.2.2.2.2.1]
  refine ⟨i1, i4, ?_⟩
  exact p_between3 (f := D 3) (og := og) (hM.1.1.trans e0) hN hf ho (Or.inl ⟨rfl, (hM.2.1 2 (by omega)).symm⟩) v2 hq
theorem p_excessOf {mem D : q_Mem} {N H x s r f h face : Nat} {og : Nat → Nat} {Q : Int32 → q_Mem → Prop} (hM : y_M mem D) (hW : y_W D N H x s r f) (hh : h < H) (hf : face ≤ N) (ho : z_OG mem N og) (hq : Q (z_ov (y_pF D N h og face) (y_wF D N h og face)) mem) : wp_X3_excessOf (nI h) (nI face) mem Q := by
  unfold wp_X3_excessOf
  refine p_pressureOf hM hW hh hf ho (p_warmthOf hM hW hh hf ho (p_sat3 ?_))
  rintro x3 rfl
  unfold z_ov at hq
  generalize y_pF D N h og face - z_sa (y_wF D N h og face) = v at *
  rw [z_le, t_0]
  refine ⟨fun c => ?_, fun c => ?_⟩
  · by_cases d : v < 0
    · rw [if_pos d] at hq; exact hq
    · rw [if_neg d] at hq
      rw [z_lt, t_0] at d
      have : v = 0 := by rw [z_eq, t_0]; omega
      rw [this] at hq; exact hq
  · rw [if_neg (by rw [z_lt, t_0]; omega)] at hq; exact hq
theorem p_plain {mem : q_Mem} {N : Nat} {Q : q_Mem → Prop} (hn : mem 72 0 = nI N) (hN : N ≤ 6) (h : ∀ g : Nat → Int32, (∀ k, k < N → g k = nI k) → Q (q_set mem 85 g)) : wp_X3_plain mem Q := by
  unfold wp_X3_plain wp_X3_plain_2
  refine w_rl1 N nI (fun k m => ∃ g : Nat → Int32, m = q_set mem 85 g ∧ ∀ j, j < k → g j = nI j) (body := fun K y m => wp_X3_plain_2_b K y m Q) nI_0.symm ⟨mem 85, (q_set_self rfl).symm, fun j hj => by omega⟩ (fun k hk m hP K hK => ?_)
  obtain ⟨g, rfl, hg⟩ := hP
  unfold wp_X3_plain_2_b
  rw [q_set_n (show (72 : Nat) ≠ 85 by decide), hn, z_nle2 (by omega) (by omega), show q_al 85 = 6 from rfl, nI_clamp (by omega), q_set_s]
  refine ⟨fun c => h g (fun j hj => hg j (by omega)), fun c => ⟨in_nI (by omega) (by omega), ?_⟩⟩
  rintro m3 rfl
  rintro y rfl
  rw [nI_1, q_set_set]
  refine hK _ (by omega) ⟨_, rfl, fun j hj => ?_⟩
  by_cases e : j = k
  · rw [e, upd_s]
  · rw [upd_n e]; exact hg j (by omega)
/-! the class -/
def y_pB (D : q_Mem) (N h : Nat) (S : Int32) : Int32 := z_bt (z_pi (D 11 (5 * h)) (D 11 (5 * h + 1))) (z_pi (D 11 (5 * h + 3)) (D 11 (5 * h + 4))) (z_ss (D 2) S N) (z_sm (D 2) N)
def y_wB (D : q_Mem) (N h : Nat) (S : Int32) : Int32 := z_bt (D 11 (5 * h + 1)) (D 11 (5 * h + 4)) (z_ss (D 3) S N) (z_sm (D 3) N)
theorem z_ss_all (f : Nat → Int32) {N : Nat} (hN : N ≤ 6) : z_ss f (((1 : Int32) <<< (nI N &&& 31)) - (1 : Int32)) N = z_sm f N := by rw [z_ss_first f hN N hN, Nat.min_self]
theorem p_warmthB {mem D : q_Mem} {N H x s r f h : Nat} {S : Int32} {Q : Int32 → q_Mem → Prop} (hC : y_C mem D) (hW : y_W D N H x s r f) (hh : h < H) (hq : Q (y_wB D N h S) mem) : wp_X0_warmthBehind 1 (35 + h) S mem Q := by
  obtain ⟨⟨e0, e1, e2, e3, e4, e5⟩, ⟨g1, g2, g3, g4, g5⟩, v1, v2, v3, v4, v5, v6⟩ := id hW
  obtain ⟨hN, hL, hS⟩ := v1
  have n0 : mem 1 11 = nI N := hC.1.1.trans e0
  have ej : ∀ l, l < 5 → mem (35 + h) l = D 11 (5 * h + l) := fun l hl => hC.2.2.2.2.1 h l (by omega) hl
  unfold wp_X0_warmthBehind wp_X1_firstLayers
  refine p_resistOf n0 hN (al_w7 q_WB1) ?_
  rw [show mem (1 + 7) = D 3 from hC.2.1 2 (by omega), n0, z_ss_all _ hN, al_hr (by omega)]
  refine ⟨vp_in_iff.mpr (by decide), vp_in_iff.mpr (by decide), p_resistOf n0 hN (al_w7 q_WB1) ?_⟩
  rw [show mem (1 + 7) = D 3 from hC.2.1 2 (by omega), c_1, c_4, ej 1 (by omega), ej 4 (by omega)]
  exact p_between0 (z_2p hN (z_sm_rng v2 hN N (Nat.le_refl _))) hq
theorem p_pressureB {mem D : q_Mem} {N H x s r f h : Nat} {S : Int32} {Q : Int32 → q_Mem → Prop} (hC : y_C mem D) (hW : y_W D N H x s r f) (hh : h < H) (hq : Q (y_pB D N h S) mem) : wp_X0_pressureBehind 1 (35 + h) S mem Q := by
  obtain ⟨⟨e0, e1, e2, e3, e4, e5⟩, ⟨g1, g2, g3, g4, g5⟩, v1, v2, v3, v4, v5, v6⟩ := id hW
  obtain ⟨hN, hL, hS⟩ := v1
  have n0 : mem 1 11 = nI N := hC.1.1.trans e0
  have ej : ∀ l, l < 5 → mem (35 + h) l = D 11 (5 * h + l) := fun l hl => hC.2.2.2.2.1 h l (by omega) hl
  obtain ⟨hO, hI, hr, ho, hn⟩ := v5 h hh
  unfold wp_X0_pressureBehind wp_X1_firstLayers
  rw [al_hr (by omega), c_0, c_1, ej 0 (by omega), ej 1 (by omega)]
  refine ⟨vp_in_iff.mpr (by decide), vp_in_iff.mpr (by decide), p_pIn hO ho ⟨vp_in_iff.mpr (by decide), vp_in_iff.mpr (by decide), ?_⟩⟩
  rw [c_3, c_4, ej 3 (by omega), ej 4 (by omega)]
  refine p_pIn hI hn (p_resistOf n0 hN (al_w6 q_WB1) (p_resistOf n0 hN (al_w6 q_WB1) ?_))
  rw [show mem (1 + 6) = D 2 from hC.2.1 1 (by omega), n0, z_ss_all _ hN]
  exact p_between0 (z_2p hN (z_sm_rng hS hN N (Nat.le_refl _))) hq
theorem p_excessB {mem D : q_Mem} {N H x s r f h : Nat} {S : Int32} {Q : Int32 → q_Mem → Prop} (hC : y_C mem D) (hW : y_W D N H x s r f) (hh : h < H) (hq : Q (z_ov (y_pB D N h S) (y_wB D N h S)) mem) : wp_X0_excessBehind 1 (35 + h) S mem Q := by
  unfold wp_X0_excessBehind
  exact p_warmthB hC hW hh (p_sat0 (p_pressureB hC hW hh hq))
theorem p_hrefC {a : Int32} {mem : q_Mem} {N H : Nat} {Q : Int32 → q_Mem → Prop} (e0 : mem 1 11 = nI N) (e1 : mem 0 4 = nI H) (hN : N ≤ 6) (hH : H ≤ 24) (h1 : ¬ (0 ≤ a.toInt ∧ a.toInt < H) → Q (-101) mem) (h2 : (0 ≤ a.toInt ∧ a.toInt < H) → N = 0 → Q (-103) mem) (h3 : (0 ≤ a.toInt ∧ a.toInt < H) → 1 ≤ N → Q 0 mem) : wp_X2_hourRefusal a mem Q := by
  unfold wp_X2_hourRefusal
  rw [e1]
  refine p_wi 0 ((H : Int) - 1) rfl (z_nm1 hH) (fun c => b_n0 (h1 (by omega))) (fun c => b_n1 ?_)
  rw [e0, z_jeq0 (by omega)]
  exact ⟨fun d => h3 (by omega) (by omega), fun d => h2 (by omega) d⟩
theorem p_hrefM {a : Int32} {mem : q_Mem} {N H : Nat} {Q : Int32 → q_Mem → Prop} (e0 : mem 72 0 = nI N) (e1 : mem 72 11 = nI H) (hN : N ≤ 6) (hH : H ≤ 24) (h1 : ¬ (0 ≤ a.toInt ∧ a.toInt < H) → Q (-101) mem) (h2 : (0 ≤ a.toInt ∧ a.toInt < H) → N = 0 → Q (-103) mem) (h3 : (0 ≤ a.toInt ∧ a.toInt < H) → 1 ≤ N → Q 0 mem) : wp_X3_refusal a mem Q := by
  unfold wp_X3_refusal wp_X3_isHour
  rw [e1]
  by_cases c : 0 ≤ a.toInt ∧ a.toInt < H
  · refine p_inT 0 ((H : Int) - 1) rfl (by rw [t64, z_nm1 hH]) (by omega) ⟨by decide, b_n1 ?_⟩
    rw [e0, z_jeq0 (by omega)]
    exact ⟨fun d => h3 c (by omega), fun d => h2 c d⟩
  · exact p_inF 0 ((H : Int) - 1) rfl (by rw [t64, z_nm1 hH]) (by omega) ⟨by decide, b_n0 (h1 c)⟩
theorem p_face {a v : Int32} {mem : q_Mem} {N H : Nat} {Q : Int32 → q_Mem → Prop} (e0 : mem 1 11 = nI N) (e1 : mem 0 4 = nI H) (hN : N ≤ 6) (hH : H ≤ 24) (h1 : ¬ (0 ≤ a.toInt ∧ a.toInt < H) → Q (-10101) mem) (h2 : (0 ≤ a.toInt ∧ a.toInt < H) → N = 0 → Q (-10103) mem) (h3 : (0 ≤ a.toInt ∧ a.toInt < H) → 1 ≤ N → ¬ (0 ≤ v.toInt ∧ v.toInt ≤ N) → Q (-10101) mem) (h4 : (0 ≤ a.toInt ∧ a.toInt < H) → 1 ≤ N → (0 ≤ v.toInt ∧ v.toInt ≤ N) → Q 0 mem) : wp_X2_faceRefusal a v mem Q := by
  unfold wp_X2_faceRefusal wp_X2_faceRefusal_35
  refine p_hrefC e0 e1 hN hH (fun c => ?_) (fun c d => ?_) (fun c d => ?_)
  · exact ⟨fun _ => ⟨fun _ => h1 c, fun z => absurd z (by decide)⟩, fun z => absurd z (by decide)⟩
  · exact ⟨fun z => absurd rfl z, fun _ => h2 c d⟩
  · refine ⟨fun _ => ⟨fun z => absurd rfl z, fun _ => ?_⟩, fun z => absurd z (by decide)⟩
    refine p_wi 0 N rfl (by rw [e0, z_nI (by omega)]) (fun u => b_n0 (h3 c d u)) (fun u => b_n1 (h4 c d u))
theorem z_og1 (N : Nat) {mem : q_Mem} {g : Nat → Int32} (h : ∀ k, k < N → g k = nI k) : z_OG (q_set mem 85 g) N id := fun k hk => ⟨by rw [q_set_s]; exact h k hk, hk⟩
theorem o_pressure {a v : Int32} {mem D : q_Mem} {Q : Int32 → Int32 → q_Mem → Prop} (hC : y_C mem D) (hM : y_M mem D) (hV : y_V D) (hQ : y_K Q) : wp_X2_pressure a v mem (fun r1 m1 => wp_X3_pressure a v m1 (fun r2 m2 => Q r1 r2 m2)) := by
  obtain ⟨N, H, x, s, r, f, hW⟩ := id hV
  obtain ⟨⟨e0, e1, e2, e3, e4, e5⟩, ⟨g1, g2, g3, g4, g5⟩, v1, v2, v3, v4, v5, v6⟩ := id hW
  have hN := v1.1
  have q : ∀ r : Int32, Q r r mem := fun r => hQ _ _ D hC hM hV
  have mc := hM.1.1.trans e0
  have md := hM.1.2.1.trans e1
  unfold wp_X2_pressure
  refine p_face (hC.1.1.trans e0) (hC.1.2.1.trans e1) hN g1 (fun c => ?_) (fun c d => ?_) (fun c d e => ?_) (fun c d e => b_ht rfl ?_)
  · refine ⟨fun z => absurd z (by decide), fun _ => ?_⟩
    unfold wp_X3_pressure wp_X3_pressure_24
    exact p_hrefM mc md hN g1 (fun _ => ⟨fun _ => ⟨fun _ => q _, fun z => absurd z (by decide)⟩, fun z => absurd z (by decide)⟩) (fun z _ => absurd z c) (fun z _ => absurd z c)
  · refine ⟨fun z => absurd z (by decide), fun _ => ?_⟩
    unfold wp_X3_pressure wp_X3_pressure_24
    exact p_hrefM mc md hN g1 (fun z => absurd c z) (fun _ _ => ⟨fun _ => ⟨fun z => absurd rfl z, fun _ => q _⟩, fun z => absurd z (by decide)⟩) (fun _ z => absurd z (by omega))
  · refine ⟨fun z => absurd z (by decide), fun _ => ?_⟩
    unfold wp_X3_pressure wp_X3_pressure_24
    refine p_hrefM mc md hN g1 (fun z => absurd c z) (fun _ z => absurd z (by omega)) (fun _ _ => b_n0 ?_)
    exact p_inF 0 N rfl (by rw [t64, mc, z_nI (by omega)]) e (b_n0 ⟨fun _ => q _, fun z => absurd z (by decide)⟩)
  obtain ⟨h, hh1, hh2, hh3⟩ := z_nat c.1
  obtain ⟨face, hf1, hf2, hf3⟩ := z_nat e.1
  have hhH : h < H := by omega
  have hfN : face ≤ N := by omega
  have back : wp_X3_pressure a v mem (fun r2 m2 => Q (y_pF D N h id face) r2 m2) := by
    unfold wp_X3_pressure
    refine p_hrefM mc md hN g1 (fun z => absurd c z) (fun _ z => absurd z (by omega)) (fun _ _ => b_n0 ?_)
    refine p_inT 0 N rfl (by rw [t64, mc, z_nI (by omega)]) e (b_n1 (p_plain mc hN (fun g hg => ?_)))
    rw [hh2, hf2]
    exact p_pressureOf (hM.scratch (by omega) g) hW hhH hfN (z_og1 N hg) (hQ _ _ D (hC.scratch (by omega) g) (hM.scratch (by omega) g) hV)
  unfold y_pF z_bF at back
  obtain ⟨hO, hI, hr, ho, hn⟩ := v5 h hhH
  have ej : ∀ l, l < 5 → mem (35 + h) l = D 11 (5 * h + l) := fun l hl => hC.2.2.2.2.1 h l (by omega) hl
  have hcl : a.toNatClampNeg = h := by rw [hh2, nI_clamp (by omega)]
  refine ⟨in_int c.1 (by omega), ?_⟩
  rw [hcl]
  unfold wp_X0_pressureAt wp_X1_firstLayers
  rw [hC.1.1, e0, z_lt, z_lt, t_0, z_nI (by omega), hf3, al_hr (by omega)]
  refine ⟨fun u => ⟨fun w => ?_, fun w => ?_⟩, fun u => ?_⟩
  · refine p_pressureB hC hW hhH ?_
    unfold y_pB
    rw [if_neg (by omega), if_neg (by omega)] at back
    rw [hf2, z_ss_first _ (by omega) N hN, show min face N = face by omega, ← hf2]
    exact back
  · refine ⟨vp_in_iff.mpr (by decide), vp_in_iff.mpr (by decide), ?_⟩
    rw [c_3, c_4, ej 3 (by omega), ej 4 (by omega)]
    refine p_pIn hI hn ?_
    rw [if_neg (by omega), if_pos (by omega)] at back
    exact back
  · refine ⟨vp_in_iff.mpr (by decide), vp_in_iff.mpr (by decide), ?_⟩
    rw [c_0, c_1, ej 0 (by omega), ej 1 (by omega)]
    refine p_pIn hO ho ?_
    rw [if_pos (by omega)] at back
    exact back
theorem o_warmth {a v : Int32} {mem D : q_Mem} {Q : Int32 → Int32 → q_Mem → Prop} (hC : y_C mem D) (hM : y_M mem D) (hV : y_V D) (hQ : y_K Q) : wp_X2_warmth a v mem (fun r1 m1 => wp_X3_warmth a v m1 (fun r2 m2 => Q r1 r2 m2)) := by
  obtain ⟨N, H, x, s, r, f, hW⟩ := id hV
  obtain ⟨⟨e0, e1, e2, e3, e4, e5⟩, ⟨g1, g2, g3, g4, g5⟩, v1, v2, v3, v4, v5, v6⟩ := id hW
  have hN := v1.1
  have q : ∀ r : Int32, Q r r mem := fun r => hQ _ _ D hC hM hV
  have mc := hM.1.1.trans e0
  have md := hM.1.2.1.trans e1
  unfold wp_X2_warmth
  refine p_face (hC.1.1.trans e0) (hC.1.2.1.trans e1) hN g1 (fun c => ?_) (fun c d => ?_) (fun c d e => ?_) (fun c d e => b_ht rfl ?_)
  · refine ⟨fun z => absurd z (by decide), fun _ => ?_⟩
    unfold wp_X3_warmth wp_X3_warmth_24
    exact p_hrefM mc md hN g1 (fun _ => ⟨fun _ => ⟨fun _ => q _, fun z => absurd z (by decide)⟩, fun z => absurd z (by decide)⟩) (fun z _ => absurd z c) (fun z _ => absurd z c)
  · refine ⟨fun z => absurd z (by decide), fun _ => ?_⟩
    unfold wp_X3_warmth wp_X3_warmth_24
    exact p_hrefM mc md hN g1 (fun z => absurd c z) (fun _ _ => ⟨fun _ => ⟨fun z => absurd rfl z, fun _ => q _⟩, fun z => absurd z (by decide)⟩) (fun _ z => absurd z (by omega))
  · refine ⟨fun z => absurd z (by decide), fun _ => ?_⟩
    unfold wp_X3_warmth wp_X3_warmth_24
    refine p_hrefM mc md hN g1 (fun z => absurd c z) (fun _ z => absurd z (by omega)) (fun _ _ => b_n0 ?_)
    exact p_inF 0 N rfl (by rw [t64, mc, z_nI (by omega)]) e (b_n0 ⟨fun _ => q _, fun z => absurd z (by decide)⟩)
  obtain ⟨h, hh1, hh2, hh3⟩ := z_nat c.1
  obtain ⟨face, hf1, hf2, hf3⟩ := z_nat e.1
  have hhH : h < H := by omega
  have hfN : face ≤ N := by omega
  have back : wp_X3_warmth a v mem (fun r2 m2 => Q (y_wF D N h id face) r2 m2) := by
    unfold wp_X3_warmth
    refine p_hrefM mc md hN g1 (fun z => absurd c z) (fun _ z => absurd z (by omega)) (fun _ _ => b_n0 ?_)
    refine p_inT 0 N rfl (by rw [t64, mc, z_nI (by omega)]) e (b_n1 (p_plain mc hN (fun g hg => ?_)))
    rw [hh2, hf2]
    exact p_warmthOf (hM.scratch (by omega) g) hW hhH hfN (z_og1 N hg) (hQ _ _ D (hC.scratch (by omega) g) (hM.scratch (by omega) g) hV)
  unfold y_wF z_bF at back
  have ej : ∀ l, l < 5 → mem (35 + h) l = D 11 (5 * h + l) := fun l hl => hC.2.2.2.2.1 h l (by omega) hl
  have hcl : a.toNatClampNeg = h := by rw [hh2, nI_clamp (by omega)]
  refine ⟨in_int c.1 (by omega), ?_⟩
  rw [hcl]
  unfold wp_X0_warmthAt wp_X1_firstLayers
  rw [hC.1.1, e0, z_lt, z_lt, t_0, z_nI (by omega), hf3, al_hr (by omega)]
  refine ⟨fun u => ⟨fun w => ?_, fun w => ?_⟩, fun u => ?_⟩
  · refine p_warmthB hC hW hhH ?_
    unfold y_wB
    rw [if_neg (by omega), if_neg (by omega)] at back
    rw [hf2, z_ss_first _ (by omega) N hN, show min face N = face by omega, ← hf2]
    exact back
  · refine ⟨vp_in_iff.mpr (by decide), ?_⟩
    rw [c_4, ej 4 (by omega)]
    rw [if_neg (by omega), if_pos (by omega)] at back
    exact back
  · refine ⟨vp_in_iff.mpr (by decide), ?_⟩
    rw [c_1, ej 1 (by omega)]
    rw [if_pos (by omega)] at back
    exact back
theorem z_bFid (o i : Int32) (f : Nat → Int32) {N face : Nat} (h0 : ¬ face = 0) (h1 : ¬ face = N) (hf : face ≤ N) (hN : N ≤ 6) : z_bt o i (z_ss f (((1 : Int32) <<< (nI face &&& 31)) - (1 : Int32)) N) (z_sm f N) = z_bF o i (fun k => f (id k)) N face := by
  have e : z_bF o i f N face = z_bF o i (fun k => f (id k)) N face := rfl
  rw [← e]
  unfold z_bF
  rw [if_neg h0, if_neg h1, z_ss_first _ (by omega) N hN, show min face N = face by omega]
theorem p_first {a : Int32} {mem : q_Mem} {Q : Int32 → q_Mem → Prop} (h : Q (((1 : Int32) <<< (a &&& 31)) - (1 : Int32)) mem) : wp_X1_firstLayers a mem Q := h
theorem o_excess {a v : Int32} {mem D : q_Mem} {Q : Int32 → Int32 → q_Mem → Prop} (hC : y_C mem D) (hM : y_M mem D) (hV : y_V D) (hQ : y_K Q) : wp_X2_excess a v mem (fun r1 m1 => wp_X3_excess a v m1 (fun r2 m2 => Q r1 r2 m2)) := by
  obtain ⟨N, H, x, s, r, f, hW⟩ := id hV
  obtain ⟨⟨e0, e1, e2, e3, e4, e5⟩, ⟨g1, g2, g3, g4, g5⟩, v1, v2, v3, v4, v5, v6⟩ := id hW
  have hN := v1.1
  have q : ∀ r : Int32, Q r r mem := fun r => hQ _ _ D hC hM hV
  have mc := hM.1.1.trans e0
  have md := hM.1.2.1.trans e1
  unfold wp_X2_excess
  refine p_hrefC (hC.1.1.trans e0) (hC.1.2.1.trans e1) hN g1 (fun c => ?_) (fun c d => ?_) (fun c d => b_ht rfl ?_)
  · refine b_sk (by decide) ?_
    unfold wp_X3_excess
    exact p_hrefM mc md hN g1 (fun _ => b_sk (by decide) (q _)) (fun z _ => absurd z c) (fun z _ => absurd z c)
  · refine b_sk (by decide) ?_
    unfold wp_X3_excess
    exact p_hrefM mc md hN g1 (fun z => absurd c z) (fun _ _ => b_sk (by decide) (q _)) (fun _ z => absurd z (by omega))
  have back0 : ∀ {R : Int32 → q_Mem → Prop}, wp_X3_in (v.toInt64) (1 : Int64) (((mem 72 0) - (1 : Int32)).toInt64) mem (fun r_5 m_6 => ((¬ r_5 = 0) → wp_X3_plain  m_6 (fun m_9 => wp_X3_excessOf a v m_9 (fun r_10 m_11 => R r_10 m_11))) ∧ ((r_5 = 0) → R (-101 : Int32) m_6)) → wp_X3_excess a v mem R := fun hR => by
    unfold wp_X3_excess
    exact p_hrefM mc md hN g1 (fun z => absurd c z) (fun _ z => absurd z (by omega)) (fun _ _ => b_ht rfl hR)
  rw [hC.1.1, e0]
  refine p_wi 1 ((N : Int) - 1) rfl (z_nm1 (by omega)) (fun e => b_n0 ?_) (fun e => b_n1 ⟨in_int c.1 (by omega), ?_⟩)
  · refine back0 ?_
    rw [mc]
    exact p_inF 1 ((N : Int) - 1) rfl (by rw [t64, z_nm1 (by omega)]) e (b_n0 (q _))
  obtain ⟨h, hh1, hh2, hh3⟩ := z_nat c.1
  obtain ⟨face, hf1, hf2, hf3⟩ := z_nat (x := v) (by omega)
  have hhH : h < H := by omega
  have hfN : face ≤ N := by omega
  have hcl : a.toNatClampNeg = h := by rw [hh2, nI_clamp (by omega)]
  rw [hcl]
  refine p_first ?_
  refine p_excessB hC hW hhH (back0 ?_)
  rw [mc]
  refine p_inT 1 ((N : Int) - 1) rfl (by rw [t64, z_nm1 (by omega)]) e (b_n1 (p_plain mc hN (fun g hg => ?_)))
  rw [hh2, hf2]
  refine p_excessOf (hM.scratch (by omega) g) hW hhH hfN (z_og1 N hg) ?_
  have q1 : y_pB D N h (((1 : Int32) <<< (nI face &&& 31)) - (1 : Int32)) = y_pF D N h id face := z_bFid _ _ (D 2) (by omega) (by omega) hfN hN
  have q2 : y_wB D N h (((1 : Int32) <<< (nI face &&& 31)) - (1 : Int32)) = y_wF D N h id face := z_bFid _ _ (D 3) (by omega) (by omega) hfN hN
  rw [q1, q2]
  exact hQ _ _ D (hC.scratch (by omega) g) (hM.scratch (by omega) g) hV

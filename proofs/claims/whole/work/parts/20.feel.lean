/-! ===== sums of resists ===== -/
def z_sm (f : Nat → Int32) : Nat → Int32
  | 0 => 0
  | k + 1 => z_sm f k + f k
def z_ss (f : Nat → Int32) (s : Int32) : Nat → Int32
  | 0 => 0
  | k + 1 => if s &&& ((1 : Int32) <<< (nI k &&& 31)) = 0 then z_ss f s k else z_ss f s k + f k
theorem z_first (m k : Nat) (hm : m ≤ 6) (hk : k < 6) : (((1 : Int32) <<< (nI m &&& 31)) - (1 : Int32)) &&& ((1 : Int32) <<< (nI k &&& 31)) = 0 ↔ m ≤ k := by
  have key : ∀ (m : Fin 7) (k : Fin 6), (((1 : Int32) <<< (nI m.val &&& 31)) - (1 : Int32)) &&& ((1 : Int32) <<< (nI k.val &&& 31)) = 0 ↔ m.val ≤ k.val := by decide +kernel
  exact key ⟨m, by omega⟩ ⟨k, hk⟩
theorem z_ss_first (f : Nat → Int32) {m : Nat} (hm : m ≤ 6) : ∀ k, k ≤ 6 → z_ss f (((1 : Int32) <<< (nI m &&& 31)) - (1 : Int32)) k = z_sm f (min m k)
  | 0, _ => by simp [z_ss, z_sm]
  | k + 1, h => by
    rw [z_ss, z_ss_first f hm k (by omega)]
    by_cases c : m ≤ k
    · rw [if_pos ((z_first m k hm (by omega)).mpr c), show min m k = min m (k + 1) by omega]
    · rw [if_neg (fun z => c ((z_first m k hm (by omega)).mp z)), show min m k = k by omega, show min m (k + 1) = k + 1 by omega]
      rfl
theorem p_resistOf {b a N : Nat} {s : Int32} {mem : q_Mem} {Q : Int32 → q_Mem → Prop} (hn : mem b 11 = nI N) (hN : N ≤ 6) (ha : q_al a = 6) (h : Q (z_ss (mem a) s N) mem) : wp_X1_resistOf b a s mem Q := by
  unfold wp_X1_resistOf wp_X1_resistOf_5
  refine w_lp2 N (fun _ => True) (fun k => z_ss (mem a) s k) nI (fun _ => mem) (body := fun K y1 y2 m => wp_X1_resistOf_5_b K b a s y1 y2 m Q) trivial rfl nI_0.symm rfl (fun k hk _ K hK => ?_)
  unfold wp_X1_resistOf_5_b wp_X1_resistOf_36 wp_X1_resistOf_30
  rw [hn, z_nle2 (by omega) (by omega)]
  refine ⟨fun c => ?_, fun c => ?_⟩
  · rw [show k = N by omega]; exact h
  · have hK' := hK (by omega) trivial
    simp only [z_ss] at hK'
    refine ⟨fun d => ?_, fun d => ⟨by rw [ha]; exact in_nI (by omega) (by omega), ?_⟩⟩
    · rintro x rfl
      rw [nI_1]
      rw [if_pos d] at hK'
      exact hK'
    · rintro x rfl
      rintro y rfl
      rw [nI_1, nI_clamp (by omega)]
      rw [if_neg d] at hK'
      exact hK'
theorem p_heatOf {k0 : Nat} {mem : q_Mem} {Q : Int32 → q_Mem → Prop} (hN : k0 ≤ 6) (h : Q (z_sm (mem 75) k0) mem) : wp_X3_heatOf (nI k0) mem Q := by
  unfold wp_X3_heatOf wp_X3_heatOf_4
  refine w_lp2 k0 (fun _ => True) (fun k => z_sm (mem 75) k) nI (fun _ => mem) (body := fun K y1 y2 m => wp_X3_heatOf_4_b K (nI k0) y1 y2 m Q) trivial rfl nI_0.symm rfl (fun k hk _ K hK => ?_)
  unfold wp_X3_heatOf_4_b wp_X3_heatOf_24
  rw [z_nle2 (by omega) (by omega)]
  refine ⟨fun c => ?_, fun c => ⟨by rw [show q_al 75 = 6 from rfl]; exact in_nI (by omega) (by omega), ?_⟩⟩
  · rw [show k = k0 by omega]; exact h
  · rintro x rfl
    rintro y rfl
    rw [nI_1, nI_clamp (by omega)]
    exact hK (by omega) trivial
theorem z_sm_rng {f : Nat → Int32} {N : Nat} (h : ∀ i, i < N → 1 ≤ (f i).toInt ∧ (f i).toInt ≤ 50) (hN : N ≤ 6) : ∀ k, k ≤ N → (k : Int) ≤ (z_sm f k).toInt ∧ (z_sm f k).toInt ≤ 50 * k
  | 0, _ => by simp [z_sm]
  | k + 1, hk => by
    have a := z_sm_rng h hN k (by omega)
    have b := h k (by omega)
    rw [z_sm, z_add (by omega) (by omega)]
    omega
/-! ===== warmth, frost, mould ===== -/
abbrev z_Tr : Type := (Nat → Int32) × (Nat → Int32) × (Nat → Int32)
def z_wv (N : Nat) (he : Nat → Int32) (o n : Int32) (i : Nat) : Int32 := o + z_fl ((n - o) * (((2 : Int32) + (2 : Int32) * z_sm he i) + he i)) ((4 : Int32) + (2 : Int32) * z_sm he N)
def z_mo (m : Int32) (grow : Prop) [Decidable grow] : Int32 := if grow then (if (1000 : Int32) < m + 1 then 1000 else m + 1) else (if m - 1 < (0 : Int32) then 0 else m - 1)
def z_fe (N : Nat) (ro he wa dm : Nat → Int32) (o n : Int32) (i : Nat) (t : z_Tr) : z_Tr :=
  ((if ¬ 0 ≤ z_wv N he o n i ∧ ¬ (10 : Int32) * wa i ≤ (9 : Int32) * ro i then upd t.1 i (t.1 i + 1) else t.1), upd t.2.1 i (z_mo (t.2.1 i) (¬ dm i < 800 ∧ ¬ z_wv N he o n i < 5)), upd t.2.2 i (z_wv N he o n i))
def z_feel (N : Nat) (ro he wa dm : Nat → Int32) (o n : Int32) (t : z_Tr) : Nat → z_Tr
  | 0 => t
  | k + 1 => z_fe N ro he wa dm o n k (z_feel N ro he wa dm o n t k)
def z_MR (N : Nat) (mo : Nat → Int32) : Prop := ∀ i, i < N → 0 ≤ (mo i).toInt ∧ (mo i).toInt ≤ 1000
theorem z_mor {m : Int32} {g : Prop} [Decidable g] (h : 0 ≤ m.toInt ∧ m.toInt ≤ 1000) : 0 ≤ (z_mo m g).toInt ∧ (z_mo m g).toInt ≤ 1000 := by
  have a1 : (m + 1).toInt = m.toInt + 1 := z_add (by rw [t_1]; omega) (by rw [t_1]; omega)
  have a2 : (m - 1).toInt = m.toInt - 1 := z_sub (by rw [t_1]; omega) (by rw [t_1]; omega)
  unfold z_mo
  by_cases c : g
  · rw [if_pos c]
    by_cases d : (1000 : Int32) < m + 1
    · rw [if_pos d, t_1000]; omega
    · rw [if_neg d, a1]
      have := z_nlt d
      rw [a1, t_1000] at this
      omega
  · rw [if_neg c]
    by_cases d : m - 1 < (0 : Int32)
    · rw [if_pos d, t_0]; omega
    · rw [if_neg d, a2]
      have := z_nlt d
      rw [a2, t_0] at this
      omega
theorem z_feel_MR {N : Nat} {ro he wa dm : Nat → Int32} {o n : Int32} {t : z_Tr} (h : z_MR N t.2.1) : ∀ k, z_MR N (z_feel N ro he wa dm o n t k).2.1
  | 0 => h
  | k + 1 => fun i hi => by
    show 0 ≤ (upd _ k _ i).toInt ∧ (upd _ k _ i).toInt ≤ 1000
    by_cases c : i = k
    · subst c
      rw [upd_s]
      exact z_mor (z_feel_MR h i i hi)
    · rw [upd_n c]
      exact z_feel_MR h k i hi
def z_M3 (mem : q_Mem) (c1 c2 c3 : Nat) (t : z_Tr) : q_Mem := q_set (q_set (q_set mem c1 t.1) c2 t.2.1) c3 t.2.2
theorem z_M3_n {mem : q_Mem} {c1 c2 c3 k : Nat} {t : z_Tr} (h1 : k ≠ c1) (h2 : k ≠ c2) (h3 : k ≠ c3) : z_M3 mem c1 c2 c3 t k = mem k := by
  unfold z_M3
  rw [q_set_n h3, q_set_n h2, q_set_n h1]
theorem z_M3_1 {mem : q_Mem} {c1 c2 c3 : Nat} (h12 : c1 ≠ c2) (h13 : c1 ≠ c3) (t : z_Tr) : z_M3 mem c1 c2 c3 t c1 = t.1 := by
  unfold z_M3
  rw [q_set_n h13, q_set_n h12, q_set_s]
theorem z_M3_2 {mem : q_Mem} {c1 c2 c3 : Nat} (h23 : c2 ≠ c3) (t : z_Tr) : z_M3 mem c1 c2 c3 t c2 = t.2.1 := by
  unfold z_M3
  rw [q_set_n h23, q_set_s]
theorem z_M3_3 (mem : q_Mem) (c1 c2 c3 : Nat) (t : z_Tr) : z_M3 mem c1 c2 c3 t c3 = t.2.2 := by
  unfold z_M3
  rw [q_set_s]
theorem z_M3_s1 {mem : q_Mem} {c1 c2 c3 : Nat} (h12 : c1 ≠ c2) (h13 : c1 ≠ c3) (a b c f : Nat → Int32) : q_set (z_M3 mem c1 c2 c3 (a, b, c)) c1 f = z_M3 mem c1 c2 c3 (f, b, c) := by
  unfold z_M3
  rw [q_set_comm (Ne.symm h13), q_set_comm (Ne.symm h12), q_set_set]
theorem z_M3_s2 {mem : q_Mem} {c1 c2 c3 : Nat} (h23 : c2 ≠ c3) (a b c f : Nat → Int32) : q_set (z_M3 mem c1 c2 c3 (a, b, c)) c2 f = z_M3 mem c1 c2 c3 (a, f, c) := by
  unfold z_M3
  rw [q_set_comm (Ne.symm h23), q_set_set]
theorem z_M3_s3 (mem : q_Mem) (c1 c2 c3 : Nat) (a b c f : Nat → Int32) : q_set (z_M3 mem c1 c2 c3 (a, b, c)) c3 f = z_M3 mem c1 c2 c3 (a, b, f) := by
  unfold z_M3
  rw [q_set_set]
theorem z_WO_M3 {b N : Nat} {mem : q_Mem} {ro st cu co : Nat → Int32} (t : z_Tr) (h : z_WO b mem N ro st cu co) : z_WO b (z_M3 mem (b + 10) (b + 11) (b + 12) t) N ro st cu co := by
  obtain ⟨h1, h2, h3, h4, h5⟩ := h
  exact ⟨by rw [z_M3_n (by omega) (by omega) (by omega)]; exact h1, by rw [z_M3_n (by omega) (by omega) (by omega)]; exact h2, by rw [z_M3_n (by omega) (by omega) (by omega)]; exact h3, by rw [z_M3_n (by omega) (by omega) (by omega)]; exact h4, fun c k hc hk => by rw [z_M3_n (by omega) (by omega) (by omega)]; exact h5 c k hc hk⟩
theorem z_MO_M3 {N : Nat} {mem : q_Mem} {ro st cu co : Nat → Int32} (t : z_Tr) (h : z_MO mem N ro st cu co) : z_MO (z_M3 mem 78 79 80 t) N ro st cu co := by
  obtain ⟨h1, h2, h3, h4, h5⟩ := h
  exact ⟨by rw [z_M3_n (by omega) (by omega) (by omega)]; exact h1, by rw [z_M3_n (by omega) (by omega) (by omega)]; exact h2, by rw [z_M3_n (by omega) (by omega) (by omega)]; exact h3, by rw [z_M3_n (by omega) (by omega) (by omega)]; exact h4, by rw [z_M3_n (by omega) (by omega) (by omega)]; exact h5⟩
/-! the class: one layer -/
theorem p_frost {b N i : Nat} (hb : q_WB b) {mem : q_Mem} {ro st cu co wa fr mo wm : Nat → Int32} {Q : q_Mem → Prop} (hW : z_WO b mem N ro st cu co) (hw : mem (b + 9) = wa) (hi : i < 6) (h : Q (z_M3 mem (b + 10) (b + 11) (b + 12) ((if ¬ 0 ≤ wm i ∧ ¬ (10 : Int32) * wa i ≤ (9 : Int32) * ro i then upd fr i (fr i + 1) else fr), mo, wm))) : wp_X1_countFrost b (nI i) (z_M3 mem (b + 10) (b + 11) (b + 12) (fr, mo, wm)) Q := by
  have hW2 := z_WO_M3 (fr, mo, wm) hW
  have hcl : (nI i).toNatClampNeg = i := nI_clamp (by omega)
  have hin : vp_in (nI i) 6 := in_nI hi (by omega)
  unfold wp_X1_countFrost
  simp only [hcl, al_w12 hb, al_w9 hb, al_w5 hb, al_w10 hb, hin, true_and, z_M3_3, hW2.2.1, z_M3_1 (show b + 10 ≠ b + 11 by omega) (show b + 10 ≠ b + 12 by omega), z_M3_n (show b + 9 ≠ b + 10 by omega) (show b + 9 ≠ b + 11 by omega) (show b + 9 ≠ b + 12 by omega), hw]
  refine ⟨fun c => ?_, fun c => ⟨fun d => ?_, fun d => ?_⟩⟩
  · rw [if_neg (fun z => z.1 c)] at h; exact h
  · rw [if_neg (fun z => z.2 d)] at h; exact h
  · rintro m rfl
    rw [if_pos ⟨c, d⟩] at h
    rw [z_M3_s1 (by omega) (by omega)]
    exact h
theorem p_mould {b N i : Nat} (hb : q_WB b) {mem : q_Mem} {ro st cu co wa fr mo wm : Nat → Int32} {Q : q_Mem → Prop} (hW : z_WO b mem N ro st cu co) (hw : mem (b + 9) = wa) (hC : z_CR co) (hi : i < 6) (hL : z_LR ro cu wa i) (h : Q (z_M3 mem (b + 10) (b + 11) (b + 12) (fr, upd mo i (z_mo (mo i) (¬ z_dm co ro cu wa i < 800 ∧ ¬ wm i < 5)), wm))) : wp_X1_countMould b (nI i) (z_M3 mem (b + 10) (b + 11) (b + 12) (fr, mo, wm)) Q := by
  have hW2 := z_WO_M3 (fr, mo, wm) hW
  have hcl : (nI i).toNatClampNeg = i := nI_clamp (by omega)
  have hin : vp_in (nI i) 6 := in_nI hi (by omega)
  unfold wp_X1_countMould wp_X1_countMould_44
  refine p_dampOf hb hW2 (by rw [z_M3_n (by omega) (by omega) (by omega)]; exact hw) hC hi hL ?_
  simp only [hcl, al_w12 hb, al_w11 hb, hin, true_and, z_M3_3, z_M3_2 (show b + 11 ≠ b + 12 by omega)]
  unfold z_mo at h
  refine ⟨fun c => ?_, fun c => ⟨fun d => ?_, fun d => ?_⟩⟩
  · rintro m rfl
    rw [if_neg (fun z => z.1 c)] at h
    rw [z_M3_s2 (by omega)]
    exact h
  · rintro m rfl
    rw [if_neg (fun z => z.2 d)] at h
    rw [z_M3_s2 (by omega)]
    exact h
  · rintro m rfl
    rw [if_pos ⟨c, d⟩] at h
    rw [z_M3_s2 (by omega)]
    exact h
theorem p_feelWarmth {b N : Nat} (hb : q_WB b) {o n : Int32} {mem : q_Mem} {ro st cu co wa he : Nat → Int32} {t : z_Tr} {Q : q_Mem → Prop} (hW : z_WO b mem N ro st cu co) (hw : mem (b + 9) = wa) (hhe : mem (b + 7) = he) (hR : z_RG N ro st cu wa) (hH : ∀ i, i < N → 1 ≤ (he i).toInt ∧ (he i).toInt ≤ 50) (hC : z_CR co) (h : Q (z_M3 mem (b + 10) (b + 11) (b + 12) (z_feel N ro he wa (z_dm co ro cu wa) o n t N))) : wp_X1_feelWarmth b o n (z_M3 mem (b + 10) (b + 11) (b + 12) t) Q := by
  obtain ⟨hN, hL, hS⟩ := id hR
  have hpos : 0 < ((4 : Int32) + (2 : Int32) * z_sm he N).toInt := by
    have a := z_sm_rng hH hN N (Nat.le_refl _)
    have e : ((2 : Int32) * z_sm he N).toInt = 2 * (z_sm he N).toInt := z_mul (by rw [t_2]; omega) (by rw [t_2]; omega)
    rw [z_add (by rw [e, t_4]; omega) (by rw [e, t_4]; omega), e, t_4]
    omega
  unfold wp_X1_feelWarmth wp_X1_firstLayers
  rw [(z_WO_M3 t hW).1]
  refine p_resistOf (z_WO_M3 t hW).1 hN (al_w7 hb) ?_
  have ehe : ∀ u : z_Tr, z_M3 mem (b + 10) (b + 11) (b + 12) u (b + 7) = he := fun u => by rw [z_M3_n (by omega) (by omega) (by omega)]; exact hhe
  rw [ehe, z_ss_first he hN N hN, show min N N = N by omega]
  rintro x rfl
  unfold wp_X1_feelWarmth_26
  refine w_lp2 N (fun _ => True) (fun k => z_sm he k) nI (fun k => z_M3 mem (b + 10) (b + 11) (b + 12) (z_feel N ro he wa (z_dm co ro cu wa) o n t k)) (body := fun K y1 y2 m => wp_X1_feelWarmth_26_b K b o n ((4 : Int32) + (2 : Int32) * z_sm he N) y1 y2 m Q) trivial rfl nI_0.symm rfl (fun k hk _ K hK => ?_)
  have hW2 := z_WO_M3 (z_feel N ro he wa (z_dm co ro cu wa) o n t k) hW
  unfold wp_X1_feelWarmth_26_b
  rw [hW2.1, z_nle2 (by omega) (by omega), ehe]
  refine ⟨fun c => by rw [show k = N by omega]; exact h, fun c => ?_⟩
  have hk6 : k < 6 := by omega
  have hcl : (nI k).toNatClampNeg = k := nI_clamp (by omega)
  have hin : vp_in (nI k) 6 := in_nI hk6 (by omega)
  simp only [hcl, al_w7 hb, al_w12 hb, hin, true_and]
  rintro x rfl
  refine p_partDown hpos ?_
  generalize hu : z_feel N ro he wa (z_dm co ro cu wa) o n t k = u at *
  obtain ⟨fr, mo, wm⟩ := u
  rw [z_M3_3]
  rintro m rfl
  rw [z_M3_s3]
  refine p_frost hb hW hw hk6 ?_
  refine p_mould hb hW hw hC hk6 (hL k (by omega)) ?_
  rw [ehe]
  rintro x rfl
  rintro y rfl
  rw [nI_1]
  have hK2 := hK (by omega) trivial
  have e : z_feel N ro he wa (z_dm co ro cu wa) o n t (k + 1) = z_fe N ro he wa (z_dm co ro cu wa) o n k (fr, mo, wm) := by rw [z_feel, hu]
  rw [e] at hK2
  simp only [upd_s]
  exact hK2

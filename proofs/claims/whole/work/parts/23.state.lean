/-! ===== the common state D: numbers in the reference's layout (D k = its cell 72 + k); how class and reference hold it ===== -/
def y_C (mem D : q_Mem) : Prop :=
  (mem 1 11 = D 0 0 ∧ mem 0 4 = D 0 11 ∧ mem 0 5 = D 0 12 ∧ mem 0 6 = D 0 13 ∧ mem 0 8 = D 0 19 ∧ mem 0 9 = D 0 24) ∧ (∀ k, k < 8 → mem (6 + k) = D (1 + k)) ∧ mem 14 = D 10 ∧
  (∀ c k, c < 3 → k < 5 → mem (3 + c) k = D 9 (5 * c + k)) ∧ (∀ i j, i < 24 → j < 5 → mem (35 + i) j = D 11 (5 * i + j)) ∧ ∀ i j, i < 12 → j < 4 → mem (60 + i) j = D (16 + j) i
def y_M (mem D : q_Mem) : Prop :=
  (mem 72 0 = D 0 0 ∧ mem 72 11 = D 0 11 ∧ mem 72 12 = D 0 12 ∧ mem 72 13 = D 0 13 ∧ mem 72 19 = D 0 19 ∧ mem 72 24 = D 0 24) ∧ (∀ k, k < 8 → mem (73 + k) = D (1 + k)) ∧ mem 82 = D 10 ∧ mem 81 = D 9 ∧ mem 83 = D 11 ∧ ∀ j, j < 4 → mem (88 + j) = D (16 + j)
/-- the other side's cells stay -/
def y_lo (mem m : q_Mem) : Prop := ∀ k, k < 72 → m k = mem k
def y_hi (mem m : q_Mem) : Prop := ∀ k, 72 ≤ k → m k = mem k
theorem y_lo.rf (mem : q_Mem) : y_lo mem mem := fun _ _ => rfl
theorem y_hi.rf (mem : q_Mem) : y_hi mem mem := fun _ _ => rfl
theorem y_lo.set {mem m : q_Mem} {c : Nat} {f : Nat → Int32} (h : y_lo mem m) (hc : 72 ≤ c) : y_lo mem (q_set m c f) := fun k hk => by rw [q_set_n (by omega)]; exact h k hk
theorem y_hi.set {mem m : q_Mem} {c : Nat} {f : Nat → Int32} (h : y_hi mem m) (hc : c < 72) : y_hi mem (q_set m c f) := fun k hk => by rw [q_set_n (by omega)]; exact h k hk
theorem y_lo.tr {a b c : q_Mem} (h : y_lo a b) (g : y_lo b c) : y_lo a c := fun k hk => (g k hk).trans (h k hk)
theorem y_hi.tr {a b c : q_Mem} (h : y_hi a b) (g : y_hi b c) : y_hi a c := fun k hk => (g k hk).trans (h k hk)
theorem y_C.kept {mem m D : q_Mem} (h : y_C mem D) (g : y_lo mem m) : y_C m D := by
  obtain ⟨⟨a1, a2, a3, a4, a5, a6⟩, b, c, d, e, f⟩ := h
  exact ⟨⟨by rw [g 1 (by omega)]; exact a1, by rw [g 0 (by omega)]; exact a2, by rw [g 0 (by omega)]; exact a3, by rw [g 0 (by omega)]; exact a4, by rw [g 0 (by omega)]; exact a5, by rw [g 0 (by omega)]; exact a6⟩, fun k hk => by rw [g _ (by omega)]; exact b k hk, by rw [g _ (by omega)]; exact c, fun x k hx hk => by rw [g _ (by omega)]; exact d x k hx hk, fun i j hi hj => by rw [g _ (by omega)]; exact e i j hi hj, fun i j hi hj => by rw [g _ (by omega)]; exact f i j hi hj⟩
theorem y_M.kept {mem m D : q_Mem} (h : y_M mem D) (g : y_hi mem m) : y_M m D := by
  obtain ⟨⟨a1, a2, a3, a4, a5, a6⟩, b, c, d, e, f⟩ := h
  exact ⟨⟨by rw [g _ (by omega)]; exact a1, by rw [g _ (by omega)]; exact a2, by rw [g _ (by omega)]; exact a3, by rw [g _ (by omega)]; exact a4, by rw [g _ (by omega)]; exact a5, by rw [g _ (by omega)]; exact a6⟩, fun k hk => by rw [g _ (by omega)]; exact b k hk, by rw [g _ (by omega)]; exact c, by rw [g _ (by omega)]; exact d, by rw [g _ (by omega)]; exact e, fun j hj => by rw [g _ (by omega)]; exact f j hj⟩
/-! the class's cells, one by one -/
theorem y_C.scratch {mem D : q_Mem} (h : y_C mem D) {c : Nat} (hc : c = 2 ∨ c = 15 ∨ (16 ≤ c ∧ c < 35) ∨ c = 59 ∨ 72 ≤ c) (f : Nat → Int32) : y_C (q_set mem c f) D := by
  obtain ⟨⟨a1, a2, a3, a4, a5, a6⟩, b, s, d, e, r⟩ := h
  exact ⟨⟨by rw [q_set_n (by omega)]; exact a1, by rw [q_set_n (by omega)]; exact a2, by rw [q_set_n (by omega)]; exact a3, by rw [q_set_n (by omega)]; exact a4, by rw [q_set_n (by omega)]; exact a5, by rw [q_set_n (by omega)]; exact a6⟩, fun k hk => by rw [q_set_n (by omega)]; exact b k hk, by rw [q_set_n (by omega)]; exact s, fun x k hx hk => by rw [q_set_n (by omega)]; exact d x k hx hk, fun i j hi hj => by rw [q_set_n (by omega)]; exact e i j hi hj, fun i j hi hj => by rw [q_set_n (by omega)]; exact r i j hi hj⟩
theorem y_C.size {mem D : q_Mem} (h : y_C mem D) (v : Int32) : y_C (q_set mem 1 (upd (mem 1) 11 v)) (q_set D 0 (upd (D 0) 0 v)) := by
  obtain ⟨⟨a1, a2, a3, a4, a5, a6⟩, b, s, d, e, r⟩ := h
  refine ⟨⟨by rw [q_set_s, q_set_s, upd_s, upd_s], ?_, ?_, ?_, ?_, ?_⟩, fun k hk => ?_, ?_, fun x k hx hk => ?_, fun i j hi hj => ?_, fun i j hi hj => ?_⟩
  · rw [q_set_n (by omega), q_set_s, upd_n (by omega)]; exact a2
  · rw [q_set_n (by omega), q_set_s, upd_n (by omega)]; exact a3
  · rw [q_set_n (by omega), q_set_s, upd_n (by omega)]; exact a4
  · rw [q_set_n (by omega), q_set_s, upd_n (by omega)]; exact a5
  · rw [q_set_n (by omega), q_set_s, upd_n (by omega)]; exact a6
  · rw [q_set_n (by omega), q_set_n (by omega)]; exact b k hk
  · rw [q_set_n (by omega), q_set_n (by omega)]; exact s
  · rw [q_set_n (by omega), q_set_n (by omega)]; exact d x k hx hk
  · rw [q_set_n (by omega), q_set_n (by omega)]; exact e i j hi hj
  · rw [q_set_n (by omega), q_set_n (by omega)]; exact r i j hi hj
theorem y_C.field {mem D : q_Mem} (h : y_C mem D) {cf df : Nat} (hf : (cf = 4 ∧ df = 11) ∨ (cf = 5 ∧ df = 12) ∨ (cf = 6 ∧ df = 13) ∨ (cf = 8 ∧ df = 19) ∨ (cf = 9 ∧ df = 24)) (v : Int32) : y_C (q_set mem 0 (upd (mem 0) cf v)) (q_set D 0 (upd (D 0) df v)) := by
  obtain ⟨⟨a1, a2, a3, a4, a5, a6⟩, b, s, d, e, r⟩ := h
  have g : ∀ x y : Nat, mem 0 x = D 0 y → (x = cf ↔ y = df) → q_set mem 0 (upd (mem 0) cf v) 0 x = q_set D 0 (upd (D 0) df v) 0 y := by
    intro x y hxy hi
    rw [q_set_s, q_set_s]
    by_cases c : x = cf
    · rw [c, hi.mp c, upd_s, upd_s]
    · rw [upd_n c, upd_n (fun z => c (hi.mpr z))]; exact hxy
  refine ⟨⟨?_, g 4 11 a2 (by omega), g 5 12 a3 (by omega), g 6 13 a4 (by omega), g 8 19 a5 (by omega), g 9 24 a6 (by omega)⟩, fun k hk => ?_, ?_, fun x k hx hk => ?_, fun i j hi hj => ?_, fun i j hi hj => ?_⟩
  · rw [q_set_n (by omega), q_set_s, upd_n (by omega)]; exact a1
  · rw [q_set_n (by omega), q_set_n (by omega)]; exact b k hk
  · rw [q_set_n (by omega), q_set_n (by omega)]; exact s
  · rw [q_set_n (by omega), q_set_n (by omega)]; exact d x k hx hk
  · rw [q_set_n (by omega), q_set_n (by omega)]; exact e i j hi hj
  · rw [q_set_n (by omega), q_set_n (by omega)]; exact r i j hi hj
theorem y_C.arr {mem D : q_Mem} (h : y_C mem D) {k : Nat} (hk : k < 8) (f : Nat → Int32) : y_C (q_set mem (6 + k) f) (q_set D (1 + k) f) := by
  obtain ⟨⟨a1, a2, a3, a4, a5, a6⟩, b, s, d, e, r⟩ := h
  refine ⟨⟨?_, ?_, ?_, ?_, ?_, ?_⟩, fun j hj => ?_, ?_, fun x j hx hj => ?_, fun i j hi hj => ?_, fun i j hi hj => ?_⟩
  · rw [q_set_n (by omega), q_set_n (by omega)]; exact a1
  · rw [q_set_n (by omega), q_set_n (by omega)]; exact a2
  · rw [q_set_n (by omega), q_set_n (by omega)]; exact a3
  · rw [q_set_n (by omega), q_set_n (by omega)]; exact a4
  · rw [q_set_n (by omega), q_set_n (by omega)]; exact a5
  · rw [q_set_n (by omega), q_set_n (by omega)]; exact a6
  · by_cases c : j = k
    · rw [c, q_set_s, q_set_s]
    · rw [q_set_n (by omega), q_set_n (by omega)]; exact b j hj
  · rw [q_set_n (by omega), q_set_n (by omega)]; exact s
  · rw [q_set_n (by omega), q_set_n (by omega)]; exact d x j hx hj
  · rw [q_set_n (by omega), q_set_n (by omega)]; exact e i j hi hj
  · rw [q_set_n (by omega), q_set_n (by omega)]; exact r i j hi hj
theorem y_C.sums {mem D : q_Mem} (h : y_C mem D) (f : Nat → Int32) : y_C (q_set mem 14 f) (q_set D 10 f) := by
  obtain ⟨⟨a1, a2, a3, a4, a5, a6⟩, b, s, d, e, r⟩ := h
  refine ⟨⟨?_, ?_, ?_, ?_, ?_, ?_⟩, fun j hj => ?_, ?_, fun x j hx hj => ?_, fun i j hi hj => ?_, fun i j hi hj => ?_⟩
  · rw [q_set_n (by omega), q_set_n (by omega)]; exact a1
  · rw [q_set_n (by omega), q_set_n (by omega)]; exact a2
  · rw [q_set_n (by omega), q_set_n (by omega)]; exact a3
  · rw [q_set_n (by omega), q_set_n (by omega)]; exact a4
  · rw [q_set_n (by omega), q_set_n (by omega)]; exact a5
  · rw [q_set_n (by omega), q_set_n (by omega)]; exact a6
  · rw [q_set_n (by omega), q_set_n (by omega)]; exact b j hj
  · rw [q_set_s, q_set_s]
  · rw [q_set_n (by omega), q_set_n (by omega)]; exact d x j hx hj
  · rw [q_set_n (by omega), q_set_n (by omega)]; exact e i j hi hj
  · rw [q_set_n (by omega), q_set_n (by omega)]; exact r i j hi hj
theorem y_C.corner {mem D : q_Mem} (h : y_C mem D) {c k : Nat} (hc : c < 3) (hk : k < 5) (v : Int32) : y_C (q_set mem (3 + c) (upd (mem (3 + c)) k v)) (q_set D 9 (upd (D 9) (5 * c + k) v)) := by
  obtain ⟨⟨a1, a2, a3, a4, a5, a6⟩, b, s, d, e, r⟩ := h
  refine ⟨⟨?_, ?_, ?_, ?_, ?_, ?_⟩, fun j hj => ?_, ?_, fun x j hx hj => ?_, fun i j hi hj => ?_, fun i j hi hj => ?_⟩
  · rw [q_set_n (by omega), q_set_n (by omega)]; exact a1
  · rw [q_set_n (by omega), q_set_n (by omega)]; exact a2
  · rw [q_set_n (by omega), q_set_n (by omega)]; exact a3
  · rw [q_set_n (by omega), q_set_n (by omega)]; exact a4
  · rw [q_set_n (by omega), q_set_n (by omega)]; exact a5
  · rw [q_set_n (by omega), q_set_n (by omega)]; exact a6
  · rw [q_set_n (by omega), q_set_n (by omega)]; exact b j hj
  · rw [q_set_n (by omega), q_set_n (by omega)]; exact s
  · rw [q_set_s]
    by_cases z : x = c
    · subst z
      rw [q_set_s]
      by_cases z2 : j = k
      · rw [z2, upd_s, upd_s]
      · rw [upd_n z2, upd_n (by omega)]; exact d x j hx hj
    · rw [q_set_n (by omega), upd_n (by omega)]; exact d x j hx hj
  · rw [q_set_n (by omega), q_set_n (by omega)]; exact e i j hi hj
  · rw [q_set_n (by omega), q_set_n (by omega)]; exact r i j hi hj
theorem y_C.hour {mem D : q_Mem} (h : y_C mem D) {c k : Nat} (hc : c < 24) (hk : k < 5) (v : Int32) : y_C (q_set mem (35 + c) (upd (mem (35 + c)) k v)) (q_set D 11 (upd (D 11) (5 * c + k) v)) := by
  obtain ⟨⟨a1, a2, a3, a4, a5, a6⟩, b, s, d, e, r⟩ := h
  refine ⟨⟨?_, ?_, ?_, ?_, ?_, ?_⟩, fun j hj => ?_, ?_, fun x j hx hj => ?_, fun x j hx hj => ?_, fun i j hi hj => ?_⟩
  · rw [q_set_n (by omega), q_set_n (by omega)]; exact a1
  · rw [q_set_n (by omega), q_set_n (by omega)]; exact a2
  · rw [q_set_n (by omega), q_set_n (by omega)]; exact a3
  · rw [q_set_n (by omega), q_set_n (by omega)]; exact a4
  · rw [q_set_n (by omega), q_set_n (by omega)]; exact a5
  · rw [q_set_n (by omega), q_set_n (by omega)]; exact a6
  · rw [q_set_n (by omega), q_set_n (by omega)]; exact b j hj
  · rw [q_set_n (by omega), q_set_n (by omega)]; exact s
  · rw [q_set_n (by omega), q_set_n (by omega)]; exact d x j hx hj
  · rw [q_set_s]
    by_cases z : x = c
    · subst z
      rw [q_set_s]
      by_cases z2 : j = k
      · rw [z2, upd_s, upd_s]
      · rw [upd_n z2, upd_n (by omega)]; exact e x j hx hj
    · rw [q_set_n (by omega), upd_n (by omega)]; exact e x j hx hj
  · rw [q_set_n (by omega), q_set_n (by omega)]; exact r i j hi hj
theorem y_C.read {mem D : q_Mem} (h : y_C mem D) {c k : Nat} (hc : c < 12) (hk : k < 4) (v : Int32) : y_C (q_set mem (60 + c) (upd (mem (60 + c)) k v)) (q_set D (16 + k) (upd (D (16 + k)) c v)) := by
  obtain ⟨⟨a1, a2, a3, a4, a5, a6⟩, b, s, d, e, r⟩ := h
  refine ⟨⟨?_, ?_, ?_, ?_, ?_, ?_⟩, fun j hj => ?_, ?_, fun x j hx hj => ?_, fun x j hx hj => ?_, fun i j hi hj => ?_⟩
  · rw [q_set_n (by omega), q_set_n (by omega)]; exact a1
  · rw [q_set_n (by omega), q_set_n (by omega)]; exact a2
  · rw [q_set_n (by omega), q_set_n (by omega)]; exact a3
  · rw [q_set_n (by omega), q_set_n (by omega)]; exact a4
  · rw [q_set_n (by omega), q_set_n (by omega)]; exact a5
  · rw [q_set_n (by omega), q_set_n (by omega)]; exact a6
  · rw [q_set_n (by omega), q_set_n (by omega)]; exact b j hj
  · rw [q_set_n (by omega), q_set_n (by omega)]; exact s
  · rw [q_set_n (by omega), q_set_n (by omega)]; exact d x j hx hj
  · rw [q_set_n (by omega), q_set_n (by omega)]; exact e x j hx hj
  · by_cases z : i = c
    · subst z
      rw [q_set_s]
      by_cases z2 : j = k
      · rw [z2, q_set_s, upd_s, upd_s]
      · rw [upd_n z2, q_set_n (by omega)]; exact r i j hi hj
    · rw [q_set_n (by omega)]
      by_cases z2 : j = k
      · rw [z2, q_set_s, upd_n z, ← z2]; exact r i j hi hj
      · rw [q_set_n (by omega)]; exact r i j hi hj
/-! the reference's cells -/
theorem y_M.scratch {mem D : q_Mem} (h : y_M mem D) {c : Nat} (hc : c < 72 ∨ (84 ≤ c ∧ c < 88) ∨ 92 ≤ c) (f : Nat → Int32) : y_M (q_set mem c f) D := by
  obtain ⟨⟨a1, a2, a3, a4, a5, a6⟩, b, s, d, e, r⟩ := h
  exact ⟨⟨by rw [q_set_n (by omega)]; exact a1, by rw [q_set_n (by omega)]; exact a2, by rw [q_set_n (by omega)]; exact a3, by rw [q_set_n (by omega)]; exact a4, by rw [q_set_n (by omega)]; exact a5, by rw [q_set_n (by omega)]; exact a6⟩, fun k hk => by rw [q_set_n (by omega)]; exact b k hk, by rw [q_set_n (by omega)]; exact s, by rw [q_set_n (by omega)]; exact d, by rw [q_set_n (by omega)]; exact e, fun j hj => by rw [q_set_n (by omega)]; exact r j hj⟩
theorem y_M.field {mem D : q_Mem} (h : y_M mem D) (df : Nat) (v : Int32) : y_M (q_set mem 72 (upd (mem 72) df v)) (q_set D 0 (upd (D 0) df v)) := by
  obtain ⟨⟨a1, a2, a3, a4, a5, a6⟩, b, s, d, e, r⟩ := h
  have g : ∀ y : Nat, mem 72 y = D 0 y → q_set mem 72 (upd (mem 72) df v) 72 y = q_set D 0 (upd (D 0) df v) 0 y := by
    intro y hxy
    rw [q_set_s, q_set_s]
    by_cases c : y = df
    · rw [c, upd_s, upd_s]
    · rw [upd_n c, upd_n c]; exact hxy
  exact ⟨⟨g 0 a1, g 11 a2, g 12 a3, g 13 a4, g 19 a5, g 24 a6⟩, fun k hk => by rw [q_set_n (by omega), q_set_n (by omega)]; exact b k hk, by rw [q_set_n (by omega), q_set_n (by omega)]; exact s, by rw [q_set_n (by omega), q_set_n (by omega)]; exact d, by rw [q_set_n (by omega), q_set_n (by omega)]; exact e, fun j hj => by rw [q_set_n (by omega), q_set_n (by omega)]; exact r j hj⟩
theorem y_M.cell {mem D : q_Mem} (h : y_M mem D) {k : Nat} (hk : 1 ≤ k) (hk2 : k < 20) (f : Nat → Int32) : y_M (q_set mem (72 + k) f) (q_set D k f) := by
  obtain ⟨⟨a1, a2, a3, a4, a5, a6⟩, b, s, d, e, r⟩ := h
  have g : ∀ x y : Nat, mem x = D y → x = 72 + y → q_set mem (72 + k) f x = q_set D k f y := by
    intro x y hxy hx
    by_cases c : y = k
    · rw [hx, c, q_set_s, q_set_s]
    · rw [q_set_n (by omega), q_set_n c]; exact hxy
  refine ⟨⟨?_, ?_, ?_, ?_, ?_, ?_⟩, fun j hj => g _ _ (b j hj) (by omega), g 82 10 s rfl, g 81 9 d rfl, g 83 11 e rfl, fun j hj => g _ _ (r j hj) (by omega)⟩
  · rw [q_set_n (by omega), q_set_n (by omega)]; exact a1
  · rw [q_set_n (by omega), q_set_n (by omega)]; exact a2
  · rw [q_set_n (by omega), q_set_n (by omega)]; exact a3
  · rw [q_set_n (by omega), q_set_n (by omega)]; exact a4
  · rw [q_set_n (by omega), q_set_n (by omega)]; exact a5
  · rw [q_set_n (by omega), q_set_n (by omega)]; exact a6
/-! what holds of the numbers -/
def y_V (D : q_Mem) : Prop := ∃ N H x s r f : Nat, (D 0 0 = nI N ∧ D 0 11 = nI H ∧ D 0 12 = nI x ∧ D 0 13 = nI s ∧ D 0 19 = nI r ∧ D 0 24 = nI f) ∧ (H ≤ 24 ∧ (x = 0 ∨ x < H) ∧ s ≤ 10 ∧ r ≤ 12 ∧ f ≤ 30) ∧ z_RG N (D 1) (D 2) (D 4) (D 5) ∧ z_HE N (D 3) ∧ z_MR N (D 7) ∧ z_CR (D 9) ∧
  (∀ i, i < H → z_HR (D 11 (5 * i)) (D 11 (5 * i + 1)) (D 11 (5 * i + 2)) (D 11 (5 * i + 3)) (D 11 (5 * i + 4))) ∧ ∀ i, i < r → ∃ l b : Nat, D 16 i = nI l ∧ l < N ∧ D 17 i = nI b ∧ 1 ≤ b ∧ b ≤ 100

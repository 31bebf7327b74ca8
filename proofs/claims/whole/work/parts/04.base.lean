
/-! ===== the memory of the class and of the reference: cells by number, each a row of ints; which cells refer to which never changes ===== -/
abbrev q_Mem : Type := Nat → Nat → Int32
abbrev q_Shp : Type := Nat ⊕ (Nat × Nat) ⊕ (Nat × List (Option Nat))
def q_set (mem : q_Mem) (k : Nat) (f : Nat → Int32) : q_Mem := fun j => if j = k then f else mem j
theorem q_set_s (mem : q_Mem) (k : Nat) (f : Nat → Int32) : q_set mem k f k = f := if_pos rfl
theorem q_set_n {mem : q_Mem} {k j : Nat} {f : Nat → Int32} (h : j ≠ k) : q_set mem k f j = mem j := if_neg h
def q_sh : List q_Shp := [.inr (.inr (2, [some 1, some 16, some 31, some 34, none, none, none, some 59, none, none])), .inr (.inr (1, [some 2, some 6, some 7, some 8, some 9, some 10, some 11, some 12, some 13, some 14, some 15, none])), .inr (.inl (3, 3)), .inl 5, .inl 5, .inl 5, .inl 6, .inl 6, .inl 6, .inl 6, .inl 6, .inl 6, .inl 6, .inl 6, .inl 5, .inl 6, .inr (.inr (1, [some 17, some 21, some 22, some 23, some 24, some 25, some 26, some 27, some 28, some 29, some 30, none])), .inr (.inl (3, 18)), .inl 5, .inl 5, .inl 5, .inl 6, .inl 6, .inl 6, .inl 6, .inl 6, .inl 6, .inl 6, .inl 6, .inl 5, .inl 6, .inr (.inr (0, [some 32, some 33])), .inl 64, .inl 6, .inr (.inl (24, 35)), .inl 5, .inl 5, .inl 5, .inl 5, .inl 5, .inl 5, .inl 5, .inl 5, .inl 5, .inl 5, .inl 5, .inl 5, .inl 5, .inl 5, .inl 5, .inl 5, .inl 5, .inl 5, .inl 5, .inl 5, .inl 5, .inl 5, .inl 5, .inl 5, .inr (.inl (12, 60)), .inl 4, .inl 4, .inl 4, .inl 4, .inl 4, .inl 4, .inl 4, .inl 4, .inl 4, .inl 4, .inl 4, .inl 4, .inr (.inr (3, [none, some 73, some 74, some 75, some 76, some 77, some 78, some 79, some 80, some 81, some 82, none, none, none, some 83, some 84, some 85, some 86, some 87, none, some 88, some 89, some 90, some 91, none, some 92])), .inl 6, .inl 6, .inl 6, .inl 6, .inl 6, .inl 6, .inl 6, .inl 6, .inl 15, .inl 5, .inl 120, .inl 6, .inl 6, .inl 6, .inl 48, .inl 12, .inl 12, .inl 12, .inl 12, .inl 5]
def q_al (a : Nat) : Nat := match q_sh[a]? with
  | some (.inl n) => n
  | _ => 0
abbrev q_WB (b : Nat) : Prop := b = 1 ∨ b = 16
def q_wsh (b : Nat) : List q_Shp := [.inr (.inr (1, [some (b + 1), some (b + 5), some (b + 6), some (b + 7), some (b + 8), some (b + 9), some (b + 10), some (b + 11), some (b + 12), some (b + 13), some (b + 14), none])), .inr (.inl (3, b + 2)), .inl 5, .inl 5, .inl 5, .inl 6, .inl 6, .inl 6, .inl 6, .inl 6, .inl 6, .inl 6, .inl 6, .inl 5, .inl 6]
theorem q_sh_wall {b : Nat} (hb : q_WB b) (j : Nat) (hj : j < 15) : q_sh[b + j]? = (q_wsh b)[j]? := by
  rcases hb with rfl | rfl
  · exact match j, hj with | 0, _ => rfl | 1, _ => rfl | 2, _ => rfl | 3, _ => rfl | 4, _ => rfl | 5, _ => rfl | 6, _ => rfl | 7, _ => rfl | 8, _ => rfl | 9, _ => rfl | 10, _ => rfl | 11, _ => rfl | 12, _ => rfl | 13, _ => rfl | 14, _ => rfl | n + 15, h => absurd h (by omega)
  · exact match j, hj with | 0, _ => rfl | 1, _ => rfl | 2, _ => rfl | 3, _ => rfl | 4, _ => rfl | 5, _ => rfl | 6, _ => rfl | 7, _ => rfl | 8, _ => rfl | 9, _ => rfl | 10, _ => rfl | 11, _ => rfl | 12, _ => rfl | 13, _ => rfl | 14, _ => rfl | n + 15, h => absurd h (by omega)
theorem q_sh_w0 {b : Nat} (hb : q_WB b) : q_sh[b]? = some (.inr (.inr (1, [some (b + 1), some (b + 5), some (b + 6), some (b + 7), some (b + 8), some (b + 9), some (b + 10), some (b + 11), some (b + 12), some (b + 13), some (b + 14), none]))) := q_sh_wall hb 0 (by decide)
theorem q_sh_w1 {b : Nat} (hb : q_WB b) : q_sh[b + 1]? = some (.inr (.inl (3, b + 2))) := q_sh_wall hb 1 (by decide)
/-! the world: the cells at their addresses -/
abbrev q_G : Type := va_G × (Nat → Nat) × ClassId × ClassId × (Nat → Prop)
abbrev q_ad (G : q_G) : Nat → Nat := G.2.1
abbrev q_A (G : q_G) : Nat → Prop := G.2.2.2.2
def q_fv (ad : Nat → Nat) (f : Nat → Int32) (j : Nat) (o : Option Nat) : Value := match o with
  | none => .int (f j)
  | some r => .ref (ad r)
def q_e (G : q_G) (f : Nat → Int32) (s : q_Shp) : va_E := match s with
  | .inl n => .inl (G.2.2.1, n, .inl f)
  | .inr (.inl x) => .inl (G.2.2.2.1, x.1, .inr (.inr (.inr (.inr (fun i => if i < x.1 then some (G.2.1 (x.2 + i)) else none)))))
  | .inr (.inr x) => .inr (x.1, x.2.mapIdx (q_fv G.2.1 f))
def q_w (G : q_G) (mem : q_Mem) : va_W := q_sh.mapIdx (fun k s => (G.2.1 k, q_e G (mem k) s))
theorem q_w_get (G : q_G) (mem : q_Mem) {k : Nat} {s : q_Shp} (h : q_sh[k]? = some s) : (q_w G mem)[k]? = some (G.2.1 k, q_e G (mem k) s) := by
  unfold q_w
  rw [List.getElem?_mapIdx, h]
  rfl
theorem q_w_len (G : q_G) (mem : q_Mem) : (q_w G mem).length = q_sh.length := by
  unfold q_w
  rw [List.length_mapIdx]
theorem q_w_set (G : q_G) (mem : q_Mem) {k : Nat} {s : q_Shp} (h : q_sh[k]? = some s) (f : Nat → Int32) : (q_w G mem).set k (G.2.1 k, q_e G f s) = q_w G (q_set mem k f) := by
  have hk : k < q_sh.length := (List.getElem?_eq_some_iff.mp h).1
  apply List.ext_getElem?
  intro j
  by_cases hj : j = k
  · subst hj
    rw [List.getElem?_set_self (by rw [q_w_len]; exact hk), q_w_get G _ h, q_set_s]
  · rw [List.getElem?_set_ne (Ne.symm hj)]
    unfold q_w
    rw [List.getElem?_mapIdx, List.getElem?_mapIdx, q_set_n hj]
theorem q_fv_get (ad : Nat → Nat) (f : Nat → Int32) {fs : List (Option Nat)} {j : Nat} {o : Option Nat} (h : fs[j]? = some o) : (fs.mapIdx (q_fv ad f))[j]? = some (q_fv ad f j o) := by
  rw [List.getElem?_mapIdx, h]
  rfl
theorem q_fv_set (ad : Nat → Nat) (f : Nat → Int32) {fs : List (Option Nat)} {j : Nat} (h : fs[j]? = some none) (x : Int32) : (fs.mapIdx (q_fv ad f)).set j (.int x) = fs.mapIdx (q_fv ad (upd f j x)) := by
  have hj : j < fs.length := (List.getElem?_eq_some_iff.mp h).1
  apply List.ext_getElem?
  intro i
  by_cases hi : i = j
  · subst hi
    rw [List.getElem?_set_self (by rw [List.length_mapIdx]; exact hj), q_fv_get ad _ h]
    simp [q_fv, upd]
  · rw [List.getElem?_set_ne (Ne.symm hi), List.getElem?_mapIdx, List.getElem?_mapIdx]
    cases fs[i]? with
    | none => rfl
    | some o =>
      cases o with
      | none => simp [q_fv, upd, hi]
      | some r => rfl
/-! words of links between nest mates, which a state keeps -/
def q_nf : List (String × Nat × String × String × String × String) := [("WetWalls", 130, "WetWalls$OldWay", "order", "[I", "WetWalls"), ("WetWalls", 54, "WetWalls$Wall", "size", "I", "WetWalls"), ("WetWalls", 64, "WetWalls$Wall", "corners", "[[I", "WetWalls"), ("WetWalls", 71, "WetWalls$Wall", "room", "[I", "WetWalls"), ("WetWalls", 75, "WetWalls$Wall", "held", "[I", "WetWalls"), ("WetWalls", 78, "WetWalls$Wall", "sums", "[I", "WetWalls"), ("WetWalls$OldWay", 29, "WetWalls$Wall", "size", "I", "WetWalls"), ("WetWalls$OldWay", 45, "WetWalls$Wall", "steam", "[I", "WetWalls"), ("WetWalls$OldWay", 56, "WetWalls$Wall", "heat", "[I", "WetWalls"), ("WetWalls$Wall", 51, "WetWalls", "FIRST_CORNERS", "[I", "WetWalls")]
def q_nm : List (String × Nat × MethodName × String) := [("WetWalls", 110, ⟨"WetWalls$OldWay", "pressureAt", "(LWetWalls$Wall;[II)I"⟩, "WetWalls"), ("WetWalls", 114, ⟨"WetWalls$OldWay", "warmthAt", "(LWetWalls$Wall;[II)I"⟩, "WetWalls"), ("WetWalls", 120, ⟨"WetWalls$Wall", "firstLayers", "(I)I"⟩, "WetWalls"), ("WetWalls", 123, ⟨"WetWalls$OldWay", "excessBehind", "(LWetWalls$Wall;[II)I"⟩, "WetWalls"), ("WetWalls", 126, ⟨"WetWalls$OldWay", "findBestOrder", "(LWetWalls$Wall;[I)I"⟩, "WetWalls"), ("WetWalls", 133, ⟨"WetWalls$Wall", "standInOrder", "([I)V"⟩, "WetWalls"), ("WetWalls", 160, ⟨"WetWalls$Wall", "becomeAs", "(LWetWalls$Wall;)V"⟩, "WetWalls"), ("WetWalls", 164, ⟨"WetWalls$Wall", "holdsSameWaterAs", "(LWetWalls$Wall;)Z"⟩, "WetWalls"), ("WetWalls", 173, ⟨"WetWalls$Wall", "moveWater", "([II)V"⟩, "WetWalls"), ("WetWalls", 179, ⟨"WetWalls$Wall", "dampOf", "(I)I"⟩, "WetWalls"), ("WetWalls", 182, ⟨"WetWalls$Wall", "allWater", "()I"⟩, "WetWalls"), ("WetWalls", 21, ⟨"WetWalls$OldWay", "<init>", "()V"⟩, "WetWalls"), ("WetWalls", 57, ⟨"WetWalls$Wall", "addInside", "(IIII)V"⟩, "WetWalls"), ("WetWalls", 61, ⟨"WetWalls$Wall", "empty", "()V"⟩, "WetWalls"), ("WetWalls", 67, ⟨"WetWalls$Wall", "has", "(I)Z"⟩, "WetWalls"), ("WetWalls", 81, ⟨"WetWalls$Wall", "tellOf", "(II)I"⟩, "WetWalls"), ("WetWalls", 9, ⟨"WetWalls$Wall", "<init>", "()V"⟩, "WetWalls"), ("WetWalls", 95, ⟨"WetWalls$Wall", "letHourPass", "([II)V"⟩, "WetWalls"), ("WetWalls$OldWay", 22, ⟨"WetWalls", "partDown", "(II)I"⟩, "WetWalls"), ("WetWalls$OldWay", 35, ⟨"WetWalls$Wall", "firstLayers", "(I)I"⟩, "WetWalls"), ("WetWalls$OldWay", 48, ⟨"WetWalls$Wall", "resistOf", "([II)I"⟩, "WetWalls"), ("WetWalls$Wall", 106, ⟨"WetWalls", "partCut", "(II)I"⟩, "WetWalls"), ("WetWalls$Wall", 75, ⟨"WetWalls", "partDown", "(II)I"⟩, "WetWalls")]
def q_Nst (s : State) : Prop := (∀ q ∈ q_nf, va_Nw (.fieldLinkNest q.1 q.2.1 q.2.2.1 q.2.2.2.1 q.2.2.2.2.1 q.2.2.2.2.2) s) ∧ ∀ q ∈ q_nm, va_Nw (.methodLinkNest q.1 q.2.1 q.2.2.1 q.2.2.2) s
theorem q_Nst.warm {s U : State} (hW : s.WarmedH U.vm) (h : q_Nst s) : q_Nst U := ⟨fun q hq => (h.1 q hq).warmF hW, fun q hq => (h.2 q hq).warmM hW⟩
theorem q_Nst.same {s U : State} (hv : s.vm = U.vm) (h : q_Nst s) : q_Nst U := ⟨fun q hq => (h.1 q hq).same rfl hv, fun q hq => (h.2 q hq).same rfl hv⟩
def q_Wd (G : q_G) (mem : q_Mem) (s : State) (H : Heap) : Prop :=
  va_P G.1 vwCl (q_w G mem) H ∧ va_K G.1 vwCl [(G.2.2.1, .int), (G.2.2.2.1, .array .int)] s ∧ va_D G.2.2.2.2 (q_w G mem) ∧ q_Nst s
theorem q_Wd.warm {G : q_G} {mem : q_Mem} {s U : State} {H : Heap} (hW : s.WarmedH U.vm) (h : q_Wd G mem s H) : q_Wd G mem U H := ⟨h.1, va_K.moved hW.alike h.2.1, h.2.2.1, h.2.2.2.warm hW⟩
/-! the locals: by their places -/
def q_L (ls : Array Slot) (nL : Nat) (lv : List (Option Value)) : Prop := ls.size = nL ∧ lv_wf ls ∧ ∀ (i : Nat) (v : Value), lv[i]? = some (some v) → ls[i]? = some (.val v)
def q_lp : Nat → List (Option Value) → List (Nat × Value)
  | _, [] => []
  | i, none :: l => q_lp (i + 1) l
  | i, some v :: l => (i, v) :: q_lp (i + 1) l
theorem q_lp_mem : ∀ (lv : List (Option Value)) (k : Nat) (q : Nat × Value), q ∈ q_lp k lv ↔ ∃ i, q.1 = k + i ∧ lv[i]? = some (some q.2)
  | [], k, q => by simp [q_lp]
  | none :: l, k, q => by
    rw [q_lp, q_lp_mem l (k + 1) q]
    constructor
    · rintro ⟨i, h1, h2⟩
      exact ⟨i + 1, by omega, by rw [List.getElem?_cons_succ]; exact h2⟩
    · rintro ⟨i, h1, h2⟩
      cases i with
      | zero => simp at h2
      | succ i => exact ⟨i, by omega, by rw [List.getElem?_cons_succ] at h2; exact h2⟩
  | some v :: l, k, q => by
    rw [q_lp, List.mem_cons, q_lp_mem l (k + 1) q]
    constructor
    · rintro (h | ⟨i, h1, h2⟩)
      · subst h
        exact ⟨0, rfl, rfl⟩
      · exact ⟨i + 1, by omega, by rw [List.getElem?_cons_succ]; exact h2⟩
    · rintro ⟨i, h1, h2⟩
      cases i with
      | zero =>
        left
        obtain ⟨a, b⟩ := q
        simp at h1 h2
        rw [h1, h2]
      | succ i => exact Or.inr ⟨i, by omega, by rw [List.getElem?_cons_succ] at h2; exact h2⟩
theorem q_L.has {ls : Array Slot} {nL : Nat} {lv : List (Option Value)} (h : q_L ls nL lv) : lv_has ls nL (q_lp 0 lv) := ⟨h.1, h.2.1, fun q hq => by
  obtain ⟨i, h1, h2⟩ := (q_lp_mem lv 0 q).mp hq
  rw [h1, Nat.zero_add]
  exact h.2.2 i _ h2⟩
/-- may a value of one slot be stored at i: the slot ahead holds no long -/
def q_ok1 (lv : List (Option Value)) (i : Nat) : Bool := match i with
  | 0 => true
  | j + 1 => match lv[j]? with
    | some (some v) => v.category == 1
    | _ => true
theorem q_L.st1 {ls' : Array Slot} {nL : Nat} {lv : List (Option Value)} {i : Nat} {v : Value} (hok : q_ok1 lv i = true)
    (h : lv_has ls' nL ((i, v) :: (q_lp 0 lv).filter (fun q => !(q.1 == i) && !(q.1 + 1 == i && q.2.category == 2)))) : q_L ls' nL (lv.set i (some v)) := by
  refine ⟨h.1, h.2.1, fun j w hj => ?_⟩
  by_cases e : j = i
  · subst e
    have hl : j < lv.length := by
      have := (List.getElem?_eq_some_iff.mp hj).1
      rwa [List.length_set] at this
    rw [List.getElem?_set_self hl] at hj
    cases hj
    exact h.2.2 (j, v) List.mem_cons_self
  · rw [List.getElem?_set_ne (Ne.symm e)] at hj
    refine h.2.2 (j, w) (List.mem_cons_of_mem _ (List.mem_filter.mpr ⟨(q_lp_mem lv 0 _).mpr ⟨j, (Nat.zero_add j).symm, hj⟩, ?_⟩))
    simp only [Bool.and_eq_true, Bool.not_eq_true', beq_eq_false_iff_ne, ne_eq, Bool.and_eq_false_iff]
    refine ⟨e, ?_⟩
    by_cases e2 : j + 1 = i
    · right
      subst e2
      simp only [q_ok1, hj, beq_iff_eq] at hok
      omega
    · exact Or.inl e2
theorem q_L.st2 {ls' : Array Slot} {nL : Nat} {lv : List (Option Value)} {i : Nat} {v : Value} (hok : q_ok1 lv i = true)
    (h : lv_has ls' nL ((i, v) :: (q_lp 0 lv).filter (fun q => !(q.1 == i) && (!(q.1 == i + 1) && !(q.1 + 1 == i && q.2.category == 2))))) : q_L ls' nL ((lv.set i (some v)).set (i + 1) none) := by
  refine ⟨h.1, h.2.1, fun j w hj => ?_⟩
  by_cases e1 : j = i + 1
  · subst e1
    rw [List.getElem?_set] at hj
    simp at hj
  · rw [List.getElem?_set_ne (Ne.symm e1)] at hj
    by_cases e : j = i
    · subst e
      have hl : j < lv.length := by
        have := (List.getElem?_eq_some_iff.mp hj).1
        rwa [List.length_set] at this
      rw [List.getElem?_set_self hl] at hj
      cases hj
      exact h.2.2 (j, v) List.mem_cons_self
    · rw [List.getElem?_set_ne (Ne.symm e)] at hj
      refine h.2.2 (j, w) (List.mem_cons_of_mem _ (List.mem_filter.mpr ⟨(q_lp_mem lv 0 _).mpr ⟨j, (Nat.zero_add j).symm, hj⟩, ?_⟩))
      simp only [Bool.and_eq_true, Bool.not_eq_true', beq_eq_false_iff_ne, ne_eq, Bool.and_eq_false_iff]
      refine ⟨e, e1, ?_⟩
      by_cases e2 : j + 1 = i
      · right
        subst e2
        simp only [q_ok1, hj, beq_iff_eq] at hok
        omega
      · exact Or.inl e2
/-! the judgement -/
abbrev q_X : Type := Program × Launch × Env × Room × State × MethodId × Array Value × List Frame × Method × Code × Nat × Nat
abbrev q_s (X : q_X) : State := X.2.2.2.2.1
abbrev q_R (X : q_X) : Room := X.2.2.2.1
abbrev q_l (X : q_X) : Launch := X.2.1
abbrev q_args (X : q_X) : Array Value := X.2.2.2.2.2.2.1
abbrev q_W (X : q_X) (H : Heap) (locs : List Loc) (QQ : State → Prop) (pc : Nat) (ls : Array Slot) (st : List Value) : Prop :=
  W X.1 X.2.1 X.2.2.1 X.2.2.2.1 X.2.2.2.2.1 X.2.2.2.2.2.1 X.2.2.2.2.2.2.1 X.2.2.2.2.2.2.2.1 X.2.2.2.2.2.2.2.2.1 X.2.2.2.2.2.2.2.2.2.1 H locs X.2.2.2.2.2.2.2.2.2.2.1 X.2.2.2.2.2.2.2.2.2.2.2 QQ (F0 X.2.2.2.2.2.1 pc ls st)
def q_J (X : q_X) (G : q_G) (nL : Nat) (QQ : State → Prop) (pc : Nat) (lv : List (Option Value)) (st : List Value) (mem : q_Mem) : Prop :=
  ∀ (H : Heap) (locs : List Loc) (ls : Array Slot), q_Wd G mem (q_s X) H → va_S (q_A G) (q_s X).heap H locs → q_L ls nL lv → q_W X H locs QQ pc ls st
def q_C (X : q_X) (cc : ByteArray) (nL : Nat) (own : String) (ret : Option FieldType) (F Lo : Nat) : Prop :=
  (X.1.tables.exec = Jvm.exec ∧ X.2.2.2.2.2.2.2.2.2.1.code = cc ∧ X.2.2.2.2.2.2.2.2.2.1.maxLocals = nL ∧ (q_s X).vm.findClass own = some X.2.2.2.2.2.1.cls ∧ ∀ w ∈ q_T, w.before (q_args X) (q_s X) = true) ∧
  X.2.2.2.2.2.2.2.2.1.sig.returnType = ret ∧ X.2.2.2.2.2.2.2.2.1.locks = false ∧ F ≤ (q_R X).frames ∧ Lo ≤ (q_R X).locals ∧ X.2.2.2.2.2.2.2.2.2.2.1 ≤ (q_R X).cells ∧ X.2.2.2.2.2.2.2.2.2.2.2 ≤ (q_R X).slots
def q_mask : List Bool → List (Option Value) → List (Option Value)
  | b :: bs, o :: os => (if b then o else none) :: q_mask bs os
  | _, _ => []
theorem q_mask_get : ∀ (bs : List Bool) (lv : List (Option Value)) (i : Nat) (v : Value), (q_mask bs lv)[i]? = some (some v) → lv[i]? = some (some v)
  | [], lv, i, v, h => by simp [q_mask] at h
  | b :: bs, [], i, v, h => by simp [q_mask] at h
  | b :: bs, o :: os, 0, v, h => by
    cases b with
    | true => simpa [q_mask] using h
    | false => simp [q_mask] at h
  | b :: bs, o :: os, i + 1, v, h => by
    rw [q_mask, List.getElem?_cons_succ] at h
    rw [List.getElem?_cons_succ]
    exact q_mask_get bs os i v h
section QJ
variable {X : q_X} {G : q_G} {nL : Nat} {QQ : State → Prop} {pc : Nat} {lv : List (Option Value)} {st : List Value} {mem : q_Mem} {cc : ByteArray} {own : String} {ret : Option FieldType} {F Lo : Nat}
theorem q_weak (bs : List Bool) {lv' : List (Option Value)} (e : q_mask bs lv = lv') (k : q_J X G nL QQ pc lv' st mem) : q_J X G nL QQ pc lv st mem := fun H locs ls hW hS hL => k H locs ls hW hS ⟨hL.1, hL.2.1, fun i v h => hL.2.2 i v (q_mask_get bs lv i v (by rw [e]; exact h))⟩
theorem q_iconst (hX : q_C X cc nL own ret F Lo) {n : Int} (v : Int32) (hv : Int32.ofInt n = v) (d : decode cc pc = .ok (.iconst n, 1)) (pc' : Nat) (ep : pc + 1 = pc') (k : q_J X G nL QQ pc' lv (.int v :: st) mem) : q_J X G nL QQ pc lv (st) mem := by
  subst ep
  exact fun H locs ls hW hS hL => lv_iconst hX.1.1 hX.1.2.1 d hv (k H locs ls hW hS hL)
theorem q_bipush (hX : q_C X cc nL own ret F Lo) {n : Int} (v : Int32) (hv : (Int8.ofInt n).toInt32 = v) (d : decode cc pc = .ok (.bipush n, 2)) (pc' : Nat) (ep : pc + 2 = pc') (k : q_J X G nL QQ pc' lv (.int v :: st) mem) : q_J X G nL QQ pc lv (st) mem := by
  subst ep
  exact fun H locs ls hW hS hL => lv_bipush hX.1.1 hX.1.2.1 d hv (k H locs ls hW hS hL)
theorem q_sipush (hX : q_C X cc nL own ret F Lo) {n : Int} (v : Int32) (hv : (Int16.ofInt n).toInt32 = v) (d : decode cc pc = .ok (.sipush n, 3)) (pc' : Nat) (ep : pc + 3 = pc') (k : q_J X G nL QQ pc' lv (.int v :: st) mem) : q_J X G nL QQ pc lv (st) mem := by
  subst ep
  exact fun H locs ls hW hS hL => lv_sipush hX.1.1 hX.1.2.1 d hv (k H locs ls hW hS hL)
theorem q_lconst (hX : q_C X cc nL own ret F Lo) {n : Fin 2} (v : Int64) (hv : Int64.ofNat (n : Nat) = v) (d : decode cc pc = .ok (.lconst n, 1)) (pc' : Nat) (ep : pc + 1 = pc') (k : q_J X G nL QQ pc' lv (.long v :: st) mem) : q_J X G nL QQ pc lv (st) mem := by
  subst ep
  exact fun H locs ls hW hS hL => lv_lconst hX.1.1 hX.1.2.1 d hv (k H locs ls hW hS hL)
theorem q_ldc (hX : q_C X cc nL own ret F Lo) {index : Nat} {v : Int32} (hw : Cond.constant own index v ∈ q_T) (d : decode cc pc = .ok (.ldc index, 2)) (pc' : Nat) (ep : pc + 2 = pc') (k : q_J X G nL QQ pc' lv (.int v :: st) mem) : q_J X G nL QQ pc lv (st) mem := by
  subst ep
  exact fun H locs ls hW hS hL => lv_ldc hX.1.1 hX.1.2.1 hX.1.2.2.2.1 (hX.1.2.2.2.2 _ hw) d (k H locs ls hW hS hL)
theorem q_ldc2 (hX : q_C X cc nL own ret F Lo) {index : Nat} {v : Int64} (hw : Cond.constantLong own index v ∈ q_T) (d : decode cc pc = .ok (.ldc2_w index, 3)) (pc' : Nat) (ep : pc + 3 = pc') (k : q_J X G nL QQ pc' lv (.long v :: st) mem) : q_J X G nL QQ pc lv (st) mem := by
  subst ep
  exact fun H locs ls hW hS hL => lv_ldc2 hX.1.1 hX.1.2.1 hX.1.2.2.2.1 (hX.1.2.2.2.2 _ hw) d (k H locs ls hW hS hL)
theorem q_iload (hX : q_C X cc nL own ret F Lo) {i : Nat} {x : Int32} (hl : lv[i]? = some (some (.int x))) (d : decode cc pc = .ok (.iload i, 2)) (pc' : Nat) (ep : pc + 2 = pc') (k : q_J X G nL QQ pc' lv (.int x :: st) mem) : q_J X G nL QQ pc lv (st) mem := by
  subst ep
  exact fun H locs ls hW hS hL => lv_iload hX.1.1 hX.1.2.1 d (hL.2.2 _ _ hl) (k H locs ls hW hS hL)
theorem q_iload_n (hX : q_C X cc nL own ret F Lo) {j : Fin 4} {x : Int32} (hl : lv[(j : Nat)]? = some (some (.int x))) (d : decode cc pc = .ok (.iload_n j, 1)) (pc' : Nat) (ep : pc + 1 = pc') (k : q_J X G nL QQ pc' lv (.int x :: st) mem) : q_J X G nL QQ pc lv (st) mem := by
  subst ep
  exact fun H locs ls hW hS hL => lv_iload_n hX.1.1 hX.1.2.1 d rfl (hL.2.2 _ _ hl) (k H locs ls hW hS hL)
theorem q_lload (hX : q_C X cc nL own ret F Lo) {i : Nat} {x : Int64} (hl : lv[i]? = some (some (.long x))) (d : decode cc pc = .ok (.lload i, 2)) (pc' : Nat) (ep : pc + 2 = pc') (k : q_J X G nL QQ pc' lv (.long x :: st) mem) : q_J X G nL QQ pc lv (st) mem := by
  subst ep
  exact fun H locs ls hW hS hL => lv_lload hX.1.1 hX.1.2.1 d (hL.2.2 _ _ hl) (k H locs ls hW hS hL)
theorem q_lload_n (hX : q_C X cc nL own ret F Lo) {j : Fin 4} {x : Int64} (hl : lv[(j : Nat)]? = some (some (.long x))) (d : decode cc pc = .ok (.lload_n j, 1)) (pc' : Nat) (ep : pc + 1 = pc') (k : q_J X G nL QQ pc' lv (.long x :: st) mem) : q_J X G nL QQ pc lv (st) mem := by
  subst ep
  exact fun H locs ls hW hS hL => lv_lload_n hX.1.1 hX.1.2.1 d rfl (hL.2.2 _ _ hl) (k H locs ls hW hS hL)
theorem q_aload (hX : q_C X cc nL own ret F Lo) {i a : Nat} (hl : lv[i]? = some (some (.ref a))) (d : decode cc pc = .ok (.aload i, 2)) (pc' : Nat) (ep : pc + 2 = pc') (k : q_J X G nL QQ pc' lv (.ref a :: st) mem) : q_J X G nL QQ pc lv (st) mem := by
  subst ep
  exact fun H locs ls hW hS hL => lv_aload hX.1.1 hX.1.2.1 d (hL.2.2 _ _ hl) (k H locs ls hW hS hL)
theorem q_aload_n (hX : q_C X cc nL own ret F Lo) {j : Fin 4} {a : Nat} (hl : lv[(j : Nat)]? = some (some (.ref a))) (d : decode cc pc = .ok (.aload_n j, 1)) (pc' : Nat) (ep : pc + 1 = pc') (k : q_J X G nL QQ pc' lv (.ref a :: st) mem) : q_J X G nL QQ pc lv (st) mem := by
  subst ep
  exact fun H locs ls hW hS hL => lv_aload_n hX.1.1 hX.1.2.1 d rfl (hL.2.2 _ _ hl) (k H locs ls hW hS hL)
theorem q_istore (hX : q_C X cc nL own ret F Lo) {i : Nat} {x : Int32} (d : decode cc pc = .ok (.istore i, 2)) (pc' : Nat) (ep : pc + 2 = pc') (hn : i < nL) (ho : q_ok1 lv i = true) (lv' : Int32 → List (Option Value)) (el : ∀ y : Int32, lv.set i (some (.int y)) = lv' y) (k : ∀ y : Int32, y = x → q_J X G nL QQ pc' (lv' y) st mem) : q_J X G nL QQ pc lv (.int x :: st) mem := by
  subst ep
  exact fun H locs ls hW hS hL => lv_istore hX.1.1 hX.1.2.1 d hL.has hn rfl (fun ls' hl' => k x rfl H locs ls' hW hS (by rw [← el]; exact q_L.st1 ho hl'))
theorem q_istore_n (hX : q_C X cc nL own ret F Lo) {j : Fin 4} {x : Int32} (d : decode cc pc = .ok (.istore_n j, 1)) (pc' : Nat) (ep : pc + 1 = pc') (hn : (j : Nat) < nL) (ho : q_ok1 lv (j : Nat) = true) (lv' : Int32 → List (Option Value)) (el : ∀ y : Int32, lv.set (j : Nat) (some (.int y)) = lv' y) (k : ∀ y : Int32, y = x → q_J X G nL QQ pc' (lv' y) st mem) : q_J X G nL QQ pc lv (.int x :: st) mem := by
  subst ep
  exact fun H locs ls hW hS hL => lv_istore_n hX.1.1 hX.1.2.1 d rfl hL.has hn rfl (fun ls' hl' => k x rfl H locs ls' hW hS (by rw [← el]; exact q_L.st1 ho hl'))
theorem q_lstore (hX : q_C X cc nL own ret F Lo) {i : Nat} {x : Int64} (d : decode cc pc = .ok (.lstore i, 2)) (pc' : Nat) (ep : pc + 2 = pc') (hn : i + 1 < nL) (ho : q_ok1 lv i = true) (lv' : Int64 → List (Option Value)) (el : ∀ y : Int64, (lv.set i (some (.long y))).set (i + 1) none = lv' y) (k : ∀ y : Int64, y = x → q_J X G nL QQ pc' (lv' y) st mem) : q_J X G nL QQ pc lv (.long x :: st) mem := by
  subst ep
  exact fun H locs ls hW hS hL => lv_lstore hX.1.1 hX.1.2.1 d hL.has hn rfl (fun ls' hl' => k x rfl H locs ls' hW hS (by rw [← el]; exact q_L.st2 ho hl'))
theorem q_lstore_n (hX : q_C X cc nL own ret F Lo) {j : Fin 4} {x : Int64} (d : decode cc pc = .ok (.lstore_n j, 1)) (pc' : Nat) (ep : pc + 1 = pc') (hn : (j : Nat) + 1 < nL) (ho : q_ok1 lv (j : Nat) = true) (lv' : Int64 → List (Option Value)) (el : ∀ y : Int64, (lv.set (j : Nat) (some (.long y))).set ((j : Nat) + 1) none = lv' y) (k : ∀ y : Int64, y = x → q_J X G nL QQ pc' (lv' y) st mem) : q_J X G nL QQ pc lv (.long x :: st) mem := by
  subst ep
  exact fun H locs ls hW hS hL => lv_lstore_n hX.1.1 hX.1.2.1 d rfl hL.has hn rfl (fun ls' hl' => k x rfl H locs ls' hW hS (by rw [← el]; exact q_L.st2 ho hl'))
theorem q_astore (hX : q_C X cc nL own ret F Lo) {i : Nat} {x : Nat} (d : decode cc pc = .ok (.astore i, 2)) (pc' : Nat) (ep : pc + 2 = pc') (hn : i < nL) (ho : q_ok1 lv i = true) (lv' : Nat → List (Option Value)) (el : ∀ y : Nat, lv.set i (some (.ref y)) = lv' y) (k : ∀ y : Nat, y = x → q_J X G nL QQ pc' (lv' y) st mem) : q_J X G nL QQ pc lv (.ref x :: st) mem := by
  subst ep
  exact fun H locs ls hW hS hL => lv_astore hX.1.1 hX.1.2.1 d hL.has hn rfl (fun ls' hl' => k x rfl H locs ls' hW hS (by rw [← el]; exact q_L.st1 ho hl'))
theorem q_astore_n (hX : q_C X cc nL own ret F Lo) {j : Fin 4} {x : Nat} (d : decode cc pc = .ok (.astore_n j, 1)) (pc' : Nat) (ep : pc + 1 = pc') (hn : (j : Nat) < nL) (ho : q_ok1 lv (j : Nat) = true) (lv' : Nat → List (Option Value)) (el : ∀ y : Nat, lv.set (j : Nat) (some (.ref y)) = lv' y) (k : ∀ y : Nat, y = x → q_J X G nL QQ pc' (lv' y) st mem) : q_J X G nL QQ pc lv (.ref x :: st) mem := by
  subst ep
  exact fun H locs ls hW hS hL => lv_astore_n hX.1.1 hX.1.2.1 d rfl hL.has hn rfl (fun ls' hl' => k x rfl H locs ls' hW hS (by rw [← el]; exact q_L.st1 ho hl'))
theorem q_lp_at {lv : List (Option Value)} {i : Nat} {v : Value} (h : lv[i]? = some (some v)) : ∃ k : Nat, (q_lp 0 lv)[k]? = some (i, v) := List.getElem?_of_mem ((q_lp_mem lv 0 (i, v)).mpr ⟨i, (Nat.zero_add i).symm, h⟩)
theorem q_iinc (hX : q_C X cc nL own ret F Lo) {i : Nat} {n : Int} {x : Int32} (v : Int32) (hv : Int32.ofInt n = v) (hl : lv[i]? = some (some (.int x))) (d : decode cc pc = .ok (.iinc i n, 3)) (pc' : Nat) (ep : pc + 3 = pc') (hn : i < nL) (ho : q_ok1 lv i = true) (lv' : Int32 → List (Option Value)) (el : ∀ y : Int32, lv.set i (some (.int y)) = lv' y) (k : ∀ y : Int32, y = x + v → q_J X G nL QQ pc' (lv' y) st mem) : q_J X G nL QQ pc lv st mem := by
  subst ep
  subst hv
  obtain ⟨j, hj⟩ := q_lp_at hl
  exact fun H locs ls hW hS hL => lv_iinc hX.1.1 hX.1.2.1 d hL.has hj rfl hn rfl (fun ls' hl' => k _ rfl H locs ls' hW hS (by rw [← el]; exact q_L.st1 ho hl'))
theorem q_iadd (hX : q_C X cc nL own ret F Lo) {x y : Int32} (d : decode cc pc = .ok (.iadd, 1)) (pc' : Nat) (ep : pc + 1 = pc') (k : q_J X G nL QQ pc' lv (.int (x + y) :: st) mem) : q_J X G nL QQ pc lv (.int y :: .int x :: st) mem := by
  subst ep
  exact fun H locs ls hW hS hL => lv_iadd hX.1.1 hX.1.2.1 d (k H locs ls hW hS hL)
theorem q_isub (hX : q_C X cc nL own ret F Lo) {x y : Int32} (d : decode cc pc = .ok (.isub, 1)) (pc' : Nat) (ep : pc + 1 = pc') (k : q_J X G nL QQ pc' lv (.int (x - y) :: st) mem) : q_J X G nL QQ pc lv (.int y :: .int x :: st) mem := by
  subst ep
  exact fun H locs ls hW hS hL => lv_isub hX.1.1 hX.1.2.1 d (k H locs ls hW hS hL)
theorem q_imul (hX : q_C X cc nL own ret F Lo) {x y : Int32} (d : decode cc pc = .ok (.imul, 1)) (pc' : Nat) (ep : pc + 1 = pc') (k : q_J X G nL QQ pc' lv (.int (x * y) :: st) mem) : q_J X G nL QQ pc lv (.int y :: .int x :: st) mem := by
  subst ep
  exact fun H locs ls hW hS hL => lv_imul hX.1.1 hX.1.2.1 d (k H locs ls hW hS hL)
theorem q_iand (hX : q_C X cc nL own ret F Lo) {x y : Int32} (d : decode cc pc = .ok (.iand, 1)) (pc' : Nat) (ep : pc + 1 = pc') (k : q_J X G nL QQ pc' lv (.int (x &&& y) :: st) mem) : q_J X G nL QQ pc lv (.int y :: .int x :: st) mem := by
  subst ep
  exact fun H locs ls hW hS hL => lv_iand hX.1.1 hX.1.2.1 d (k H locs ls hW hS hL)
theorem q_ior (hX : q_C X cc nL own ret F Lo) {x y : Int32} (d : decode cc pc = .ok (.ior, 1)) (pc' : Nat) (ep : pc + 1 = pc') (k : q_J X G nL QQ pc' lv (.int (x ||| y) :: st) mem) : q_J X G nL QQ pc lv (.int y :: .int x :: st) mem := by
  subst ep
  exact fun H locs ls hW hS hL => lv_ior hX.1.1 hX.1.2.1 d (k H locs ls hW hS hL)
theorem q_ishl (hX : q_C X cc nL own ret F Lo) {x y : Int32} (d : decode cc pc = .ok (.ishl, 1)) (pc' : Nat) (ep : pc + 1 = pc') (k : q_J X G nL QQ pc' lv (.int (x <<< (y &&& 31)) :: st) mem) : q_J X G nL QQ pc lv (.int y :: .int x :: st) mem := by
  subst ep
  exact fun H locs ls hW hS hL => lv_ishl hX.1.1 hX.1.2.1 d (k H locs ls hW hS hL)
theorem q_idiv (hX : q_C X cc nL own ret F Lo) {x y : Int32} (hne : ¬ y = 0) (d : decode cc pc = .ok (.idiv, 1)) (pc' : Nat) (ep : pc + 1 = pc') (k : q_J X G nL QQ pc' lv (.int (x / y) :: st) mem) : q_J X G nL QQ pc lv (.int y :: .int x :: st) mem := by
  subst ep
  exact fun H locs ls hW hS hL => lv_idiv hX.1.1 hX.1.2.1 d hne (k H locs ls hW hS hL)
theorem q_irem (hX : q_C X cc nL own ret F Lo) {x y : Int32} (hne : ¬ y = 0) (d : decode cc pc = .ok (.irem, 1)) (pc' : Nat) (ep : pc + 1 = pc') (k : q_J X G nL QQ pc' lv (.int (x - x / y * y) :: st) mem) : q_J X G nL QQ pc lv (.int y :: .int x :: st) mem := by
  subst ep
  exact fun H locs ls hW hS hL => lv_irem hX.1.1 hX.1.2.1 d hne (k H locs ls hW hS hL)
theorem q_ineg (hX : q_C X cc nL own ret F Lo) {x : Int32} (d : decode cc pc = .ok (.ineg, 1)) (pc' : Nat) (ep : pc + 1 = pc') (k : q_J X G nL QQ pc' lv (.int (-x) :: st) mem) : q_J X G nL QQ pc lv (.int x :: st) mem := by
  subst ep
  exact fun H locs ls hW hS hL => lv_ineg hX.1.1 hX.1.2.1 d (k H locs ls hW hS hL)
theorem q_ladd (hX : q_C X cc nL own ret F Lo) {x y : Int64} (d : decode cc pc = .ok (.ladd, 1)) (pc' : Nat) (ep : pc + 1 = pc') (k : q_J X G nL QQ pc' lv (.long (x + y) :: st) mem) : q_J X G nL QQ pc lv (.long y :: .long x :: st) mem := by
  subst ep
  exact fun H locs ls hW hS hL => lv_ladd hX.1.1 hX.1.2.1 d (k H locs ls hW hS hL)
theorem q_lmul (hX : q_C X cc nL own ret F Lo) {x y : Int64} (d : decode cc pc = .ok (.lmul, 1)) (pc' : Nat) (ep : pc + 1 = pc') (k : q_J X G nL QQ pc' lv (.long (x * y) :: st) mem) : q_J X G nL QQ pc lv (.long y :: .long x :: st) mem := by
  subst ep
  exact fun H locs ls hW hS hL => lv_lmul hX.1.1 hX.1.2.1 d (k H locs ls hW hS hL)
theorem q_lcmp (hX : q_C X cc nL own ret F Lo) {x y : Int64} (d : decode cc pc = .ok (.lcmp, 1)) (pc' : Nat) (ep : pc + 1 = pc') (k : q_J X G nL QQ pc' lv (.int (lg_cmp x y) :: st) mem) : q_J X G nL QQ pc lv (.long y :: .long x :: st) mem := by
  subst ep
  exact fun H locs ls hW hS hL => W.lcmp hX.1.1 hX.1.2.1 d (k H locs ls hW hS hL)
theorem q_i2l (hX : q_C X cc nL own ret F Lo) {x : Int32} (d : decode cc pc = .ok (.i2l, 1)) (pc' : Nat) (ep : pc + 1 = pc') (k : q_J X G nL QQ pc' lv (.long x.toInt64 :: st) mem) : q_J X G nL QQ pc lv (.int x :: st) mem := by
  subst ep
  exact fun H locs ls hW hS hL => lv_i2l hX.1.1 hX.1.2.1 d rfl (k H locs ls hW hS hL)
theorem q_dup (hX : q_C X cc nL own ret F Lo) {v : Value} (hv : v.category = 1) (d : decode cc pc = .ok (.dup, 1)) (pc' : Nat) (ep : pc + 1 = pc') (k : q_J X G nL QQ pc' lv (v :: v :: st) mem) : q_J X G nL QQ pc lv (v :: st) mem := by
  subst ep
  exact fun H locs ls hW hS hL => lv_dup hX.1.1 hX.1.2.1 d hv (k H locs ls hW hS hL)
theorem q_pop (hX : q_C X cc nL own ret F Lo) {v : Value} (hv : v.category = 1) (d : decode cc pc = .ok (.pop, 1)) (pc' : Nat) (ep : pc + 1 = pc') (k : q_J X G nL QQ pc' lv (st) mem) : q_J X G nL QQ pc lv (v :: st) mem := by
  subst ep
  exact fun H locs ls hW hS hL => lv_pop hX.1.1 hX.1.2.1 d hv (k H locs ls hW hS hL)
theorem q_dup2 (hX : q_C X cc nL own ret F Lo) {v w : Value} (hv : v.category = 1) (hw : w.category = 1) (d : decode cc pc = .ok (.dup2, 1)) (pc' : Nat) (ep : pc + 1 = pc') (k : q_J X G nL QQ pc' lv (v :: w :: v :: w :: st) mem) : q_J X G nL QQ pc lv (v :: w :: st) mem := by
  subst ep
  exact fun H locs ls hW hS hL => lv_dup2_11 hX.1.1 hX.1.2.1 d hv hw (k H locs ls hW hS hL)
theorem q_if_eq (hX : q_C X cc nL own ret F Lo) {x : Int32} {off : Int} (d : decode cc pc = .ok (.ifCond .eq off, 3)) (pc' tgt : Nat) (ep : pc + 3 = pc') (et : (pc : Int) + off = (tgt : Int)) (kt : x = 0 → q_J X G nL QQ tgt lv st mem) (kf : ¬ x = 0 → q_J X G nL QQ pc' lv st mem) : q_J X G nL QQ pc lv (.int x :: st) mem := by
  subst ep
  exact fun H locs ls hW hS hL => lv_if_eq hX.1.1 hX.1.2.1 d et (fun h => kt h H locs ls hW hS hL) (fun h => kf h H locs ls hW hS hL)
theorem q_icmp_eq (hX : q_C X cc nL own ret F Lo) {x y : Int32} {off : Int} (d : decode cc pc = .ok (.if_icmp .eq off, 3)) (pc' tgt : Nat) (ep : pc + 3 = pc') (et : (pc : Int) + off = (tgt : Int)) (kt : x = y → q_J X G nL QQ tgt lv st mem) (kf : ¬ x = y → q_J X G nL QQ pc' lv st mem) : q_J X G nL QQ pc lv (.int y :: .int x :: st) mem := by
  subst ep
  exact fun H locs ls hW hS hL => lv_icmp_eq hX.1.1 hX.1.2.1 d et (fun h => kt h H locs ls hW hS hL) (fun h => kf h H locs ls hW hS hL)
theorem q_if_ne (hX : q_C X cc nL own ret F Lo) {x : Int32} {off : Int} (d : decode cc pc = .ok (.ifCond .ne off, 3)) (pc' tgt : Nat) (ep : pc + 3 = pc') (et : (pc : Int) + off = (tgt : Int)) (kt : ¬ x = 0 → q_J X G nL QQ tgt lv st mem) (kf : x = 0 → q_J X G nL QQ pc' lv st mem) : q_J X G nL QQ pc lv (.int x :: st) mem := by
  subst ep
  exact fun H locs ls hW hS hL => lv_if_ne hX.1.1 hX.1.2.1 d et (fun h => kt h H locs ls hW hS hL) (fun h => kf h H locs ls hW hS hL)
theorem q_icmp_ne (hX : q_C X cc nL own ret F Lo) {x y : Int32} {off : Int} (d : decode cc pc = .ok (.if_icmp .ne off, 3)) (pc' tgt : Nat) (ep : pc + 3 = pc') (et : (pc : Int) + off = (tgt : Int)) (kt : ¬ x = y → q_J X G nL QQ tgt lv st mem) (kf : x = y → q_J X G nL QQ pc' lv st mem) : q_J X G nL QQ pc lv (.int y :: .int x :: st) mem := by
  subst ep
  exact fun H locs ls hW hS hL => lv_icmp_ne hX.1.1 hX.1.2.1 d et (fun h => kt h H locs ls hW hS hL) (fun h => kf h H locs ls hW hS hL)
theorem q_if_lt (hX : q_C X cc nL own ret F Lo) {x : Int32} {off : Int} (d : decode cc pc = .ok (.ifCond .lt off, 3)) (pc' tgt : Nat) (ep : pc + 3 = pc') (et : (pc : Int) + off = (tgt : Int)) (kt : x < 0 → q_J X G nL QQ tgt lv st mem) (kf : ¬ x < 0 → q_J X G nL QQ pc' lv st mem) : q_J X G nL QQ pc lv (.int x :: st) mem := by
  subst ep
  exact fun H locs ls hW hS hL => lv_if_lt hX.1.1 hX.1.2.1 d et (fun h => kt h H locs ls hW hS hL) (fun h => kf h H locs ls hW hS hL)
theorem q_icmp_lt (hX : q_C X cc nL own ret F Lo) {x y : Int32} {off : Int} (d : decode cc pc = .ok (.if_icmp .lt off, 3)) (pc' tgt : Nat) (ep : pc + 3 = pc') (et : (pc : Int) + off = (tgt : Int)) (kt : x < y → q_J X G nL QQ tgt lv st mem) (kf : ¬ x < y → q_J X G nL QQ pc' lv st mem) : q_J X G nL QQ pc lv (.int y :: .int x :: st) mem := by
  subst ep
  exact fun H locs ls hW hS hL => lv_icmp_lt hX.1.1 hX.1.2.1 d et (fun h => kt h H locs ls hW hS hL) (fun h => kf h H locs ls hW hS hL)
theorem q_if_ge (hX : q_C X cc nL own ret F Lo) {x : Int32} {off : Int} (d : decode cc pc = .ok (.ifCond .ge off, 3)) (pc' tgt : Nat) (ep : pc + 3 = pc') (et : (pc : Int) + off = (tgt : Int)) (kt : 0 ≤ x → q_J X G nL QQ tgt lv st mem) (kf : ¬ 0 ≤ x → q_J X G nL QQ pc' lv st mem) : q_J X G nL QQ pc lv (.int x :: st) mem := by
  subst ep
  exact fun H locs ls hW hS hL => lv_if_ge hX.1.1 hX.1.2.1 d et (fun h => kt h H locs ls hW hS hL) (fun h => kf h H locs ls hW hS hL)
theorem q_icmp_ge (hX : q_C X cc nL own ret F Lo) {x y : Int32} {off : Int} (d : decode cc pc = .ok (.if_icmp .ge off, 3)) (pc' tgt : Nat) (ep : pc + 3 = pc') (et : (pc : Int) + off = (tgt : Int)) (kt : y ≤ x → q_J X G nL QQ tgt lv st mem) (kf : ¬ y ≤ x → q_J X G nL QQ pc' lv st mem) : q_J X G nL QQ pc lv (.int y :: .int x :: st) mem := by
  subst ep
  exact fun H locs ls hW hS hL => lv_icmp_ge hX.1.1 hX.1.2.1 d et (fun h => kt h H locs ls hW hS hL) (fun h => kf h H locs ls hW hS hL)
theorem q_if_gt (hX : q_C X cc nL own ret F Lo) {x : Int32} {off : Int} (d : decode cc pc = .ok (.ifCond .gt off, 3)) (pc' tgt : Nat) (ep : pc + 3 = pc') (et : (pc : Int) + off = (tgt : Int)) (kt : 0 < x → q_J X G nL QQ tgt lv st mem) (kf : ¬ 0 < x → q_J X G nL QQ pc' lv st mem) : q_J X G nL QQ pc lv (.int x :: st) mem := by
  subst ep
  exact fun H locs ls hW hS hL => lv_if_gt hX.1.1 hX.1.2.1 d et (fun h => kt h H locs ls hW hS hL) (fun h => kf h H locs ls hW hS hL)
theorem q_icmp_gt (hX : q_C X cc nL own ret F Lo) {x y : Int32} {off : Int} (d : decode cc pc = .ok (.if_icmp .gt off, 3)) (pc' tgt : Nat) (ep : pc + 3 = pc') (et : (pc : Int) + off = (tgt : Int)) (kt : y < x → q_J X G nL QQ tgt lv st mem) (kf : ¬ y < x → q_J X G nL QQ pc' lv st mem) : q_J X G nL QQ pc lv (.int y :: .int x :: st) mem := by
  subst ep
  exact fun H locs ls hW hS hL => lv_icmp_gt hX.1.1 hX.1.2.1 d et (fun h => kt h H locs ls hW hS hL) (fun h => kf h H locs ls hW hS hL)
theorem q_if_le (hX : q_C X cc nL own ret F Lo) {x : Int32} {off : Int} (d : decode cc pc = .ok (.ifCond .le off, 3)) (pc' tgt : Nat) (ep : pc + 3 = pc') (et : (pc : Int) + off = (tgt : Int)) (kt : x ≤ 0 → q_J X G nL QQ tgt lv st mem) (kf : ¬ x ≤ 0 → q_J X G nL QQ pc' lv st mem) : q_J X G nL QQ pc lv (.int x :: st) mem := by
  subst ep
  exact fun H locs ls hW hS hL => lv_if_le hX.1.1 hX.1.2.1 d et (fun h => kt h H locs ls hW hS hL) (fun h => kf h H locs ls hW hS hL)
theorem q_icmp_le (hX : q_C X cc nL own ret F Lo) {x y : Int32} {off : Int} (d : decode cc pc = .ok (.if_icmp .le off, 3)) (pc' tgt : Nat) (ep : pc + 3 = pc') (et : (pc : Int) + off = (tgt : Int)) (kt : x ≤ y → q_J X G nL QQ tgt lv st mem) (kf : ¬ x ≤ y → q_J X G nL QQ pc' lv st mem) : q_J X G nL QQ pc lv (.int y :: .int x :: st) mem := by
  subst ep
  exact fun H locs ls hW hS hL => lv_icmp_le hX.1.1 hX.1.2.1 d et (fun h => kt h H locs ls hW hS hL) (fun h => kf h H locs ls hW hS hL)
theorem q_goto (hX : q_C X cc nL own ret F Lo) {off : Int} (d : decode cc pc = .ok (.goto off, 3)) (tgt : Nat) (et : (pc : Int) + off = (tgt : Int)) (k : q_J X G nL QQ tgt lv st mem) : q_J X G nL QQ pc lv st mem := fun H locs ls hW hS hL => lv_goto hX.1.1 hX.1.2.1 d et (k H locs ls hW hS hL)
theorem q_tout (hX : q_C X cc nL own ret F Lo) {dflt lo hi : Int} {offs : Array Int} {len : Nat} {x : Int32} (d : decode cc pc = .ok (.tableswitch dflt lo hi offs, len)) (tgt : Nat) (et : (pc : Int) + dflt = (tgt : Int)) (h : x.toInt < lo ∨ hi < x.toInt) (k : q_J X G nL QQ tgt lv st mem) : q_J X G nL QQ pc lv (.int x :: st) mem := fun H locs ls hW hS hL => lv_tableOut hX.1.1 hX.1.2.1 d h et (k H locs ls hW hS hL)
theorem q_tin (hX : q_C X cc nL own ret F Lo) {dflt lo hi : Int} {offs : Array Int} {len : Nat} {x : Int32} {off : Int} (d : decode cc pc = .ok (.tableswitch dflt lo hi offs, len)) (tgt : Nat) (h1 : ¬ x.toInt < lo) (h2 : ¬ hi < x.toInt) (ho : offs[(x.toInt - lo).toNat]? = some off) (et : (pc : Int) + off = (tgt : Int)) (k : q_J X G nL QQ tgt lv st mem) : q_J X G nL QQ pc lv (.int x :: st) mem := fun H locs ls hW hS hL => lv_tableIn hX.1.1 hX.1.2.1 d h1 h2 ho et (k H locs ls hW hS hL)

/-! fields and arrays -/
theorem q_getI (hX : q_C X cc nL own ret F Lo) {k ci index N : Nat} {C : String} {T : u_T} {fs : List (Option Nat)} (hsh : q_sh[k]? = some (.inr (.inr (ci, fs)))) (hc : vwCl[ci]? = some (C, T, N)) (hin : ∀ w ∈ u_ws C T N, w ∈ q_T) (j : Nat) (hj : j < N) (hf : fs[j]? = some none) (hlink : (Cond.fieldLink own index (T j).1 (T j).2.1 (T j).2.2.1) ∈ q_T) (d : decode cc pc = .ok (.getfield index, 3)) (pc' : Nat) (ep : pc + 3 = pc') (kk : q_J X G nL QQ pc' lv (.int (mem k j) :: st) mem) : q_J X G nL QQ pc lv (.ref (q_ad G k) :: st) mem := by
  subst ep
  exact fun H locs ls hW hS hL => va_get hX.1.1 hX.1.2.1 hX.1.2.2.2.2 hin hX.1.2.2.2.1 hW.2.1 hW.1 k (q_w_get G mem hsh) hc j hj (hX.1.2.2.2.2 _ hlink) (fun _ h => h) (q_fv_get _ _ hf) d (kk H locs ls hW hS hL)
theorem q_getR (hX : q_C X cc nL own ret F Lo) {k ci index N r : Nat} {C : String} {T : u_T} {fs : List (Option Nat)} (hsh : q_sh[k]? = some (.inr (.inr (ci, fs)))) (hc : vwCl[ci]? = some (C, T, N)) (hin : ∀ w ∈ u_ws C T N, w ∈ q_T) (j : Nat) (hj : j < N) (hf : fs[j]? = some (some r)) (hlink : (Cond.fieldLink own index (T j).1 (T j).2.1 (T j).2.2.1) ∈ q_T) (d : decode cc pc = .ok (.getfield index, 3)) (pc' : Nat) (ep : pc + 3 = pc') (kk : q_J X G nL QQ pc' lv (.ref (q_ad G r) :: st) mem) : q_J X G nL QQ pc lv (.ref (q_ad G k) :: st) mem := by
  subst ep
  exact fun H locs ls hW hS hL => va_get hX.1.1 hX.1.2.1 hX.1.2.2.2.2 hin hX.1.2.2.2.1 hW.2.1 hW.1 k (q_w_get G mem hsh) hc j hj (hX.1.2.2.2.2 _ hlink) (fun _ h => h) (q_fv_get _ _ hf) d (kk H locs ls hW hS hL)
theorem q_getIN (hX : q_C X cc nL own ret F Lo) {k ci index N : Nat} {C host : String} {T : u_T} {fs : List (Option Nat)} (hsh : q_sh[k]? = some (.inr (.inr (ci, fs)))) (hc : vwCl[ci]? = some (C, T, N)) (hin : ∀ w ∈ u_ws C T N, w ∈ q_T) (j : Nat) (hj : j < N) (hf : fs[j]? = some none) (hlink : (own, index, (T j).1, (T j).2.1, (T j).2.2.1, host) ∈ q_nf) (d : decode cc pc = .ok (.getfield index, 3)) (pc' : Nat) (ep : pc + 3 = pc') (kk : q_J X G nL QQ pc' lv (.int (mem k j) :: st) mem) : q_J X G nL QQ pc lv (.ref (q_ad G k) :: st) mem := by
  subst ep
  exact fun H locs ls hW hS hL => va_getN hX.1.1 hX.1.2.1 hX.1.2.2.2.2 hin hX.1.2.2.2.1 hW.2.1 hW.1 k (q_w_get G mem hsh) hc j hj (va_Nw.use rfl (hW.2.2.2.1 _ hlink)) (fun _ h => h) (q_fv_get _ _ hf) d (kk H locs ls hW hS hL)
theorem q_getRN (hX : q_C X cc nL own ret F Lo) {k ci index N r : Nat} {C host : String} {T : u_T} {fs : List (Option Nat)} (hsh : q_sh[k]? = some (.inr (.inr (ci, fs)))) (hc : vwCl[ci]? = some (C, T, N)) (hin : ∀ w ∈ u_ws C T N, w ∈ q_T) (j : Nat) (hj : j < N) (hf : fs[j]? = some (some r)) (hlink : (own, index, (T j).1, (T j).2.1, (T j).2.2.1, host) ∈ q_nf) (d : decode cc pc = .ok (.getfield index, 3)) (pc' : Nat) (ep : pc + 3 = pc') (kk : q_J X G nL QQ pc' lv (.ref (q_ad G r) :: st) mem) : q_J X G nL QQ pc lv (.ref (q_ad G k) :: st) mem := by
  subst ep
  exact fun H locs ls hW hS hL => va_getN hX.1.1 hX.1.2.1 hX.1.2.2.2.2 hin hX.1.2.2.2.1 hW.2.1 hW.1 k (q_w_get G mem hsh) hc j hj (va_Nw.use rfl (hW.2.2.2.1 _ hlink)) (fun _ h => h) (q_fv_get _ _ hf) d (kk H locs ls hW hS hL)
theorem q_put (hX : q_C X cc nL own ret F Lo) {k ci index N : Nat} {x : Int32} {C : String} {T : u_T} {fs : List (Option Nat)} (hsh : q_sh[k]? = some (.inr (.inr (ci, fs)))) (hc : vwCl[ci]? = some (C, T, N)) (hin : ∀ w ∈ u_ws C T N, w ∈ q_T) (ty0 : Nat → FieldType) (hty : ∀ k, k < N → parseFieldDescriptor (T k).2.2.1 = some (ty0 k)) (hnm : ∀ a, a < N → ∀ b, b < N → a ≠ b → (T a).2.1 ≠ (T b).2.1) (j : Nat) (hj : j < N) (hf : fs[j]? = some none) (hfin : (T j).2.2.2 = false) (hd : parseFieldDescriptor (T j).2.2.1 = some .int) (hlink : (Cond.fieldLink own index (T j).1 (T j).2.1 (T j).2.2.1) ∈ q_T) (d : decode cc pc = .ok (.putfield index, 3)) (pc' : Nat) (ep : pc + 3 = pc') (kk : ∀ m1 : q_Mem, m1 = q_set mem k (upd (mem k) j x) → q_J X G nL QQ pc' lv st m1) : q_J X G nL QQ pc lv (.int x :: .ref (q_ad G k) :: st) mem := by
  subst ep
  intro H locs ls hW hS hL
  refine va_put hX.1.1 hX.1.2.1 hX.1.2.2.2.2 hin ty0 hty hnm hX.1.2.2.2.1 hW.2.1 hW.1 hW.2.2.1 hS k (q_w_get G mem hsh) hc j hj (hX.1.2.2.2.2 _ hlink) (fun _ h => h) hfin hd rfl rfl (by rw [List.length_mapIdx]; exact (List.getElem?_eq_some_iff.mp hf).1) d (fun H1 locs1 hP hD hS1 => ?_)
  have e : (q_w G mem).set k (G.2.1 k, .inr (ci, (fs.mapIdx (q_fv G.2.1 (mem k))).set j (.int x))) = q_w G (q_set mem k (upd (mem k) j x)) := by
    rw [q_fv_set G.2.1 (mem k) hf x]
    exact q_w_set G mem hsh (upd (mem k) j x)
  rw [e] at hP hD
  exact kk _ rfl H1 locs1 ls ⟨hP, hW.2.1, hD, hW.2.2.2⟩ hS1 hL
theorem q_al_sh {a n : Nat} (h : q_al a = n) (h0 : 0 < n) : q_sh[a]? = some (.inl n) := by
  unfold q_al at h
  split at h
  · rename_i m hm
    rw [hm, h]
  · omega
theorem q_al_in {a : Nat} {i : Int32} (h : vp_in i (q_al a)) : q_sh[a]? = some (.inl (q_al a)) := q_al_sh rfl (by
  have := vp_in_iff.mp h
  omega)
theorem q_iald (hX : q_C X cc nL own ret F Lo) {a : Nat} {i : Int32} (hin : vp_in i (q_al a)) (d : decode cc pc = .ok (.iaload, 1)) (pc' : Nat) (ep : pc + 1 = pc') (kk : q_J X G nL QQ pc' lv (.int (mem a i.toNatClampNeg) :: st) mem) : q_J X G nL QQ pc lv (.int i :: .ref (q_ad G a) :: st) mem := by
  subst ep
  exact fun H locs ls hW hS hL => va_iald hX.1.1 hX.1.2.1 hW.2.1 hW.1 a 0 (q_w_get G mem (q_al_in hin)) rfl hin d (kk H locs ls hW hS hL)
theorem q_iast (hX : q_C X cc nL own ret F Lo) {a : Nat} {i x : Int32} (hin : vp_in i (q_al a)) (d : decode cc pc = .ok (.iastore, 1)) (pc' : Nat) (ep : pc + 1 = pc') (kk : ∀ m1 : q_Mem, m1 = q_set mem a (upd (mem a) i.toNatClampNeg x) → q_J X G nL QQ pc' lv st m1) : q_J X G nL QQ pc lv (.int x :: .int i :: .ref (q_ad G a) :: st) mem := by
  subst ep
  intro H locs ls hW hS hL
  refine va_iast hX.1.1 hX.1.2.1 hW.2.1 hW.1 hW.2.2.1 hS a 0 (q_w_get G mem (q_al_in hin)) rfl hin d (fun H1 locs1 hP hD hS1 => ?_)
  have e : (q_w G mem).set a (G.2.1 a, .inl (G.2.2.1, q_al a, .inl (upd (mem a) i.toNatClampNeg x))) = q_w G (q_set mem a (upd (mem a) i.toNatClampNeg x)) := q_w_set G mem (q_al_in hin) (upd (mem a) i.toNatClampNeg x)
  rw [e] at hP hD
  exact kk _ rfl H1 locs1 ls ⟨hP, hW.2.1, hD, hW.2.2.2⟩ hS1 hL
theorem q_aald (hX : q_C X cc nL own ret F Lo) {a n r : Nat} {i : Int32} (hsh : q_sh[a]? = some (.inr (.inl (n, r)))) (hin : vp_in i n) (d : decode cc pc = .ok (.aaload, 1)) (pc' : Nat) (ep : pc + 1 = pc') (kk : q_J X G nL QQ pc' lv (.ref (q_ad G (r + i.toNatClampNeg)) :: st) mem) : q_J X G nL QQ pc lv (.int i :: .ref (q_ad G a) :: st) mem := by
  subst ep
  intro H locs ls hW hS hL
  have hlt : i.toNatClampNeg < n := Nat.not_le.mp fun q => hin (Or.inr q)
  have ha := q_w_get G mem hsh
  have hv : va_rf ((fun i => if i < n then some (G.2.1 (r + i)) else none) i.toNatClampNeg) = .ref (q_ad G (r + i.toNatClampNeg)) := by
    simp only [hlt, if_pos]
    rfl
  refine W.aald (v := va_rf ((fun i => if i < n then some (G.2.1 (r + i)) else none) i.toNatClampNeg)) (ty := .array .int) hX.1.1 hX.1.2.1 (hW.1 a _ ha) ((hW.2.1.2 1 _ rfl).1 n (fun j => va_rf ((fun i => if i < n then some (G.2.1 (r + i)) else none) j))) rfl (fun q => by cases q) (by show ¬ (i < 0 ∨ (arrV _ _ _).slots.size ≤ _); rw [arrV_size]; exact hin) (by show (arrV _ _ _).slots[_]? = _; rw [arrV_read _ _ hlt]) rfl rfl d ?_
  rw [hv]
  exact kk H locs ls hW hS hL
theorem q_alen (hX : q_C X cc nL own ret F Lo) {a : Nat} (h0 : 0 < q_al a) (d : decode cc pc = .ok (.arraylength, 1)) (pc' : Nat) (ep : pc + 1 = pc') (kk : q_J X G nL QQ pc' lv (.int (Int32.ofNat (q_al a)) :: st) mem) : q_J X G nL QQ pc lv (.ref (q_ad G a) :: st) mem := by
  subst ep
  exact fun H locs ls hW hS hL => va_alen hX.1.1 hX.1.2.1 hW.2.1 hW.1 a 0 (q_w_get G mem (q_al_sh rfl h0)) (ty := .int) rfl rfl d (kk H locs ls hW hS hL)
/-- what System.arraycopy asks -/
def q_cp (sp dp n : Int32) (a b : Nat) : Prop := (0 < q_al a ∧ 0 < q_al b) ∧ ¬ sp < 0 ∧ ¬ dp < 0 ∧ ¬ n < 0 ∧ sp.toNatClampNeg + n.toNatClampNeg ≤ q_al a ∧ dp.toNatClampNeg + n.toNatClampNeg ≤ q_al b
theorem q_copy (hX : q_C X cc nL own ret F Lo) {a b index : Nat} {sp dp n : Int32} (hc : q_cp sp dp n a b) (hF : 1 ≤ F) (hLo : (st.map fun v => v.category).sum + 18 ≤ Lo) (h1 : Cond.methodLink own index arraycopyName ∈ q_T) (h2 : Cond.native arraycopyName ∈ q_T) (h3 : Cond.static arraycopyName ∈ q_T) (h4 : Cond.initialized "java/lang/System" ∈ q_T) (d : decode cc pc = .ok (.invokestatic index, 3)) (pc' : Nat) (ep : pc + 3 = pc') (kk : ∀ m1 : q_Mem, m1 = q_set mem b (va_cpy (mem a) (mem b) sp.toNatClampNeg dp.toNatClampNeg n.toNatClampNeg) → q_J X G nL QQ pc' lv st m1) : q_J X G nL QQ pc lv (.int n :: .int dp :: .ref (q_ad G b) :: .int sp :: .ref (q_ad G a) :: st) mem := by
  subst ep
  intro H locs ls hW hS hL
  obtain ⟨⟨ha, hb⟩, g1, g2, g3, g4, g5⟩ := hc
  refine va_copyi hX.1.1 hX.1.2.1 (hX.1.2.2.1.trans hL.1.symm) hX.1.2.2.2.1 (hX.1.2.2.2.2 _ h1) (hX.1.2.2.2.2 _ h2) (hX.1.2.2.2.2 _ h3) (hX.1.2.2.2.2 _ h4) hW.2.1 hW.1 hW.2.2.1 hS a b 0 0 (q_w_get G mem (q_al_sh rfl ha)) (q_w_get G mem (q_al_sh rfl hb)) rfl rfl rfl g1 g2 g3 g4 g5 (fun _ _ => rfl) (Nat.le_trans hF hX.2.2.2.1) (Nat.le_trans hLo hX.2.2.2.2.1) d (fun H1 locs1 hP hD hS1 => ?_)
  have e : (q_w G mem).set b (G.2.1 b, .inl (G.2.2.1, q_al b, .inl (va_cpy (mem a) (mem b) sp.toNatClampNeg dp.toNatClampNeg n.toNatClampNeg))) = q_w G (q_set mem b (va_cpy (mem a) (mem b) sp.toNatClampNeg dp.toNatClampNeg n.toNatClampNeg)) := q_w_set G mem (q_al_sh rfl hb) _
  rw [e] at hP hD
  exact kk _ rfl H1 locs1 ls ⟨hP, hW.2.1, hD, hW.2.2.2⟩ hS1 hL
theorem q_max (hX : q_C X cc nL own ret F Lo) {index : Nat} {x y : Int32} (hF : 1 ≤ F) (hLo : (st.map fun v => v.category).sum + 13 ≤ Lo) (h1 : Cond.methodLink own index Lib.Math.max.name ∈ q_T) (h2 : Cond.static Lib.Math.max.name ∈ q_T) (h3 : Cond.initialized "java/lang/Math" ∈ q_T) (h4 : Cond.code Lib.Math.max.name Lib.Math.max.code 2 (some .int) ∈ q_T) (d : decode cc pc = .ok (.invokestatic index, 3)) (pc' : Nat) (ep : pc + 3 = pc') (kk : q_J X G nL QQ pc' lv (.int (if x < y then y else x) :: st) mem) : q_J X G nL QQ pc lv (.int y :: .int x :: st) mem := by
  subst ep
  exact fun H locs ls hW hS hL => va_mmax hX.1.1 hX.1.2.1 (hX.1.2.2.1.trans hL.1.symm) hX.1.2.2.2.1 (hX.1.2.2.2.2 _ h1) (hX.1.2.2.2.2 _ h2) (hX.1.2.2.2.2 _ h3) (hX.1.2.2.2.2 _ h4) (Nat.le_trans hF hX.2.2.2.1) (Nat.le_trans hLo hX.2.2.2.2.1) hX.2.2.2.2.2.1 hX.2.2.2.2.2.2 d (kk H locs ls hW hS hL)
theorem q_min (hX : q_C X cc nL own ret F Lo) {index : Nat} {x y : Int32} (hF : 1 ≤ F) (hLo : (st.map fun v => v.category).sum + 13 ≤ Lo) (h1 : Cond.methodLink own index Lib.Math.min.name ∈ q_T) (h2 : Cond.static Lib.Math.min.name ∈ q_T) (h3 : Cond.initialized "java/lang/Math" ∈ q_T) (h4 : Cond.code Lib.Math.min.name Lib.Math.min.code 2 (some .int) ∈ q_T) (d : decode cc pc = .ok (.invokestatic index, 3)) (pc' : Nat) (ep : pc + 3 = pc') (kk : q_J X G nL QQ pc' lv (.int (if y < x then y else x) :: st) mem) : q_J X G nL QQ pc lv (.int y :: .int x :: st) mem := by
  subst ep
  exact fun H locs ls hW hS hL => va_mmin hX.1.1 hX.1.2.1 (hX.1.2.2.1.trans hL.1.symm) hX.1.2.2.2.1 (hX.1.2.2.2.2 _ h1) (hX.1.2.2.2.2 _ h2) (hX.1.2.2.2.2 _ h3) (hX.1.2.2.2.2 _ h4) (Nat.le_trans hF hX.2.2.2.1) (Nat.le_trans hLo hX.2.2.2.2.1) hX.2.2.2.2.2.1 hX.2.2.2.2.2.2 d (kk H locs ls hW hS hL)
end QJ

/-- (wanting in the kit: the printed row va_mna names it) -/
def va_AOA (ty : FieldType) (U : State) : Prop := (Cond.arrayOver (.array ty)).before #[] U = true
theorem va_AOA.use {ty : FieldType} {A : Array Value} {U : State} (h : va_AOA ty U) : (Cond.arrayOver (.array ty)).before A U = true := h
/-! ===== BEGIN words of one list among another's, by their places ===== -/
theorem goodIn_r {big : List Cond} (ws : List Cond) (ps : List Nat) (hp : ws = ps.filterMap (fun i => big[i]?)) (h : ws.all goodWord = true) : GoodIn big ws := by
  intro w hw
  have h1 := List.all_eq_true.mp h w hw
  rw [hp] at hw
  obtain ⟨i, -, hi⟩ := List.mem_filterMap.mp hw
  have hm : w ∈ big := by first | exact List.mem_of_getElem? hi | exact List.getElem?_mem hi
  exact ⟨hm, good_of_word h1⟩
theorem goodIn_app {big a b : List Cond} (ha : GoodIn big a) (hb : GoodIn big b) : GoodIn big (a ++ b) := fun w h => (List.mem_append.mp h).elim (ha w) (hb w)
theorem goodIn_ca {big a b : List Cond} {c : Cond} (ha : GoodIn big (c :: a)) (hb : GoodIn big b) : GoodIn big (c :: (a ++ b)) := fun w h => (List.mem_cons.mp h).elim (fun e => ha w (List.mem_cons.mpr (Or.inl e))) (fun h => (List.mem_append.mp h).elim (fun h => ha w (List.mem_cons.mpr (Or.inr h))) (hb w))
theorem goodIn_sub {big ws : List Cond} (hm : ∀ w ∈ ws, w ∈ big) (h : ws.all goodWord = true) : GoodIn big ws := fun w hw => ⟨hm w hw, good_of_word (List.all_eq_true.mp h w hw)⟩
/-! ===== END ===== -/

/-! ===== BEGIN new T[n][m]: the outer array a place, the inner ones among the pooled ===== -/
/-- f, but v at every address of l -/
def vr_up {α : Type} (f : Nat → α) (l : List Nat) (v : α) : Nat → α := fun a => if a ∈ l then v else f a
theorem vr_up_in {α : Type} {f : Nat → α} {l : List Nat} {v : α} {a : Nat} (h : a ∈ l) : vr_up f l v a = v := if_pos h
theorem vr_up_ne {α : Type} {f : Nat → α} {l : List Nat} {v : α} {a : Nat} (h : a ∉ l) : vr_up f l v a = f a := if_neg h
theorem vr_rows {L l : List Nat} {f : Nat → va_E} {e : va_E} (h : ∀ a, a ∈ l → a ∉ L) : va_pl L f ++ l.map (fun a => (a, e)) = va_pl (L ++ l) (vr_up f l e) := by
  unfold va_pl
  rw [List.map_append]
  congr 1
  · apply List.map_congr_left
    intro a ha
    rw [vr_up_ne (fun q => h a q ha)]
  · apply List.map_congr_left
    intro a ha
    rw [vr_up_in ha]
theorem vr_lay {X rows : va_W} {x : Nat × va_E} {pl : va_W} {D : va_G} {cl : List vw_C} {H : Heap} (hP : va_P D cl (((X ++ pl) ++ [x]) ++ rows) H) : va_P D cl ((X ++ [x]) ++ (pl ++ rows)) H := by
  rw [List.append_assoc (X ++ pl)] at hP
  have h := va_P.swap hP
  rw [← List.append_assoc X] at h
  have h2 := va_P.swap h
  rw [List.append_assoc (X ++ [x])] at h2
  exact h2
theorem vr_layD {X rows : va_W} {x : Nat × va_E} {pl : va_W} {A : Nat → Prop} (hD : va_D A (((X ++ pl) ++ [x]) ++ rows)) : va_D A ((X ++ [x]) ++ (pl ++ rows)) := by
  rw [List.append_assoc (X ++ pl)] at hD
  have h := va_D.swap hD
  rw [← List.append_assoc X] at h
  have h2 := va_D.swap h
  rw [List.append_assoc (X ++ [x])] at h2
  exact h2
theorem vr_outer (c : ClassId) (N h0 : Nat) : ∀ i : Nat, Jvm.Free.Multi.outerC c N h0 i = arrV c N (fun j => va_rf (if j < i then some (h0 + 1 + j) else none))
  | 0 => by
    show ({ cls := c, slots := Array.replicate N .null, vm := .none } : Cell) = _
    rw [arrV_new]
    refine congrArg (arrV c N) (funext fun j => ?_)
    simp [va_rf]
  | i + 1 => by
    show (Jvm.Free.Multi.outerC c N h0 i).setSlot i (.ref (h0 + 1 + i)) = _
    rw [vr_outer c N h0 i, arrV_store]
    refine congrArg (arrV c N) (funext fun j => ?_)
    by_cases e : j = i
    · subst e
      simp [updV, va_rf]
    · by_cases h : j < i
      · simp [updV, e, h, Nat.lt_succ_of_lt h]
      · simp [updV, e, h, show ¬ j < i + 1 by omega]
section VGM
variable {p : Program} {l : Launch} {e : Env} {R : Room} {s : State} {m : MethodId} {args : Array Value} {below : List Frame} {meth : Method} {c : Code} {H : Heap} {locs : List Loc} {cells slots : Nat} {Q : State → Prop}
variable {cc : ByteArray} {pc : Nat} {ls : Array Slot} {rest : List Value} {D : va_G} {cl : List vw_C} {A : Nat → Prop} {a : Nat} {tys : List (ClassId × FieldType)} {ws : va_W} {H0 : Heap}
theorem va_mna {X : va_W} {L : List Nat} {f : Nat → va_E} {cc : ByteArray} (hexec : p.tables.exec = Jvm.exec) (hb : c.code = cc) {own : String} {index : Nat} {ty : FieldType} {cy : ClassId} (hown : s.vm.findClass own = some m.cls) (hclink : (Cond.classLink own index ("[" ++ (FieldType.array ty).toString)).before args s = true) (hover : va_AOA ty s) (harr : (Cond.arrayClass ty).before args s = true) (hcy : s.vm.findClass (FieldType.array ty).toString = some cy)
    (hK : va_K D cl tys s) (hP : va_P D cl (X ++ va_pl L f) H) (hD : va_D A (X ++ va_pl L f)) (hS : va_S A H0 H locs) (hA : ∀ q, H0.size ≤ q → A q) {n k : Int32} {N' K' : Nat} {z : vp_A} (hn : ¬ n < 0) (hk : ¬ k < 0) (hN : n.toNatClampNeg = N') (hM : k.toNatClampNeg = K')
    (hb1 : N' * 4 ≤ 536870912) (hb2 : K' * componentBytes ty ≤ 536870912) (hb3 : K' ≤ 536870912) (hdf : fits ty (defaultValue ty) = true) (hdd : (defaultValue ty).isDefault = true) (hcells : cells + (1 + N') ≤ R.cells) (hslots : slots + (N' + N' * K') ≤ R.slots) (hz : ∀ c : ClassId, Jvm.Free.Multi.innerC c K' (defaultValue ty) = vp_cell c z) (hdg : decode cc pc = .ok (.multianewarray index 2, 4))
    (kk : ∀ (q : Nat) (r : Nat → Nat) (cA : ClassId) (H1 : Heap), (∀ i j : Nat, i < N' → j < N' → r i = r j → i = j) → (∀ i : Nat, i < N' → r i ∉ L) → va_K D cl (tys ++ [(cA, .array ty)]) s →
      va_P D cl ((X ++ [(q, .inl (cA, N', .inr (.inr (.inr (.inr (fun i => if i < N' then some (r i) else none))))))]) ++ va_pl (L ++ (List.range N').map r) (vr_up f ((List.range N').map r) (.inl (cy, z)))) H1 → va_D A ((X ++ [(q, .inl (cA, N', .inr (.inr (.inr (.inr (fun i => if i < N' then some (r i) else none))))))]) ++ va_pl (L ++ (List.range N').map r) (vr_up f ((List.range N').map r) (.inl (cy, z)))) → va_S A H0 H1 locs →
      W p l e R s m args below meth c H1 locs (cells + 1 + N') (slots + N' + N' * K') Q (F0 m (pc + 4) ls (.ref q :: rest))) : W p l e R s m args below meth c H locs cells slots Q (F0 m pc ls (.int k :: .int n :: rest)) := by
  subst hN
  subst hM
  intro T hT Xs
  obtain ⟨vm₁, cA, comp, -, fA, fC, hO, -, X', step⟩ := Xs.multianewarray2F hexec hown hclink (va_AOA.use hover) harr (g := F0 m pc ls (.int k :: .int n :: rest)) rfl (by rw [hb]; exact hdg) rfl hn hk hb1 hb2 hb3 hdf hdd hcells hslots
  have ec : some cy = some comp := hcy.symm.trans fC
  cases ec
  generalize hF : Jvm.Free.Multi.fill (T.setVm vm₁) cA cy n.toNatClampNeg k.toNatClampNeg (defaultValue ty) n.toNatClampNeg = F at X' step
  have hTh : (T.setVm vm₁).heap = H := hT
  obtain ⟨f1, f2, -, -⟩ := Jvm.Free.Multi.fill_facts (T.setVm vm₁) cA cy n.toNatClampNeg k.toNatClampNeg (defaultValue ty) n.toNatClampNeg
  rw [hF, hTh] at f1 f2
  have hold : ∀ x : Nat, x < H.size → F.heap[x]? = H[x]? := fun x hx => by
    have := Jvm.Free.Multi.fill_old (T.setVm vm₁) cA cy n.toNatClampNeg k.toNatClampNeg (defaultValue ty) (a := x) (by rw [hTh]; exact hx) n.toNatClampNeg
    rw [hF, hTh] at this
    exact this
  have hrow : ∀ j : Nat, j < n.toNatClampNeg → F.heap[H.size + 1 + j]? = some (vp_cell cy z) := fun j hj => by
    have := Jvm.Free.Multi.fill_inner (T.setVm vm₁) cA cy n.toNatClampNeg k.toNatClampNeg (defaultValue ty) n.toNatClampNeg j hj
    rw [hF, hTh, hz] at this
    exact this
  have hout : Jvm.Free.Multi.outerC cA n.toNatClampNeg H.size n.toNatClampNeg = vp_cell cA (n.toNatClampNeg, .inr (.inr (.inr (.inr (fun i => if i < n.toNatClampNeg then some (H.size + 1 + i) else none))))) := by
    rw [vp_cell_q]
    exact vr_outer cA n.toNatClampNeg H.size n.toNatClampNeg
  rw [hout] at f2
  have hlt : ∀ a, a ∈ L → a < H.size := fun a ha => by
    obtain ⟨k9, hk9⟩ := va_pl_get (X := X) (f := f) ha
    exact (hP k9 _ hk9).lt
  have hnl : ∀ i : Nat, i < n.toNatClampNeg → H.size + 1 + i ∉ L := fun i _ h => by
    have := hlt _ h
    omega
  have hnm : ∀ a, a ∈ (List.range n.toNatClampNeg).map (fun i => H.size + 1 + i) → a ∉ L := fun a ha h => by
    obtain ⟨i, -, rfl⟩ := List.mem_map.mp ha
    have := hlt _ h
    omega
  have hP0 : va_P D cl (X ++ va_pl L f) F.heap := hP.kept (fun k9 x hx => hold x.1 ((hP k9 x hx).lt))
  have hP1 : va_P D cl ((X ++ va_pl L f) ++ [(H.size, .inl (cA, n.toNatClampNeg, .inr (.inr (.inr (.inr (fun i => if i < n.toNatClampNeg then some (H.size + 1 + i) else none))))))]) F.heap := hP0.app (fun k9 x hx => by
    have h0 : k9 < 1 := (List.getElem?_eq_some_iff.mp hx).1
    rw [show k9 = 0 by omega] at hx
    cases hx
    exact f2)
  have hP2 : va_P D cl (((X ++ va_pl L f) ++ [(H.size, .inl (cA, n.toNatClampNeg, .inr (.inr (.inr (.inr (fun i => if i < n.toNatClampNeg then some (H.size + 1 + i) else none))))))]) ++ ((List.range n.toNatClampNeg).map (fun i => H.size + 1 + i)).map (fun a => (a, .inl (cy, z)))) F.heap := hP1.app (fun k9 x hx => by
    obtain ⟨a, ha, rfl⟩ := List.mem_map.mp (List.mem_of_getElem? hx)
    obtain ⟨i, hi, rfl⟩ := List.mem_map.mp ha
    exact hrow i (List.mem_range.mp hi))
  have hD2 : va_D A (((X ++ va_pl L f) ++ [(H.size, .inl (cA, n.toNatClampNeg, .inr (.inr (.inr (.inr (fun i => if i < n.toNatClampNeg then some (H.size + 1 + i) else none))))))]) ++ ((List.range n.toNatClampNeg).map (fun i => H.size + 1 + i)).map (fun a => (a, .inl (cy, z)))) := by
    have hD1 := hD.push (e := .inl (cA, n.toNatClampNeg, .inr (.inr (.inr (.inr (fun i => if i < n.toNatClampNeg then some (H.size + 1 + i) else none)))))) hP rfl (hA _ hS.1)
    generalize hW1 : (X ++ va_pl L f) ++ [(H.size, .inl (cA, n.toNatClampNeg, .inr (.inr (.inr (.inr (fun i => if i < n.toNatClampNeg then some (H.size + 1 + i) else none))))))] = W1 at hD1 hP1 ⊢
    have hle : ∀ (k9 : Nat) (x : Nat × va_E), W1[k9]? = some x → x.1 ≤ H.size := fun k9 x hx => by
      rw [← hW1] at hx
      by_cases hl : k9 < (X ++ va_pl L f).length
      · rw [List.getElem?_append_left hl] at hx
        exact Nat.le_of_lt ((hP k9 x hx).lt)
      · rw [List.getElem?_append_right (by omega)] at hx
        have h0 : k9 - (X ++ va_pl L f).length < 1 := (List.getElem?_eq_some_iff.mp hx).1
        rw [show k9 - (X ++ va_pl L f).length = 0 by omega] at hx
        cases hx
        exact Nat.le_refl _
    have hr : ∀ (k9 : Nat) (x : Nat × va_E), (((List.range n.toNatClampNeg).map (fun i => H.size + 1 + i)).map (fun a => ((a, .inl (cy, z)) : Nat × va_E)))[k9]? = some x → x.1 = H.size + 1 + k9 := fun k9 x hx => by
      rw [List.getElem?_map, List.getElem?_map] at hx
      by_cases h9 : k9 < n.toNatClampNeg
      · rw [List.getElem?_range h9] at hx
        cases hx
        rfl
      · have hn0 : (List.range n.toNatClampNeg)[k9]? = none := List.getElem?_eq_none (by rw [List.length_range]; omega)
        rw [hn0] at hx
        cases hx
    refine ⟨fun i j x y hi hj hxy => ?_, fun k9 x hx => ?_⟩
    · by_cases h1 : i < W1.length <;> by_cases h2 : j < W1.length
      · rw [List.getElem?_append_left h1] at hi
        rw [List.getElem?_append_left h2] at hj
        exact hD1.1 i j x y hi hj hxy
      · rw [List.getElem?_append_left h1] at hi
        rw [List.getElem?_append_right (by omega)] at hj
        have := hle _ _ hi
        have := hr _ _ hj
        omega
      · rw [List.getElem?_append_right (by omega)] at hi
        rw [List.getElem?_append_left h2] at hj
        have := hle _ _ hj
        have := hr _ _ hi
        omega
      · rw [List.getElem?_append_right (by omega)] at hi hj
        have := hr _ _ hi
        have := hr _ _ hj
        omega
    · by_cases h1 : k9 < W1.length
      · rw [List.getElem?_append_left h1] at hx
        exact hD1.2 k9 x hx
      · rw [List.getElem?_append_right (by omega)] at hx
        have := hr _ _ hx
        exact hA _ (by have := hS.1; omega)
  have hAr : ArrOfT s cA (.array ty) := fun N9 z9 => by
    obtain ⟨-, k9, hk9, cm9, hkk9⟩ := (hO 0 0 0).1
    exact ⟨(fun q hq => by cases hq), k9, hk9, cm9, hkk9⟩
  have hK2 : va_K D cl (tys ++ [(cA, .array ty)]) s := ⟨hK.1, fun k9 x hx => by
    by_cases hl : k9 < tys.length
    · rw [List.getElem?_append_left hl] at hx
      exact hK.2 k9 x hx
    · rw [List.getElem?_append_right (by omega)] at hx
      have h0 : k9 - tys.length < 1 := (List.getElem?_eq_some_iff.mp hx).1
      rw [show k9 - tys.length = 0 by omega] at hx
      cases hx
      exact ⟨hAr, fA⟩⟩
  obtain ⟨t, a1, b1⟩ := kk H.size (fun i => H.size + 1 + i) cA F.heap (fun i j _ _ h => by have h9 : H.size + 1 + i = H.size + 1 + j := h; omega) hnl hK2 (by rw [← vr_rows hnm]; exact vr_lay hP2) (by rw [← vr_rows hnm]; exact vr_layD hD2) ⟨by rw [f1]; have := hS.1; omega, fun x h1 h2 => (hold x (Nat.lt_of_lt_of_le h1 hS.1)).trans (hS.2.1 x h1 h2), hS.2.2⟩ F rfl X'
  refine ⟨t, step t ?_, b1⟩
  have e : T.heap.size = H.size := by rw [hT]
  rw [e]
  exact a1
end VGM
/-! ===== END ===== -/

def RX0 : String := "WetWalls$OldWay"
def TX0 : u_T := fun k => match k with
  | 0 => ("WetWalls$OldWay", "leastBehind", "[I", true)
  | _ => ("WetWalls$OldWay", "order", "[I", true)
def tyX0 : Nat → FieldType := fun k => match k with
  | 0 => .array .int
  | _ => .array .int
abbrev wsX00 : List Cond := u_ws RX0 TX0 2
theorem nmX0 : ∀ a, a < 2 → ∀ b, b < 2 → a ≠ b → (TX0 a).2.1 ≠ (TX0 b).2.1 := by decide +kernel
theorem tyX0_ok : ∀ k, k < 2 → parseFieldDescriptor (TX0 k).2.2.1 = some (tyX0 k) := by decide +kernel
abbrev cX0_init : ByteArray := prog_2_method_1_code
def yX0_init : MethodName := ⟨RX0, "<init>", "()V"⟩
abbrev cX0_saturation : ByteArray := prog_2_method_2_code
def yX0_saturation : MethodName := ⟨RX0, "saturation", "(I)I"⟩
abbrev cX0_pressureIn : ByteArray := prog_2_method_3_code
def yX0_pressureIn : MethodName := ⟨RX0, "pressureIn", "(II)I"⟩
abbrev cX0_between : ByteArray := prog_2_method_4_code
def yX0_between : MethodName := ⟨RX0, "between", "(IIII)I"⟩
abbrev cX0_pressureAt : ByteArray := prog_2_method_5_code
def yX0_pressureAt : MethodName := ⟨RX0, "pressureAt", "(LWetWalls$Wall;[II)I"⟩
abbrev cX0_warmthAt : ByteArray := prog_2_method_6_code
def yX0_warmthAt : MethodName := ⟨RX0, "warmthAt", "(LWetWalls$Wall;[II)I"⟩
abbrev cX0_pressureBehind : ByteArray := prog_2_method_7_code
def yX0_pressureBehind : MethodName := ⟨RX0, "pressureBehind", "(LWetWalls$Wall;[II)I"⟩
abbrev cX0_warmthBehind : ByteArray := prog_2_method_8_code
def yX0_warmthBehind : MethodName := ⟨RX0, "warmthBehind", "(LWetWalls$Wall;[II)I"⟩
abbrev cX0_excessBehind : ByteArray := prog_2_method_9_code
def yX0_excessBehind : MethodName := ⟨RX0, "excessBehind", "(LWetWalls$Wall;[II)I"⟩
abbrev cX0_findBestOrder : ByteArray := prog_2_method_10_code
def yX0_findBestOrder : MethodName := ⟨RX0, "findBestOrder", "(LWetWalls$Wall;[I)I"⟩
abbrev cX0_weighSets : ByteArray := prog_2_method_11_code
def yX0_weighSets : MethodName := ⟨RX0, "weighSets", "(LWetWalls$Wall;[I)V"⟩
abbrev cX0_bestBehind : ByteArray := prog_2_method_12_code
def yX0_bestBehind : MethodName := ⟨RX0, "bestBehind", "(II)I"⟩
def RX1 : String := "WetWalls$Wall"
def TX1 : u_T := fun k => match k with
  | 0 => ("WetWalls$Wall", "corners", "[[I", true)
  | 1 => ("WetWalls$Wall", "room", "[I", true)
  | 2 => ("WetWalls$Wall", "steam", "[I", true)
  | 3 => ("WetWalls$Wall", "heat", "[I", true)
  | 4 => ("WetWalls$Wall", "curve", "[I", true)
  | 5 => ("WetWalls$Wall", "held", "[I", true)
  | 6 => ("WetWalls$Wall", "frost", "[I", true)
  | 7 => ("WetWalls$Wall", "mould", "[I", true)
  | 8 => ("WetWalls$Wall", "warm", "[I", true)
  | 9 => ("WetWalls$Wall", "sums", "[I", true)
  | 10 => ("WetWalls$Wall", "spare", "[I", true)
  | _ => ("WetWalls$Wall", "size", "I", false)
def tyX1 : Nat → FieldType := fun k => match k with
  | 0 => .array (.array .int)
  | 1 => .array .int
  | 2 => .array .int
  | 3 => .array .int
  | 4 => .array .int
  | 5 => .array .int
  | 6 => .array .int
  | 7 => .array .int
  | 8 => .array .int
  | 9 => .array .int
  | 10 => .array .int
  | _ => .int
abbrev wsX10 : List Cond := u_ws RX1 TX1 12
theorem nmX1 : ∀ a, a < 12 → ∀ b, b < 12 → a ≠ b → (TX1 a).2.1 ≠ (TX1 b).2.1 := by decide +kernel
theorem tyX1_ok : ∀ k, k < 12 → parseFieldDescriptor (TX1 k).2.2.1 = some (tyX1 k) := by decide +kernel
abbrev cX1_init : ByteArray := prog_3_method_1_code
def yX1_init : MethodName := ⟨RX1, "<init>", "()V"⟩
abbrev cX1_firstLayers : ByteArray := prog_3_method_2_code
def yX1_firstLayers : MethodName := ⟨RX1, "firstLayers", "(I)I"⟩
abbrev cX1_has : ByteArray := prog_3_method_3_code
def yX1_has : MethodName := ⟨RX1, "has", "(I)Z"⟩
abbrev cX1_addInside : ByteArray := prog_3_method_4_code
def yX1_addInside : MethodName := ⟨RX1, "addInside", "(IIII)V"⟩
abbrev cX1_empty : ByteArray := prog_3_method_5_code
def yX1_empty : MethodName := ⟨RX1, "empty", "()V"⟩
abbrev cX1_becomeAs : ByteArray := prog_3_method_6_code
def yX1_becomeAs : MethodName := ⟨RX1, "becomeAs", "(LWetWalls$Wall;)V"⟩
abbrev cX1_copyRow : ByteArray := prog_3_method_7_code
def yX1_copyRow : MethodName := ⟨RX1, "copyRow", "([I[I)V"⟩
abbrev cX1_standInOrder : ByteArray := prog_3_method_8_code
def yX1_standInOrder : MethodName := ⟨RX1, "standInOrder", "([I)V"⟩
abbrev cX1_reorder : ByteArray := prog_3_method_9_code
def yX1_reorder : MethodName := ⟨RX1, "reorder", "([I[I)V"⟩
abbrev cX1_tellOf : ByteArray := prog_3_method_10_code
def yX1_tellOf : MethodName := ⟨RX1, "tellOf", "(II)I"⟩
abbrev cX1_dampOf : ByteArray := prog_3_method_11_code
def yX1_dampOf : MethodName := ⟨RX1, "dampOf", "(I)I"⟩
abbrev cX1_allWater : ByteArray := prog_3_method_12_code
def yX1_allWater : MethodName := ⟨RX1, "allWater", "()I"⟩
abbrev cX1_holdsSameWaterAs : ByteArray := prog_3_method_13_code
def yX1_holdsSameWaterAs : MethodName := ⟨RX1, "holdsSameWaterAs", "(LWetWalls$Wall;)Z"⟩
abbrev cX1_letHourPass : ByteArray := prog_3_method_14_code
def yX1_letHourPass : MethodName := ⟨RX1, "letHourPass", "([II)V"⟩
abbrev cX1_moveWater : ByteArray := prog_3_method_15_code
def yX1_moveWater : MethodName := ⟨RX1, "moveWater", "([II)V"⟩
abbrev cX1_takeRain : ByteArray := prog_3_method_16_code
def yX1_takeRain : MethodName := ⟨RX1, "takeRain", "(I)V"⟩
abbrev cX1_crossBorder : ByteArray := prog_3_method_17_code
def yX1_crossBorder : MethodName := ⟨RX1, "crossBorder", "(I[I)V"⟩
abbrev cX1_steamResist : ByteArray := prog_3_method_18_code
def yX1_steamResist : MethodName := ⟨RX1, "steamResist", "(I)I"⟩
abbrev cX1_waterToGive : ByteArray := prog_3_method_19_code
def yX1_waterToGive : MethodName := ⟨RX1, "waterToGive", "(I)I"⟩
abbrev cX1_freeRoom : ByteArray := prog_3_method_20_code
def yX1_freeRoom : MethodName := ⟨RX1, "freeRoom", "(I)I"⟩
abbrev cX1_addWater : ByteArray := prog_3_method_21_code
def yX1_addWater : MethodName := ⟨RX1, "addWater", "(II)V"⟩
abbrev cX1_feelWarmth : ByteArray := prog_3_method_22_code
def yX1_feelWarmth : MethodName := ⟨RX1, "feelWarmth", "(II)V"⟩
abbrev cX1_countFrost : ByteArray := prog_3_method_23_code
def yX1_countFrost : MethodName := ⟨RX1, "countFrost", "(I)V"⟩
abbrev cX1_countMould : ByteArray := prog_3_method_24_code
def yX1_countMould : MethodName := ⟨RX1, "countMould", "(I)V"⟩
abbrev cX1_resistOf : ByteArray := prog_3_method_25_code
def yX1_resistOf : MethodName := ⟨RX1, "resistOf", "([II)I"⟩
def RX2 : String := "WetWalls"
def TX2 : u_T := fun k => match k with
  | 0 => ("WetWalls", "wall", "LWetWalls$Wall;", true)
  | 1 => ("WetWalls", "trialWall", "LWetWalls$Wall;", true)
  | 2 => ("WetWalls", "oldWay", "LWetWalls$OldWay;", true)
  | 3 => ("WetWalls", "hours", "[[I", true)
  | 4 => ("WetWalls", "hoursHeld", "I", false)
  | 5 => ("WetWalls", "nextHour", "I", false)
  | 6 => ("WetWalls", "shareNow", "I", false)
  | 7 => ("WetWalls", "readings", "[[I", true)
  | 8 => ("WetWalls", "readingsHeld", "I", false)
  | _ => ("WetWalls", "fitsDone", "I", false)
def tyX2 : Nat → FieldType := fun k => match k with
  | 0 => .object "WetWalls$Wall"
  | 1 => .object "WetWalls$Wall"
  | 2 => .object "WetWalls$OldWay"
  | 3 => .array (.array .int)
  | 4 => .int
  | 5 => .int
  | 6 => .int
  | 7 => .array (.array .int)
  | 8 => .int
  | _ => .int
abbrev wsX20 : List Cond := u_ws RX2 TX2 10
theorem nmX2 : ∀ a, a < 10 → ∀ b, b < 10 → a ≠ b → (TX2 a).2.1 ≠ (TX2 b).2.1 := by decide +kernel
theorem tyX2_ok : ∀ k, k < 10 → parseFieldDescriptor (TX2 k).2.2.1 = some (tyX2 k) := by decide +kernel
abbrev cX2_init : ByteArray := prog_1_method_1_code
def yX2_init : MethodName := ⟨RX2, "<init>", "()V"⟩
abbrev cX2_layer : ByteArray := prog_1_method_2_code
def yX2_layer : MethodName := ⟨RX2, "layer", "(IIII)I"⟩
abbrev cX2_clear : ByteArray := prog_1_method_3_code
def yX2_clear : MethodName := ⟨RX2, "clear", "()I"⟩
abbrev cX2_corner : ByteArray := prog_1_method_4_code
def yX2_corner : MethodName := ⟨RX2, "corner", "(III)I"⟩
abbrev cX2_water : ByteArray := prog_1_method_5_code
def yX2_water : MethodName := ⟨RX2, "water", "(II)I"⟩
abbrev cX2_about : ByteArray := prog_1_method_6_code
def yX2_about : MethodName := ⟨RX2, "about", "(II)I"⟩
abbrev cX2_hour : ByteArray := prog_1_method_7_code
def yX2_hour : MethodName := ⟨RX2, "hour", "(IIIII)I"⟩
abbrev cX2_fair : ByteArray := prog_1_method_8_code
def yX2_fair : MethodName := ⟨RX2, "fair", "()I"⟩
abbrev cX2_share : ByteArray := prog_1_method_9_code
def yX2_share : MethodName := ⟨RX2, "share", "(I)I"⟩
abbrev cX2_pass : ByteArray := prog_1_method_10_code
def yX2_pass : MethodName := ⟨RX2, "pass", "(I)I"⟩
abbrev cX2_steady : ByteArray := prog_1_method_11_code
def yX2_steady : MethodName := ⟨RX2, "steady", "(I)I"⟩
abbrev cX2_sum : ByteArray := prog_1_method_12_code
def yX2_sum : MethodName := ⟨RX2, "sum", "(I)I"⟩
abbrev cX2_pressure : ByteArray := prog_1_method_13_code
def yX2_pressure : MethodName := ⟨RX2, "pressure", "(II)I"⟩
abbrev cX2_warmth : ByteArray := prog_1_method_14_code
def yX2_warmth : MethodName := ⟨RX2, "warmth", "(II)I"⟩
abbrev cX2_excess : ByteArray := prog_1_method_15_code
def yX2_excess : MethodName := ⟨RX2, "excess", "(II)I"⟩
abbrev cX2_best : ByteArray := prog_1_method_16_code
def yX2_best : MethodName := ⟨RX2, "best", "(I)I"⟩
abbrev cX2_placed : ByteArray := prog_1_method_17_code
def yX2_placed : MethodName := ⟨RX2, "placed", "(II)I"⟩
abbrev cX2_arrange : ByteArray := prog_1_method_18_code
def yX2_arrange : MethodName := ⟨RX2, "arrange", "(I)I"⟩
abbrev cX2_read : ByteArray := prog_1_method_19_code
def yX2_read : MethodName := ⟨RX2, "read", "(IIII)I"⟩
abbrev cX2_forget : ByteArray := prog_1_method_20_code
def yX2_forget : MethodName := ⟨RX2, "forget", "()I"⟩
abbrev cX2_fits : ByteArray := prog_1_method_21_code
def yX2_fits : MethodName := ⟨RX2, "fits", "()I"⟩
abbrev cX2_count : ByteArray := prog_1_method_22_code
def yX2_count : MethodName := ⟨RX2, "count", "(I)I"⟩
abbrev cX2_digest : ByteArray := prog_1_method_23_code
def yX2_digest : MethodName := ⟨RX2, "digest", "()J"⟩
abbrev cX2_within : ByteArray := prog_1_method_24_code
def yX2_within : MethodName := ⟨RX2, "within", "(III)Z"⟩
abbrev cX2_isDamp : ByteArray := prog_1_method_25_code
def yX2_isDamp : MethodName := ⟨RX2, "isDamp", "(I)Z"⟩
abbrev cX2_isWarmth : ByteArray := prog_1_method_26_code
def yX2_isWarmth : MethodName := ⟨RX2, "isWarmth", "(I)Z"⟩
abbrev cX2_partDown : ByteArray := prog_1_method_27_code
def yX2_partDown : MethodName := ⟨RX2, "partDown", "(II)I"⟩
abbrev cX2_partCut : ByteArray := prog_1_method_28_code
def yX2_partCut : MethodName := ⟨RX2, "partCut", "(II)I"⟩
abbrev cX2_mix : ByteArray := prog_1_method_29_code
def yX2_mix : MethodName := ⟨RX2, "mix", "(JJ)J"⟩
abbrev cX2_mixRow : ByteArray := prog_1_method_30_code
def yX2_mixRow : MethodName := ⟨RX2, "mixRow", "(J[II)J"⟩
abbrev cX2_nothingCanPass : ByteArray := prog_1_method_31_code
def yX2_nothingCanPass : MethodName := ⟨RX2, "nothingCanPass", "()Z"⟩
abbrev cX2_hourBehind : ByteArray := prog_1_method_32_code
def yX2_hourBehind : MethodName := ⟨RX2, "hourBehind", "(I)I"⟩
abbrev cX2_roundKeepsWater : ByteArray := prog_1_method_33_code
def yX2_roundKeepsWater : MethodName := ⟨RX2, "roundKeepsWater", "()Z"⟩
abbrev cX2_hourRefusal : ByteArray := prog_1_method_34_code
def yX2_hourRefusal : MethodName := ⟨RX2, "hourRefusal", "(I)I"⟩
abbrev cX2_faceRefusal : ByteArray := prog_1_method_35_code
def yX2_faceRefusal : MethodName := ⟨RX2, "faceRefusal", "(II)I"⟩
abbrev cX2_lastHourRead : ByteArray := prog_1_method_36_code
def yX2_lastHourRead : MethodName := ⟨RX2, "lastHourRead", "()I"⟩
abbrev cX2_readingsHoldWith : ByteArray := prog_1_method_37_code
def yX2_readingsHoldWith : MethodName := ⟨RX2, "readingsHoldWith", "(II)Z"⟩
abbrev cX2_readingsHoldBehind : ByteArray := prog_1_method_38_code
def yX2_readingsHoldBehind : MethodName := ⟨RX2, "readingsHoldBehind", "(I)Z"⟩
abbrev cX2_tellCount : ByteArray := prog_1_method_39_code
def yX2_tellCount : MethodName := ⟨RX2, "tellCount", "(I)I"⟩
def RX3 : String := "WetWallsModel"
def TX3 : u_T := fun k => match k with
  | 0 => ("WetWallsModel", "n", "I", false)
  | 1 => ("WetWallsModel", "room", "[I", true)
  | 2 => ("WetWallsModel", "steam", "[I", true)
  | 3 => ("WetWallsModel", "heat", "[I", true)
  | 4 => ("WetWallsModel", "curve", "[I", true)
  | 5 => ("WetWallsModel", "water", "[I", true)
  | 6 => ("WetWallsModel", "frost", "[I", true)
  | 7 => ("WetWallsModel", "mould", "[I", true)
  | 8 => ("WetWallsModel", "warm", "[I", true)
  | 9 => ("WetWallsModel", "corners", "[I", true)
  | 10 => ("WetWallsModel", "sums", "[I", true)
  | 11 => ("WetWallsModel", "hours", "I", false)
  | 12 => ("WetWallsModel", "next", "I", false)
  | 13 => ("WetWallsModel", "share", "I", false)
  | 14 => ("WetWallsModel", "weather", "[I", true)
  | 15 => ("WetWallsModel", "before", "[I", true)
  | 16 => ("WetWallsModel", "order", "[I", true)
  | 17 => ("WetWallsModel", "bestOrder", "[I", true)
  | 18 => ("WetWallsModel", "aside", "[I", true)
  | 19 => ("WetWallsModel", "readings", "I", false)
  | 20 => ("WetWallsModel", "readLayer", "[I", true)
  | 21 => ("WetWallsModel", "readBehind", "[I", true)
  | 22 => ("WetWallsModel", "readLow", "[I", true)
  | 23 => ("WetWallsModel", "readHigh", "[I", true)
  | 24 => ("WetWallsModel", "fitted", "I", false)
  | _ => ("WetWallsModel", "sumsAside", "[I", true)
def tyX3 : Nat → FieldType := fun k => match k with
  | 0 => .int
  | 1 => .array .int
  | 2 => .array .int
  | 3 => .array .int
  | 4 => .array .int
  | 5 => .array .int
  | 6 => .array .int
  | 7 => .array .int
  | 8 => .array .int
  | 9 => .array .int
  | 10 => .array .int
  | 11 => .int
  | 12 => .int
  | 13 => .int
  | 14 => .array .int
  | 15 => .array .int
  | 16 => .array .int
  | 17 => .array .int
  | 18 => .array .int
  | 19 => .int
  | 20 => .array .int
  | 21 => .array .int
  | 22 => .array .int
  | 23 => .array .int
  | 24 => .int
  | _ => .array .int
abbrev wsX30 : List Cond := u_ws RX3 TX3 26
theorem nmX3 : ∀ a, a < 26 → ∀ b, b < 26 → a ≠ b → (TX3 a).2.1 ≠ (TX3 b).2.1 := by decide +kernel
theorem tyX3_ok : ∀ k, k < 26 → parseFieldDescriptor (TX3 k).2.2.1 = some (tyX3 k) := by decide +kernel
abbrev cX3_init : ByteArray := prog_5_method_1_code
def yX3_init : MethodName := ⟨RX3, "<init>", "()V"⟩
abbrev cX3_in : ByteArray := prog_5_method_2_code
def yX3_in : MethodName := ⟨RX3, "in", "(JJJ)Z"⟩
abbrev cX3_floor : ByteArray := prog_5_method_3_code
def yX3_floor : MethodName := ⟨RX3, "floor", "(II)I"⟩
abbrev cX3_isLayer : ByteArray := prog_5_method_4_code
def yX3_isLayer : MethodName := ⟨RX3, "isLayer", "(I)Z"⟩
abbrev cX3_layer : ByteArray := prog_5_method_5_code
def yX3_layer : MethodName := ⟨RX3, "layer", "(IIII)I"⟩
abbrev cX3_clear : ByteArray := prog_5_method_6_code
def yX3_clear : MethodName := ⟨RX3, "clear", "()I"⟩
abbrev cX3_corner : ByteArray := prog_5_method_7_code
def yX3_corner : MethodName := ⟨RX3, "corner", "(III)I"⟩
abbrev cX3_water : ByteArray := prog_5_method_8_code
def yX3_water : MethodName := ⟨RX3, "water", "(II)I"⟩
abbrev cX3_damp : ByteArray := prog_5_method_9_code
def yX3_damp : MethodName := ⟨RX3, "damp", "(I)I"⟩
abbrev cX3_aboutOf : ByteArray := prog_5_method_10_code
def yX3_aboutOf : MethodName := ⟨RX3, "aboutOf", "(II)I"⟩
abbrev cX3_about : ByteArray := prog_5_method_11_code
def yX3_about : MethodName := ⟨RX3, "about", "(II)I"⟩
abbrev cX3_hour : ByteArray := prog_5_method_12_code
def yX3_hour : MethodName := ⟨RX3, "hour", "(IIIII)I"⟩
abbrev cX3_fair : ByteArray := prog_5_method_13_code
def yX3_fair : MethodName := ⟨RX3, "fair", "()I"⟩
abbrev cX3_share : ByteArray := prog_5_method_14_code
def yX3_share : MethodName := ⟨RX3, "share", "(I)I"⟩
abbrev cX3_heatOf : ByteArray := prog_5_method_15_code
def yX3_heatOf : MethodName := ⟨RX3, "heatOf", "(I)I"⟩
abbrev cX3_cross : ByteArray := prog_5_method_16_code
def yX3_cross : MethodName := ⟨RX3, "cross", "(II)V"⟩
abbrev cX3_goOn : ByteArray := prog_5_method_17_code
def yX3_goOn : MethodName := ⟨RX3, "goOn", "()V"⟩
abbrev cX3_mayGo : ByteArray := prog_5_method_18_code
def yX3_mayGo : MethodName := ⟨RX3, "mayGo", "()Z"⟩
abbrev cX3_pass : ByteArray := prog_5_method_19_code
def yX3_pass : MethodName := ⟨RX3, "pass", "(I)I"⟩
abbrev cX3_steady : ByteArray := prog_5_method_20_code
def yX3_steady : MethodName := ⟨RX3, "steady", "(I)I"⟩
abbrev cX3_sum : ByteArray := prog_5_method_21_code
def yX3_sum : MethodName := ⟨RX3, "sum", "(I)I"⟩
abbrev cX3_isHour : ByteArray := prog_5_method_22_code
def yX3_isHour : MethodName := ⟨RX3, "isHour", "(I)Z"⟩
abbrev cX3_plain : ByteArray := prog_5_method_23_code
def yX3_plain : MethodName := ⟨RX3, "plain", "()V"⟩
abbrev cX3_saturation : ByteArray := prog_5_method_24_code
def yX3_saturation : MethodName := ⟨RX3, "saturation", "(I)I"⟩
abbrev cX3_between : ByteArray := prog_5_method_25_code
def yX3_between : MethodName := ⟨RX3, "between", "(IIIZ)I"⟩
abbrev cX3_pressureOf : ByteArray := prog_5_method_26_code
def yX3_pressureOf : MethodName := ⟨RX3, "pressureOf", "(II)I"⟩
abbrev cX3_warmthOf : ByteArray := prog_5_method_27_code
def yX3_warmthOf : MethodName := ⟨RX3, "warmthOf", "(II)I"⟩
abbrev cX3_excessOf : ByteArray := prog_5_method_28_code
def yX3_excessOf : MethodName := ⟨RX3, "excessOf", "(II)I"⟩
abbrev cX3_refusal : ByteArray := prog_5_method_29_code
def yX3_refusal : MethodName := ⟨RX3, "refusal", "(I)I"⟩
abbrev cX3_pressure : ByteArray := prog_5_method_30_code
def yX3_pressure : MethodName := ⟨RX3, "pressure", "(II)I"⟩
abbrev cX3_warmth : ByteArray := prog_5_method_31_code
def yX3_warmth : MethodName := ⟨RX3, "warmth", "(II)I"⟩
abbrev cX3_excess : ByteArray := prog_5_method_32_code
def yX3_excess : MethodName := ⟨RX3, "excess", "(II)I"⟩
abbrev cX3_goOnOrder : ByteArray := prog_5_method_33_code
def yX3_goOnOrder : MethodName := ⟨RX3, "goOnOrder", "()Z"⟩
abbrev cX3_swap : ByteArray := prog_5_method_34_code
def yX3_swap : MethodName := ⟨RX3, "swap", "(II)V"⟩
abbrev cX3_findBest : ByteArray := prog_5_method_35_code
def yX3_findBest : MethodName := ⟨RX3, "findBest", "(I)I"⟩
abbrev cX3_best : ByteArray := prog_5_method_36_code
def yX3_best : MethodName := ⟨RX3, "best", "(I)I"⟩
abbrev cX3_placed : ByteArray := prog_5_method_37_code
def yX3_placed : MethodName := ⟨RX3, "placed", "(II)I"⟩
abbrev cX3_layAside : ByteArray := prog_5_method_38_code
def yX3_layAside : MethodName := ⟨RX3, "layAside", "()V"⟩
abbrev cX3_fetch : ByteArray := prog_5_method_39_code
def yX3_fetch : MethodName := ⟨RX3, "fetch", "(II)V"⟩
abbrev cX3_arrange : ByteArray := prog_5_method_40_code
def yX3_arrange : MethodName := ⟨RX3, "arrange", "(I)I"⟩
abbrev cX3_read : ByteArray := prog_5_method_41_code
def yX3_read : MethodName := ⟨RX3, "read", "(IIII)I"⟩
abbrev cX3_forget : ByteArray := prog_5_method_42_code
def yX3_forget : MethodName := ⟨RX3, "forget", "()I"⟩
abbrev cX3_fits : ByteArray := prog_5_method_43_code
def yX3_fits : MethodName := ⟨RX3, "fits", "()I"⟩
abbrev cX3_count : ByteArray := prog_5_method_44_code
def yX3_count : MethodName := ⟨RX3, "count", "(I)I"⟩
abbrev cX3_digest : ByteArray := prog_5_method_45_code
def yX3_digest : MethodName := ⟨RX3, "digest", "()J"⟩
def RJ9 : String := "java/lang/Math"
def TJ9 : u_T := fun k => match k with
  | _ => ("", "", "", false)
def tyJ9 : Nat → FieldType := fun k => match k with
  | _ => .int
abbrev wsJ90 : List Cond := u_ws RJ9 TJ9 0
theorem nmJ9 : ∀ a, a < 0 → ∀ b, b < 0 → a ≠ b → (TJ9 a).2.1 ≠ (TJ9 b).2.1 := by decide +kernel
theorem tyJ9_ok : ∀ k, k < 0 → parseFieldDescriptor (TJ9 k).2.2.1 = some (tyJ9 k) := by decide +kernel
abbrev cJ9_max_7cf53 : ByteArray := prog_6_method_65_code
def yJ9_max_7cf53 : MethodName := ⟨RJ9, "max", "(II)I"⟩
abbrev cJ9_min_7cf53 : ByteArray := prog_6_method_69_code
def yJ9_min_7cf53 : MethodName := ⟨RJ9, "min", "(II)I"⟩
def RJ10 : String := "java/lang/System"
def TJ10 : u_T := fun k => match k with
  | _ => ("", "", "", false)
def tyJ10 : Nat → FieldType := fun k => match k with
  | _ => .int
abbrev wsJ100 : List Cond := u_ws RJ10 TJ10 0
theorem nmJ10 : ∀ a, a < 0 → ∀ b, b < 0 → a ≠ b → (TJ10 a).2.1 ≠ (TJ10 b).2.1 := by decide +kernel
theorem tyJ10_ok : ∀ k, k < 0 → parseFieldDescriptor (TJ10 k).2.2.1 = some (tyJ10 k) := by decide +kernel
def RL : String := "WetWallsLaw"
abbrev cL_law : ByteArray := code
def yL_law : MethodName := ⟨RL, "law", "([I)Z"⟩

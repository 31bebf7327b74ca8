
/-! ===== constructors: a judgement over a growing list of cells ===== -/
theorem va_AOA.moved {ty : FieldType} {u U : State} (hvm : u.vm.Alike U.vm) (h : va_AOA ty u) : va_AOA ty U := ((Cond.arrayOver_setVmC (args := #[]) (s := u) hvm (.array ty)).trans h : (Cond.arrayOver (.array ty)).before #[] (u.setVm U.vm) = true)
abbrev q_E : Type := va_G × ClassId × ClassId × Nat × Nat
/-- what a constructor may take as given of the tables and of the one static row: E = (D, [I, [[I, the size at the start, the row's address) -/
def q_A0 (E : q_E) : Nat → Prop := fun q => E.2.2.2.1 ≤ q
def q_F0 (j : Nat) : Int32 := match j with
  | 0 => 0
  | 1 => 250
  | 2 => 500
  | 3 => 750
  | _ => 1000
def q_T0 (E : q_E) (U : State) : Prop := va_K E.1 vwCl [(E.2.1, .int), (E.2.2.1, .array .int)] U ∧ q_Nst U ∧ va_AOA .int U
def q_H0 (E : q_E) (U : State) (H : Heap) : Prop := va_Z "WetWalls" "FIRST_CORNERS" "[I" (.ref E.2.2.2.2) (q_A0 E) U H ∧ va_X E.2.2.2.2 5 q_F0 U H ∧ E.2.2.2.2 < E.2.2.2.1 ∧ E.2.2.2.1 ≤ H.size
theorem q_T0.alike {E : q_E} {s U : State} (hvm : s.vm.Alike U.vm) (hN : q_Nst U) (h : q_T0 E s) : q_T0 E U := ⟨va_K.moved hvm h.1, hN, h.2.2.moved hvm⟩
theorem q_H0.kept {E : q_E} {s U : State} {H H1 : Heap} (hvm : s.vm.Alike U.vm) (hz : H.size ≤ H1.size) (hk : ∀ q : Nat, q < H.size → ¬ q_A0 E q → H1[q]? = H[q]?) (h : q_H0 E s H) : q_H0 E U H1 := by
  obtain ⟨h1, h2, h3, h4⟩ := h
  refine ⟨(h1.moved hvm).kept hk, (h2.moved hvm).kept (hk _ (Nat.lt_of_lt_of_le h3 h4) (Nat.not_le.mpr h3)), h3, Nat.le_trans h4 hz⟩
def q_N (X : q_X) (E : q_E) (nL : Nat) (QQ : State → Prop) (cells slots : Nat) (pc : Nat) (lv : List (Option Value)) (st : List Value) (w : va_W) : Prop :=
  ∀ (H : Heap) (locs : List Loc) (ls : Array Slot), va_P E.1 vwCl w H → va_D (q_A0 E) w → va_S (q_A0 E) (q_s X).heap H locs → q_L ls nL lv →
    W X.1 X.2.1 X.2.2.1 X.2.2.2.1 X.2.2.2.2.1 X.2.2.2.2.2.1 X.2.2.2.2.2.2.1 X.2.2.2.2.2.2.2.1 X.2.2.2.2.2.2.2.2.1 X.2.2.2.2.2.2.2.2.2.1 H locs cells slots QQ (F0 X.2.2.2.2.2.1 pc ls st)
theorem q_at {w : va_W} {l : va_W} {k : Nat} {e : Nat × va_E} (h : l[k]? = some e) : (w ++ l)[w.length + k]? = some e := by
  rw [List.getElem?_append_right (Nat.le_add_right _ _), Nat.add_sub_cancel_left]
  exact h
theorem q_sa (w l : va_W) (k : Nat) (e : Nat × va_E) : (w ++ l).set (w.length + k) e = w ++ l.set k e := by
  rw [List.set_append_right _ _ (Nat.le_add_right _ _), Nat.add_sub_cancel_left]
theorem q_intOnly {E : q_E} {U : State} {c : ClassId} (hT : q_T0 E U) (h : va_RA U c .int) : c = E.2.1 := Option.some.inj ((show U.vm.findClass _ = some c from h).symm.trans (hT.1.2 0 _ rfl).2)
theorem q_arrOnly {E : q_E} {U : State} {c : ClassId} (hT : q_T0 E U) (h : va_RA U c (.array .int)) : c = E.2.2.1 := Option.some.inj ((show U.vm.findClass _ = some c from h).symm.trans (hT.1.2 1 _ rfl).2)
section QN
variable {X : q_X} {E : q_E} {nL : Nat} {QQ : State → Prop} {cells slots pc : Nat} {lv : List (Option Value)} {st : List Value} {w l : va_W} {cc : ByteArray} {own : String} {ret : Option FieldType} {F Lo : Nat}
theorem n_iconst (hX : q_C X cc nL own ret F Lo) {n : Int} (v : Int32) (hv : Int32.ofInt n = v) (d : decode cc pc = .ok (.iconst n, 1)) (pc' : Nat) (ep : pc + 1 = pc') (k : q_N X E nL QQ cells slots pc' lv (.int v :: st) w) : q_N X E nL QQ cells slots pc lv (st) w := by
  subst ep
  exact fun H locs ls hP hD hS hL => lv_iconst hX.1.1 hX.1.2.1 d hv (k H locs ls hP hD hS hL)
theorem n_bipush (hX : q_C X cc nL own ret F Lo) {n : Int} (v : Int32) (hv : (Int8.ofInt n).toInt32 = v) (d : decode cc pc = .ok (.bipush n, 2)) (pc' : Nat) (ep : pc + 2 = pc') (k : q_N X E nL QQ cells slots pc' lv (.int v :: st) w) : q_N X E nL QQ cells slots pc lv (st) w := by
  subst ep
  exact fun H locs ls hP hD hS hL => lv_bipush hX.1.1 hX.1.2.1 d hv (k H locs ls hP hD hS hL)
theorem n_sipush (hX : q_C X cc nL own ret F Lo) {n : Int} (v : Int32) (hv : (Int16.ofInt n).toInt32 = v) (d : decode cc pc = .ok (.sipush n, 3)) (pc' : Nat) (ep : pc + 3 = pc') (k : q_N X E nL QQ cells slots pc' lv (.int v :: st) w) : q_N X E nL QQ cells slots pc lv (st) w := by
  subst ep
  exact fun H locs ls hP hD hS hL => lv_sipush hX.1.1 hX.1.2.1 d hv (k H locs ls hP hD hS hL)
theorem n_iload_n (hX : q_C X cc nL own ret F Lo) {j : Fin 4} {x : Int32} (hl : lv[(j : Nat)]? = some (some (.int x))) (d : decode cc pc = .ok (.iload_n j, 1)) (pc' : Nat) (ep : pc + 1 = pc') (k : q_N X E nL QQ cells slots pc' lv (.int x :: st) w) : q_N X E nL QQ cells slots pc lv (st) w := by
  subst ep
  exact fun H locs ls hP hD hS hL => lv_iload_n hX.1.1 hX.1.2.1 d rfl (hL.2.2 _ _ hl) (k H locs ls hP hD hS hL)
theorem n_aload_n (hX : q_C X cc nL own ret F Lo) {j : Fin 4} {a : Nat} (hl : lv[(j : Nat)]? = some (some (.ref a))) (d : decode cc pc = .ok (.aload_n j, 1)) (pc' : Nat) (ep : pc + 1 = pc') (k : q_N X E nL QQ cells slots pc' lv (.ref a :: st) w) : q_N X E nL QQ cells slots pc lv (st) w := by
  subst ep
  exact fun H locs ls hP hD hS hL => lv_aload_n hX.1.1 hX.1.2.1 d rfl (hL.2.2 _ _ hl) (k H locs ls hP hD hS hL)
theorem n_dup (hX : q_C X cc nL own ret F Lo) {v : Value} (hv : v.category = 1) (d : decode cc pc = .ok (.dup, 1)) (pc' : Nat) (ep : pc + 1 = pc') (k : q_N X E nL QQ cells slots pc' lv (v :: v :: st) w) : q_N X E nL QQ cells slots pc lv (v :: st) w := by
  subst ep
  exact fun H locs ls hP hD hS hL => lv_dup hX.1.1 hX.1.2.1 d hv (k H locs ls hP hD hS hL)
theorem n_imul (hX : q_C X cc nL own ret F Lo) {x y : Int32} (d : decode cc pc = .ok (.imul, 1)) (pc' : Nat) (ep : pc + 1 = pc') (k : q_N X E nL QQ cells slots pc' lv (.int (x * y) :: st) w) : q_N X E nL QQ cells slots pc lv (.int y :: .int x :: st) w := by
  subst ep
  exact fun H locs ls hP hD hS hL => lv_imul hX.1.1 hX.1.2.1 d (k H locs ls hP hD hS hL)
theorem n_irem (hX : q_C X cc nL own ret F Lo) {x y : Int32} (hne : ¬ y = 0) (d : decode cc pc = .ok (.irem, 1)) (pc' : Nat) (ep : pc + 1 = pc') (k : q_N X E nL QQ cells slots pc' lv (.int (x - x / y * y) :: st) w) : q_N X E nL QQ cells slots pc lv (.int y :: .int x :: st) w := by
  subst ep
  exact fun H locs ls hP hD hS hL => lv_irem hX.1.1 hX.1.2.1 d hne (k H locs ls hP hD hS hL)
theorem n_istore_n (hX : q_C X cc nL own ret F Lo) {j : Fin 4} {x : Int32} (d : decode cc pc = .ok (.istore_n j, 1)) (pc' : Nat) (ep : pc + 1 = pc') (hn : (j : Nat) < nL) (ho : q_ok1 lv (j : Nat) = true) (lv' : List (Option Value)) (el : lv.set (j : Nat) (some (.int x)) = lv') (k : q_N X E nL QQ cells slots pc' lv' st w) : q_N X E nL QQ cells slots pc lv (.int x :: st) w := by
  subst ep
  exact fun H locs ls hP hD hS hL => lv_istore_n hX.1.1 hX.1.2.1 d rfl hL.has hn rfl (fun ls' hl' => k H locs ls' hP hD hS (by rw [← el]; exact q_L.st1 ho hl'))
theorem n_astore_n (hX : q_C X cc nL own ret F Lo) {j : Fin 4} {x : Nat} (d : decode cc pc = .ok (.astore_n j, 1)) (pc' : Nat) (ep : pc + 1 = pc') (hn : (j : Nat) < nL) (ho : q_ok1 lv (j : Nat) = true) (lv' : List (Option Value)) (el : lv.set (j : Nat) (some (.ref x)) = lv') (k : q_N X E nL QQ cells slots pc' lv' st w) : q_N X E nL QQ cells slots pc lv (.ref x :: st) w := by
  subst ep
  exact fun H locs ls hP hD hS hL => lv_astore_n hX.1.1 hX.1.2.1 d rfl hL.has hn rfl (fun ls' hl' => k H locs ls' hP hD hS (by rw [← el]; exact q_L.st1 ho hl'))
theorem n_iinc (hX : q_C X cc nL own ret F Lo) {i : Nat} {n : Int} {x : Int32} (v : Int32) (hv : x + Int32.ofInt n = v) (hl : lv[i]? = some (some (.int x))) (d : decode cc pc = .ok (.iinc i n, 3)) (pc' : Nat) (ep : pc + 3 = pc') (hn : i < nL) (ho : q_ok1 lv i = true) (lv' : List (Option Value)) (el : lv.set i (some (.int v)) = lv') (k : q_N X E nL QQ cells slots pc' lv' st w) : q_N X E nL QQ cells slots pc lv st w := by
  subst ep
  obtain ⟨j, hj⟩ := q_lp_at hl
  exact fun H locs ls hP hD hS hL => lv_iinc hX.1.1 hX.1.2.1 d hL.has hj hv hn rfl (fun ls' hl' => k H locs ls' hP hD hS (by rw [← el]; exact q_L.st1 ho hl'))
theorem n_goto (hX : q_C X cc nL own ret F Lo) {off : Int} (d : decode cc pc = .ok (.goto off, 3)) (tgt : Nat) (et : (pc : Int) + off = (tgt : Int)) (k : q_N X E nL QQ cells slots tgt lv st w) : q_N X E nL QQ cells slots pc lv st w := fun H locs ls hP hD hS hL => lv_goto hX.1.1 hX.1.2.1 d et (k H locs ls hP hD hS hL)
theorem n_icmp_ge_t (hX : q_C X cc nL own ret F Lo) {x y : Int32} {off : Int} (d : decode cc pc = .ok (.if_icmp .ge off, 3)) (tgt : Nat) (et : (pc : Int) + off = (tgt : Int)) (h : y ≤ x) (k : q_N X E nL QQ cells slots tgt lv st w) : q_N X E nL QQ cells slots pc lv (.int y :: .int x :: st) w := fun H locs ls hP hD hS hL => lv_icmp_ge hX.1.1 hX.1.2.1 d et (fun _ => (k H locs ls hP hD hS hL)) (fun z => absurd h z)
theorem n_icmp_ge_f (hX : q_C X cc nL own ret F Lo) {x y : Int32} {off : Int} (d : decode cc pc = .ok (.if_icmp .ge off, 3)) (tgt pc' : Nat) (et : (pc : Int) + off = (tgt : Int)) (ep : pc + 3 = pc') (h : ¬ y ≤ x) (k : q_N X E nL QQ cells slots pc' lv st w) : q_N X E nL QQ cells slots pc lv (.int y :: .int x :: st) w := by
  subst ep
  exact fun H locs ls hP hD hS hL => lv_icmp_ge hX.1.1 hX.1.2.1 d et (fun z => absurd z h) (fun _ => (k H locs ls hP hD hS hL))
theorem n_obj (hX : q_C X cc nL own ret F Lo) {index a : Nat} (h1 : Cond.methodLink own index objectInit ∈ q_T) (h2 : Cond.instanceMethod objectInit ∈ q_T) (h3 : Cond.code objectInit ⟨#[0xb1]⟩ 1 none ∈ q_T) (hF : 1 ≤ F) (hLo : (st.map fun v => v.category).sum + 12 ≤ Lo) (d : decode cc pc = .ok (.invokespecial index, 3)) (pc' : Nat) (ep : pc + 3 = pc') (k : q_N X E nL QQ cells slots pc' lv st w) : q_N X E nL QQ cells slots pc lv (.ref a :: st) w := by
  subst ep
  intro H locs ls hP hD hS hL
  refine W.objInit hX.1.1 hX.1.2.1 hX.1.2.2.2.1 (hX.1.2.2.2.2 _ h1) (hX.1.2.2.2.2 _ h2) (hX.1.2.2.2.2 _ h3) rfl (by rw [hX.1.2.2.1]; exact hL.1) rfl d (Nat.le_trans hF hX.2.2.2.1) (by show 2 * 0 + _ + 12 ≤ _; exact Nat.le_trans (by omega) hX.2.2.2.2.1) ?_
  exact k H locs ls hP hD hS hL
theorem n_newa (hX : q_C X cc nL own ret F Lo) (hT : q_T0 E (q_s X)) (hz : E.2.2.2.1 ≤ (q_s X).heap.size) {n : Int32} (N : Nat) (h0 : ¬ n < 0) (hN : n.toNatClampNeg = N) (hb : N * 4 ≤ 536870912) (hc : cells + 1 ≤ (q_R X).cells) (hs : slots + N ≤ (q_R X).slots) (d : decode cc pc = .ok (.newarray .int, 2)) (pc' : Nat) (ep : pc + 2 = pc') (cells' slots' : Nat) (ec : cells + 1 = cells') (es : slots + N = slots')
    (k : ∀ (q : Nat) (l' : va_W), l ++ [(q, .inl (E.2.1, N, .inl (fun _ => 0)))] = l' → q_N X E nL QQ cells' slots' pc' lv (.ref q :: st) (w ++ l')) : q_N X E nL QQ cells slots pc lv (.int n :: st) (w ++ l) := by
  subst ep
  subst ec
  subst es
  intro H locs ls hP hD hS hL
  refine va_newa (atype := .int) hX.1.1 hX.1.2.1 (hX.1.2.2.2.2 _ tw_131) rfl hT.1 hP hD hS (fun q hq => Nat.le_trans hz hq) (a0 := (N, .inl (fun _ => 0))) (fun _ => rfl) h0 hN hb hc hs d (fun q cA H1 hK1 hP1 hD1 hS1 => ?_)
  have e : cA = E.2.1 := q_intOnly hT (hK1.2 2 _ rfl).2
  subst e
  rw [List.append_assoc] at hP1 hD1
  exact k q _ rfl H1 locs ls hP1 hD1 hS1 hL
theorem n_mna (hX : q_C X cc nL own ret F Lo) (hT : q_T0 E (q_s X)) (hz : E.2.2.2.1 ≤ (q_s X).heap.size) {index : Nat} {n k0 : Int32} (hcl : Cond.classLink own index "[[I" ∈ q_T) (N M : Nat) (h0 : ¬ n < 0) (h1 : ¬ k0 < 0) (hN : n.toNatClampNeg = N) (hM : k0.toNatClampNeg = M) (hb : N * 4 ≤ 536870912) (hb2 : M * 4 ≤ 536870912) (hc : cells + (1 + N) ≤ (q_R X).cells) (hs : slots + (N + N * M) ≤ (q_R X).slots) (d : decode cc pc = .ok (.multianewarray index 2, 4)) (pc' : Nat) (ep : pc + 4 = pc') (cells' slots' : Nat) (ec : cells + 1 + N = cells') (es : slots + N + N * M = slots')
    (k : ∀ (q : Nat) (r : Nat → Nat), q_N X E nL QQ cells' slots' pc' lv (.ref q :: st) (w ++ (l ++ ((q, .inl (E.2.2.1, N, .inr (.inr (.inr (.inr (fun i => if i < N then some (r i) else none)))))) :: (List.range N).map (fun i => (r i, .inl (E.2.1, M, .inl (fun _ => 0)))))))) : q_N X E nL QQ cells slots pc lv (.int k0 :: .int n :: st) (w ++ l) := by
  subst ep
  subst ec
  subst es
  intro H locs ls hP hD hS hL
  refine va_mna (X := w ++ l) (L := []) (f := fun _ => .inr (0, [])) hX.1.1 hX.1.2.1 hX.1.2.2.2.1 (ty := .int) (cy := E.2.1) (hX.1.2.2.2.2 _ hcl) hT.2.2 (hX.1.2.2.2.2 _ tw_131) (hT.1.2 0 _ rfl).2 hT.1 (by rw [show va_pl [] (fun _ => (.inr (0, []) : va_E)) = [] from rfl, List.append_nil]; exact hP) (by rw [show va_pl [] (fun _ => (.inr (0, []) : va_E)) = [] from rfl, List.append_nil]; exact hD) hS (fun q hq => Nat.le_trans hz hq) (z := (M, .inl (fun _ => 0))) h0 h1 hN hM hb hb2 (by omega) rfl rfl hc hs (fun c => by show ({ cls := c, slots := Array.replicate M (.int 0), vm := .none } : Cell) = _; rw [arrV_new]; rfl) d (fun q r cA H1 hr1 hr2 hK1 hP1 hD1 hS1 => ?_)
  have e : cA = E.2.2.1 := q_arrOnly hT (hK1.2 2 _ rfl).2
  subst e
  have ew : ((w ++ l) ++ [(q, .inl (E.2.2.1, N, .inr (.inr (.inr (.inr (fun i => if i < N then some (r i) else none))))))]) ++ va_pl ([] ++ (List.range N).map r) (vr_up (fun _ => (.inr (0, []) : va_E)) ((List.range N).map r) (.inl (E.2.1, M, .inl (fun _ => 0)))) = w ++ (l ++ ((q, .inl (E.2.2.1, N, .inr (.inr (.inr (.inr (fun i => if i < N then some (r i) else none)))))) :: (List.range N).map (fun i => (r i, .inl (E.2.1, M, .inl (fun _ => 0)))))) := by
    rw [List.append_assoc, List.append_assoc]
    congr 2
    rw [List.singleton_append]
    congr 1
    rw [List.nil_append]
    unfold va_pl
    rw [List.map_map]
    apply List.map_congr_left
    intro i hi
    show (r i, vr_up _ _ _ (r i)) = _
    rw [vr_up_in (List.mem_map.mpr ⟨i, hi, rfl⟩)]
  rw [ew] at hP1 hD1
  exact k q r H1 locs ls hP1 hD1 hS1 hL
theorem n_put (hX : q_C X cc nL own ret F Lo) (hT : q_T0 E (q_s X)) {ci index N a : Nat} {C : String} {T : u_T} {fs : List Value} (p0 : Nat) (he : l[p0]? = some (a, .inr (ci, fs))) (hc : vwCl[ci]? = some (C, T, N)) (hin : ∀ w ∈ u_ws C T N, w ∈ q_T) (ty0 : Nat → FieldType) (hty : ∀ k, k < N → parseFieldDescriptor (T k).2.2.1 = some (ty0 k)) (hnm : ∀ a, a < N → ∀ b, b < N → a ≠ b → (T a).2.1 ≠ (T b).2.1) (j : Nat) (hj : j < N) (hfin : (T j).2.2.2 = false) {v : Value} {ty : FieldType} (hd : parseFieldDescriptor (T j).2.2.1 = some ty) (hn : narrow ty v = v) (hfit : fits ty v = true) (hl : j < fs.length) (hlink : (Cond.fieldLink own index (T j).1 (T j).2.1 (T j).2.2.1) ∈ q_T) (d : decode cc pc = .ok (.putfield index, 3)) (pc' : Nat) (ep : pc + 3 = pc') (l' : va_W) (el : l.set p0 (a, .inr (ci, fs.set j v)) = l') (k : q_N X E nL QQ cells slots pc' lv st (w ++ l')) : q_N X E nL QQ cells slots pc lv (v :: .ref a :: st) (w ++ l) := by
  subst ep
  intro H locs ls hP hD hS hL
  refine va_put hX.1.1 hX.1.2.1 hX.1.2.2.2.2 hin ty0 hty hnm hX.1.2.2.2.1 hT.1 hP hD hS (w.length + p0) (q_at he) hc j hj (hX.1.2.2.2.2 _ hlink) (fun _ h => h) hfin hd hn hfit hl d (fun H1 locs1 hP1 hD1 hS1 => ?_)
  rw [q_sa, el] at hP1 hD1
  exact k H1 locs1 ls hP1 hD1 hS1 hL
theorem n_putF (hX : q_C X cc nL own ret F Lo) (hT : q_T0 E (q_s X)) (hni : X.2.2.2.2.2.2.2.2.1.name = "<init>") {ci index N a : Nat} {C : String} {T : u_T} {fs : List Value} (p0 : Nat) (he : l[p0]? = some (a, .inr (ci, fs))) (hc : vwCl[ci]? = some (C, T, N)) (hin : ∀ w ∈ u_ws C T N, w ∈ q_T) (ty0 : Nat → FieldType) (hty : ∀ k, k < N → parseFieldDescriptor (T k).2.2.1 = some (ty0 k)) (hnm : ∀ a, a < N → ∀ b, b < N → a ≠ b → (T a).2.1 ≠ (T b).2.1) (j : Nat) (hj : j < N) (hfin : (T j).2.2.2 = true) (hdecl : (T j).1 = own) {v : Value} {ty : FieldType} (hd : parseFieldDescriptor (T j).2.2.1 = some ty) (hn : narrow ty v = v) (hfit : fits ty v = true) (hl : j < fs.length) (hlink : (Cond.fieldLink own index (T j).1 (T j).2.1 (T j).2.2.1) ∈ q_T) (d : decode cc pc = .ok (.putfield index, 3)) (pc' : Nat) (ep : pc + 3 = pc') (l' : va_W) (el : l.set p0 (a, .inr (ci, fs.set j v)) = l') (k : q_N X E nL QQ cells slots pc' lv st (w ++ l')) : q_N X E nL QQ cells slots pc lv (v :: .ref a :: st) (w ++ l) := by
  subst ep
  intro H locs ls hP hD hS hL
  refine va_putF hX.1.1 hX.1.2.1 hX.1.2.2.2.2 hin ty0 hty hnm hX.1.2.2.2.1 hT.1 hP hD hS (w.length + p0) (q_at he) hc j hj (hX.1.2.2.2.2 _ hlink) (fun _ h => h) hfin hni hdecl hd hn hfit hl d (fun H1 locs1 hP1 hD1 hS1 => ?_)
  rw [q_sa, el] at hP1 hD1
  exact k H1 locs1 ls hP1 hD1 hS1 hL
theorem n_get (hX : q_C X cc nL own ret F Lo) (hT : q_T0 E (q_s X)) {ci index N a : Nat} {C : String} {T : u_T} {fs : List Value} (p0 : Nat) (he : l[p0]? = some (a, .inr (ci, fs))) (hc : vwCl[ci]? = some (C, T, N)) (hin : ∀ w ∈ u_ws C T N, w ∈ q_T) (j : Nat) (hj : j < N) {v : Value} (hv : fs[j]? = some v) (hlink : (Cond.fieldLink own index (T j).1 (T j).2.1 (T j).2.2.1) ∈ q_T) (d : decode cc pc = .ok (.getfield index, 3)) (pc' : Nat) (ep : pc + 3 = pc') (k : q_N X E nL QQ cells slots pc' lv (v :: st) (w ++ l)) : q_N X E nL QQ cells slots pc lv (.ref a :: st) (w ++ l) := by
  subst ep
  exact fun H locs ls hP hD hS hL => va_get hX.1.1 hX.1.2.1 hX.1.2.2.2.2 hin hX.1.2.2.2.1 hT.1 hP (w.length + p0) (q_at he) hc j hj (hX.1.2.2.2.2 _ hlink) (fun _ h => h) hv d (k H locs ls hP hD hS hL)
theorem n_iast (hX : q_C X cc nL own ret F Lo) (hT : q_T0 E (q_s X)) {a n : Nat} {f : Nat → Int32} {i x : Int32} (p0 : Nat) (he : l[p0]? = some (a, .inl (E.2.1, n, .inl f))) (hin : vp_in i n) (d : decode cc pc = .ok (.iastore, 1)) (pc' : Nat) (ep : pc + 1 = pc') (l' : va_W) (el : l.set p0 (a, .inl (E.2.1, n, .inl (upd f i.toNatClampNeg x))) = l') (k : q_N X E nL QQ cells slots pc' lv st (w ++ l')) : q_N X E nL QQ cells slots pc lv (.int x :: .int i :: .ref a :: st) (w ++ l) := by
  subst ep
  intro H locs ls hP hD hS hL
  refine va_iast hX.1.1 hX.1.2.1 hT.1 hP hD hS (w.length + p0) 0 (q_at he) rfl hin d (fun H1 locs1 hP1 hD1 hS1 => ?_)
  rw [q_sa, el] at hP1 hD1
  exact k H1 locs1 ls hP1 hD1 hS1 hL
theorem n_aald (hX : q_C X cc nL own ret F Lo) (hT : q_T0 E (q_s X)) {a n : Nat} {f : Nat → Option Nat} {i : Int32} (p0 : Nat) (he : l[p0]? = some (a, .inl (E.2.2.1, n, .inr (.inr (.inr (.inr f)))))) (hin : vp_in i n) (b : Nat) (hf : f i.toNatClampNeg = some b) (d : decode cc pc = .ok (.aaload, 1)) (pc' : Nat) (ep : pc + 1 = pc') (k : q_N X E nL QQ cells slots pc' lv (.ref b :: st) (w ++ l)) : q_N X E nL QQ cells slots pc lv (.int i :: .ref a :: st) (w ++ l) := by
  subst ep
  intro H locs ls hP hD hS hL
  have hlt : i.toNatClampNeg < n := Nat.not_le.mp fun q => hin (Or.inr q)
  refine W.aald (v := va_rf (f i.toNatClampNeg)) (ty := .array .int) hX.1.1 hX.1.2.1 (hP (w.length + p0) _ (q_at he)) ((hT.1.2 1 _ rfl).1 n (fun j => va_rf (f j))) rfl (fun q => by cases q) (by show ¬ (i < 0 ∨ (arrV _ _ _).slots.size ≤ _); rw [arrV_size]; exact hin) (by show (arrV _ _ _).slots[_]? = _; rw [arrV_read _ _ hlt]) rfl rfl d ?_
  rw [hf]
  exact k H locs ls hP hD hS hL
theorem n_gets (hX : q_C X cc nL own ret F Lo) (hN : q_Nst (q_s X)) (hH : q_H0 E (q_s X) (q_s X).heap) {index : Nat} {host : String} (hlink : (own, index, "WetWalls", "FIRST_CORNERS", "[I", host) ∈ q_nf) (d : decode cc pc = .ok (.getstatic index, 3)) (pc' : Nat) (ep : pc + 3 = pc') (k : q_N X E nL QQ cells slots pc' lv (.ref E.2.2.2.2 :: st) w) : q_N X E nL QQ cells slots pc lv st w := by
  subst ep
  exact fun H locs ls hP hD hS hL => va_getsN hX.1.1 hX.1.2.1 hH.1 hS hX.1.2.2.2.1 (va_Nw.use rfl (hN.1 _ hlink)) (fun _ h => h) d (k H locs ls hP hD hS hL)
theorem n_copy (hX : q_C X cc nL own ret F Lo) (hT : q_T0 E (q_s X)) (hH : q_H0 E (q_s X) (q_s X).heap) {a index : Nat} {g : Nat → Int32} (p0 : Nat) (he : l[p0]? = some (a, .inl (E.2.1, 5, .inl g))) (hF : 1 ≤ F) (hLo : (st.map fun v => v.category).sum + 18 ≤ Lo) (h1 : Cond.methodLink own index arraycopyName ∈ q_T) (d : decode cc pc = .ok (.invokestatic index, 3)) (pc' : Nat) (ep : pc + 3 = pc') (l' : va_W) (el : l.set p0 (a, .inl (E.2.1, 5, .inl (va_cpy q_F0 g (0 : Int32).toNatClampNeg (0 : Int32).toNatClampNeg (5 : Int32).toNatClampNeg))) = l') (k : q_N X E nL QQ cells slots pc' lv st (w ++ l')) : q_N X E nL QQ cells slots pc lv (.int 5 :: .int 0 :: .ref a :: .int 0 :: .ref E.2.2.2.2 :: st) (w ++ l) := by
  subst ep
  intro H locs ls hP hD hS hL
  refine va_copyx hX.1.1 hX.1.2.1 (hX.1.2.2.1.trans hL.1.symm) hX.1.2.2.2.1 (hX.1.2.2.2.2 _ h1) (hX.1.2.2.2.2 _ tw_85) (hX.1.2.2.2.2 _ tw_84) (hX.1.2.2.2.2 _ tw_61) hT.1 hP hD hS hH.2.1 (Nat.lt_of_lt_of_le hH.2.2.1 hH.2.2.2) (Nat.not_le.mpr hH.2.2.1) (w.length + p0) 0 (q_at he) rfl (by decide) (by decide) (by decide) (by decide) (by decide) (Nat.le_trans hF hX.2.2.2.1) (Nat.le_trans hLo hX.2.2.2.2.1) d (fun H1 locs1 hP1 hD1 hS1 => ?_)
  rw [q_sa, el] at hP1 hD1
  exact k H1 locs1 ls hP1 hD1 hS1 hL
theorem n_new (hX : q_C X cc nL own ret F Lo) (hT : q_T0 E (q_s X)) (hz : E.2.2.2.1 ≤ (q_s X).heap.size) {ci index N : Nat} {C : String} {T : u_T} (hc : vwCl[ci]? = some (C, T, N)) (hin : ∀ w ∈ u_ws C T N, w ∈ q_T) (ty0 : Nat → FieldType) (hty : ∀ k, k < N → parseFieldDescriptor (T k).2.2.1 = some (ty0 k)) (h1 : Cond.classLink own index C ∈ q_T) (h2 : Cond.instantiable C N ∈ q_T) (h3 : Cond.initialized C ∈ q_T) (fs : List Value) (hfs : ∀ j, j < N → defaultValue (ty0 j) = vp_V fs j) (hcl : cells + 1 ≤ (q_R X).cells) (hs : slots + N ≤ (q_R X).slots) (d : decode cc pc = .ok (.new index, 3)) (pc' : Nat) (ep : pc + 3 = pc') (cells' slots' : Nat) (ec : cells + 1 = cells') (es : slots + N = slots') (k : ∀ q : Nat, q_N X E nL QQ cells' slots' pc' lv (.ref q :: st) (w ++ [(q, .inr (ci, fs))])) : q_N X E nL QQ cells slots pc lv st w := by
  subst ep
  subst ec
  subst es
  intro H locs ls hP hD hS hL
  exact va_new hX.1.1 hX.1.2.1 hX.1.2.2.2.2 hin ty0 hty hX.1.2.2.2.1 (hX.1.2.2.2.2 _ h1) (hX.1.2.2.2.2 _ h2) (hX.1.2.2.2.2 _ h3) hT.1 hP hD hS (fun q hq => Nat.le_trans hz hq) hc hfs hcl hs d (fun q H1 hP1 hD1 hS1 => k q H1 locs ls hP1 hD1 hS1 hL)
/-! a constructor's contract: any world ahead of the new object; behind it the world has grown -/
def q_PI (E : q_E) (wd : va_W) (U : State) : Prop := q_T0 E U ∧ q_H0 E U U.heap ∧ va_P E.1 vwCl wd U.heap ∧ va_D (q_A0 E) wd
def q_BI (E : q_E) (w : va_W) (l : va_W) (t : State) : Prop := va_P E.1 vwCl (w ++ l) t.heap ∧ va_D (q_A0 E) (w ++ l)
def q_MN (lc : Launch) (E : q_E) (y : MethodName) (cc : ByteArray) (maxL : Nat) (rm : Room) (a : Nat) (w : va_W) (e : va_E) (Q : va_W → Prop) : Prop :=
  Met lc y (Cond.code y cc maxL none :: q_T) rm (va_Pc [.ref a] (q_PI E (w ++ [(a, e)]))) (va_Qv Q (q_BI E w) (q_A0 E)) rm.cells rm.slots (q_A0 E)
def q_QN (X : q_X) (E : q_E) (w : va_W) (Q : va_W → Prop) (mc ms : Nat) : State → Prop := MQ X.2.2.2.2.2.2.2.1 (va_Qv Q (q_BI E w) (q_A0 E)) (q_args X) (q_s X) mc ms (q_A0 E)
theorem n_vret (hX : q_C X cc nL own none F Lo) {Q : va_W → Prop} (d : decode cc pc = .ok (.return_, 1)) (h : Q l) : q_N X E nL (q_QN X E w Q cells slots) cells slots pc lv [] (w ++ l) := fun H locs ls hP hD hS hL =>
  W.vret hX.1.1 hX.1.2.1 hX.2.1 (fun t ht hw => ⟨⟨l, rfl, h, by rw [ht]; exact hP, hD⟩, hS.F ht⟩) hS.2.2 d (hlocks := hX.2.2.1)
theorem n_met {lc : Launch} {y : MethodName} {maxL : Nat} {rm : Room} {a : Nat} {e : va_E} {Q : va_W → Prop} (r : Nat) (hy : plainName y.cls = true) (hyn : y.name = "<init>") (hlen : 1 ≤ maxL) (hlv : some (.ref a) :: List.replicate r none = lv)
    (body : ∀ X : q_X, q_l X = lc → q_C X cc maxL y.cls none rm.frames rm.locals → (q_R X).cells = rm.cells ∧ (q_R X).slots = rm.slots → X.2.2.2.2.2.2.2.2.1.name = "<init>" → q_T0 E (q_s X) → q_H0 E (q_s X) (q_s X).heap → q_N X E maxL (q_QN X E w Q rm.cells rm.slots) 0 0 0 lv [] (w ++ [(a, e)])) : q_MN lc E y cc maxL rm a w e Q := by
  refine Met.ofW (cc := cc) (maxL := maxL) (ret := none) hy rfl ?_
  intro p e s m args below meth c s₁ B hml hv
  obtain ⟨rfl, hT, hH, hP, hD⟩ := hv
  have hl := lv_entry [.ref a] (n := maxL) hlen
  rw [lg_entry_eq]
  generalize (lg_sl [.ref a] ++ List.replicate (maxL - (lg_sl [.ref a]).length) Slot.unset).toArray = ls at hl ⊢
  have hts := atoms_spec (ws := Cond.code y cc maxL none :: q_T) B.pre
  have hlv2 : q_L ls maxL lv := by rw [← hlv]; exact q_entry r hl
  exact body (p, lc, e, (headSpec (Cond.code y cc maxL none :: q_T) rm).room, s, m, [Value.ref a].toArray, below, meth, c, 0, 0) rfl ⟨⟨B.exec, B.bytes, hml, findClass_of_methodNamed B.named, fun w hw => hts w (List.mem_cons_of_mem _ hw)⟩, B.returns, B.notSynchronized, Nat.le_refl _, Nat.le_refl _, Nat.zero_le _, Nat.zero_le _⟩ ⟨rfl, rfl⟩ ((name_of_methodNamed B.named B.method).1.trans hyn) hT hH s.heap [] ls hP hD va_S.rf hlv2
theorem n_blind (E : q_E) (av : List Value) (wd : va_W) : FrameBlind (va_Pc av (q_PI E wd)) := fun a U g mk q => ⟨q.1, ⟨va_K.moved (u := U) (U := U.calling g mk a) (Vm.Alike.refl U.vm) q.2.1.1, q.2.1.2.1.same rfl, q.2.1.2.2.moved (U := U.calling g mk a) (Vm.Alike.refl U.vm)⟩, q.2.2.1.kept (U := U.calling g mk a) (Vm.Alike.refl U.vm) (Nat.le_refl _) (fun _ _ _ => rfl), q.2.2.2⟩
theorem n_callI (hX : q_C X cc nL own ret F Lo) (hT : q_T0 E (q_s X)) (hH : q_H0 E (q_s X) (q_s X).heap) {y : MethodName} {bytes : ByteArray} {maxL index a : Nat} {rm : Room} {e : va_E} {Q : va_W → Prop} (w0 : Cond.methodLink own index y ∈ q_T) (w1 : Cond.instanceMethod y ∈ q_T) (w3 : Cond.initialized y.cls ∈ q_T) (w4 : Cond.code y bytes maxL none ∈ q_T) (hyn : y.name = "<init>") (hd : y.cls ≠ "java/lang/invoke/MethodHandle" ∧ y.cls ≠ "java/lang/invoke/VarHandle" ∧ (parseMethodDescriptor y.desc).map (fun d => d.parameters.length) = some 0) (hroom : rm.frames + 1 ≤ F ∧ 8 + (maxL + 11) + rm.locals ≤ Lo) (hcat : (st.map fun v => v.category).sum ≤ 8) (hcl : cells + rm.cells ≤ (q_R X).cells) (hs : slots + rm.slots ≤ (q_R X).slots) (d : decode cc pc = .ok (.invokespecial index, 3)) (pc' : Nat) (ep : pc + 3 = pc') (cells' slots' : Nat) (ec : cells + rm.cells = cells') (es : slots + rm.slots = slots') (hM : q_MN (q_l X) E y bytes maxL rm a w e Q) (kk : ∀ l : va_W, Q l → q_N X E nL QQ cells' slots' pc' lv st (w ++ l)) : q_N X E nL QQ cells slots pc lv (.ref a :: st) (w ++ [(a, e)]) := by
  subst ep
  subst ec
  subst es
  intro H locs ls hP hD hS hL
  refine va_callv (va_runI (n := 0) (mc := rm.cells) (ms := rm.slots) (As := []) (rest := st) hX.1 hM ⟨callB_of 0 hX.1.2.2.2.2 (q_good w4) rfl rfl rfl (hX.1.2.2.2.2 _ w3) (hX.1.2.2.2.2 _ w0) hd ⟨Nat.le_trans hroom.1 hX.2.2.2.1, Nat.le_trans hroom.2 hX.2.2.2.2.1⟩, hyn, hX.1.2.2.2.2 _ w1⟩ ⟨n_blind E _ _, fun U hU hw => ⟨rfl, hT.alike hw.alike (hT.2.1.warm hw), by rw [hU]; exact hH.kept hw.alike hS.1 (fun q hq hn => hS.2.1 q hq hn), by rw [hU]; exact hP, hD⟩⟩ rfl rfl hL.1 rfl (lv_room hcat) d ⟨hcl, hs⟩) hS (fun q _ h => h) (fun q h => h) (fun u t H1 locs1 ht hvm hq hB hz1 hk1 hS1 => ?_)
  exact kk u hq H1 locs1 ls (by rw [← ht]; exact hB.1) hB.2 hS1 hL
theorem n_callIN (hX : q_C X cc nL own ret F Lo) (hT : q_T0 E (q_s X)) (hH : q_H0 E (q_s X) (q_s X).heap) {y : MethodName} {bytes : ByteArray} {maxL index a : Nat} {rm : Room} {e : va_E} {Q : va_W → Prop} {host : String} (w0 : (own, index, y, host) ∈ q_nm) (w1 : Cond.instanceMethod y ∈ q_T) (w3 : Cond.initialized y.cls ∈ q_T) (w4 : Cond.code y bytes maxL none ∈ q_T) (hyn : y.name = "<init>") (hd : y.cls ≠ "java/lang/invoke/MethodHandle" ∧ y.cls ≠ "java/lang/invoke/VarHandle" ∧ (parseMethodDescriptor y.desc).map (fun d => d.parameters.length) = some 0) (hroom : rm.frames + 1 ≤ F ∧ 8 + (maxL + 11) + rm.locals ≤ Lo) (hcat : (st.map fun v => v.category).sum ≤ 8) (hcl : cells + rm.cells ≤ (q_R X).cells) (hs : slots + rm.slots ≤ (q_R X).slots) (d : decode cc pc = .ok (.invokespecial index, 3)) (pc' : Nat) (ep : pc + 3 = pc') (cells' slots' : Nat) (ec : cells + rm.cells = cells') (es : slots + rm.slots = slots') (hM : q_MN (q_l X) E y bytes maxL rm a w e Q) (kk : ∀ l : va_W, Q l → q_N X E nL QQ cells' slots' pc' lv st (w ++ l)) : q_N X E nL QQ cells slots pc lv (.ref a :: st) (w ++ [(a, e)]) := by
  subst ep
  subst ec
  subst es
  intro H locs ls hP hD hS hL
  refine va_callv (va_runIN (n := 0) (mc := rm.cells) (ms := rm.slots) (As := []) (rest := st) hX.1 hM ⟨⟨⟨rfl, rfl, Nat.le_trans hroom.1 hX.2.2.2.1, Nat.le_trans hroom.2 hX.2.2.2.2.1, pay_in hX.1.2.2.2.2 (q_good w4), List.mem_cons_self⟩, hX.1.2.2.2.2 _ w4, hX.1.2.2.2.2 _ w3, ⟨hd.1, hd.2.1⟩, (fun sig h => by have h2 := hd.2.2; rw [h] at h2; exact (Option.some.inj h2).symm), va_Nw.use rfl (hT.2.1.2 _ w0)⟩, hyn, hX.1.2.2.2.2 _ w1⟩ ⟨n_blind E _ _, fun U hU hw => ⟨rfl, hT.alike hw.alike (hT.2.1.warm hw), by rw [hU]; exact hH.kept hw.alike hS.1 (fun q hq hn => hS.2.1 q hq hn), by rw [hU]; exact hP, hD⟩⟩ rfl rfl hL.1 rfl (lv_room hcat) d ⟨hcl, hs⟩) hS (fun q _ h => h) (fun q h => h) (fun u t H1 locs1 ht hvm hq hB hz1 hk1 hS1 => ?_)
  exact kk u hq H1 locs1 ls (by rw [← ht]; exact hB.1) hB.2 hS1 hL
end QN

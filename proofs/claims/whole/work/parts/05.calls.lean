
/-! ===== contracts over the memory ===== -/
def q_Bd (G : q_G) (u : q_Mem) (t : State) : Prop := q_Wd G u t t.heap
def q_MI (l : Launch) (G : q_G) (y : MethodName) (cc : ByteArray) (maxL : Nat) (ret : Option FieldType) (rm : Room) (av : List Value) (mem : q_Mem) (Q : Int32 → q_Mem → Prop) : Prop :=
  Met l y (Cond.code y cc maxL ret :: q_T) rm (va_Pc av (q_Bd G mem)) (va_Qi Q (q_Bd G) (q_A G)) 0 0 (q_A G)
def q_ML (l : Launch) (G : q_G) (y : MethodName) (cc : ByteArray) (maxL : Nat) (ret : Option FieldType) (rm : Room) (av : List Value) (mem : q_Mem) (Q : Int64 → q_Mem → Prop) : Prop :=
  Met l y (Cond.code y cc maxL ret :: q_T) rm (va_Pc av (q_Bd G mem)) (va_Ql Q (q_Bd G) (q_A G)) 0 0 (q_A G)
def q_MV (l : Launch) (G : q_G) (y : MethodName) (cc : ByteArray) (maxL : Nat) (ret : Option FieldType) (rm : Room) (av : List Value) (mem : q_Mem) (Q : q_Mem → Prop) : Prop :=
  Met l y (Cond.code y cc maxL ret :: q_T) rm (va_Pc av (q_Bd G mem)) (va_Qv Q (q_Bd G) (q_A G)) 0 0 (q_A G)
def q_QI (X : q_X) (G : q_G) (Q : Int32 → q_Mem → Prop) : State → Prop := MQ X.2.2.2.2.2.2.2.1 (va_Qi Q (q_Bd G) (q_A G)) (q_args X) (q_s X) X.2.2.2.2.2.2.2.2.2.2.1 X.2.2.2.2.2.2.2.2.2.2.2 (q_A G)
def q_QL (X : q_X) (G : q_G) (Q : Int64 → q_Mem → Prop) : State → Prop := MQ X.2.2.2.2.2.2.2.1 (va_Ql Q (q_Bd G) (q_A G)) (q_args X) (q_s X) X.2.2.2.2.2.2.2.2.2.2.1 X.2.2.2.2.2.2.2.2.2.2.2 (q_A G)
def q_QV (X : q_X) (G : q_G) (Q : q_Mem → Prop) : State → Prop := MQ X.2.2.2.2.2.2.2.1 (va_Qv Q (q_Bd G) (q_A G)) (q_args X) (q_s X) X.2.2.2.2.2.2.2.2.2.2.1 X.2.2.2.2.2.2.2.2.2.2.2 (q_A G)

theorem q_good {w : Cond} (h : w ∈ q_T) : GoodIn q_T (w :: q_T) := fun v hv => by
  have hm : v ∈ q_T := by
    rcases List.mem_cons.mp hv with rfl | h1
    · exact h
    · exact h1
  exact ⟨hm, good_of_word (List.all_eq_true.mp q_Tall v hm)⟩
theorem q_blind (G : q_G) (av : List Value) (mem : q_Mem) : FrameBlind (va_Pc av (q_Bd G mem)) := fun a U g mk q => ⟨q.1, q.2.1, va_K.moved (u := U) (U := U.calling g mk a) (Vm.Alike.refl U.vm) q.2.2.1, q.2.2.2.1, q.2.2.2.2.same rfl⟩
section QC
variable {X : q_X} {G : q_G} {nL : Nat} {QQ : State → Prop} {pc : Nat} {lv : List (Option Value)} {st : List Value} {mem : q_Mem} {cc : ByteArray} {own : String} {ret : Option FieldType} {F Lo : Nat}
theorem q_iret (hX : q_C X cc nL own (some .int) F Lo) {Q : Int32 → q_Mem → Prop} {v : Int32} (d : decode cc pc = .ok (.ireturn, 1)) (h : Q v mem) : q_J X G nL (q_QI X G Q) pc lv [.int v] mem := fun H locs ls hW hS hL =>
  W.iret hX.1.1 hX.1.2.1 hX.2.1 (fun t ht hw => ⟨⟨v, mem, rfl, h, by unfold q_Bd; rw [ht]; exact hW.warm hw⟩, hS.F ht⟩) hS.2.2 d (hlocks := hX.2.2.1)
theorem q_zret (hX : q_C X cc nL own (some .boolean) F Lo) {Q : Int32 → q_Mem → Prop} {v : Int32} (d : decode cc pc = .ok (.ireturn, 1)) (hv : v &&& 1 = v) (h : Q v mem) : q_J X G nL (q_QI X G Q) pc lv [.int v] mem := fun H locs ls hW hS hL =>
  W.zret hX.1.1 hX.1.2.1 hX.2.1 (by show Value.int (v &&& 1) = .int v; rw [hv]) (fun t ht hw => ⟨⟨v, mem, rfl, h, by unfold q_Bd; rw [ht]; exact hW.warm hw⟩, hS.F ht⟩) hS.2.2 d (hlocks := hX.2.2.1)
theorem q_lret (hX : q_C X cc nL own (some .long) F Lo) {Q : Int64 → q_Mem → Prop} {v : Int64} (d : decode cc pc = .ok (.lreturn, 1)) (h : Q v mem) : q_J X G nL (q_QL X G Q) pc lv [.long v] mem := fun H locs ls hW hS hL =>
  W.lret hX.1.1 hX.1.2.1 hX.2.1 (fun t ht hw => ⟨⟨v, mem, rfl, h, by unfold q_Bd; rw [ht]; exact hW.warm hw⟩, hS.F ht⟩) hS.2.2 d (hlocks := hX.2.2.1)
theorem q_vret (hX : q_C X cc nL own none F Lo) {Q : q_Mem → Prop} (d : decode cc pc = .ok (.return_, 1)) (h : Q mem) : q_J X G nL (q_QV X G Q) pc lv [] mem := fun H locs ls hW hS hL =>
  W.vret hX.1.1 hX.1.2.1 hX.2.1 (fun t ht hw => ⟨⟨mem, rfl, h, by unfold q_Bd; rw [ht]; exact hW.warm hw⟩, hS.F ht⟩) hS.2.2 d (hlocks := hX.2.2.1)
/-! the entry -/
def q_lvs : List Value → List (Option Value)
  | [] => []
  | v :: vs => if v.category = 2 then some v :: none :: q_lvs vs else some v :: q_lvs vs
theorem q_lvs_mem : ∀ (vs : List Value) (k : Nat) (q : Nat × Value), q ∈ q_lp k (q_lvs vs) → q ∈ lv_args k vs
  | [], k, q, h => by simp [q_lvs, q_lp] at h
  | v :: vs, k, q, h => by
    rw [lv_args]
    by_cases hc : v.category = 2
    · rw [q_lvs, if_pos hc, q_lp, q_lp] at h
      rw [if_pos hc]
      rcases List.mem_cons.mp h with h | h
      · rw [h]; exact List.mem_cons_self
      · exact List.mem_cons_of_mem _ (q_lvs_mem vs (k + 1 + 1) q h)
    · rw [q_lvs, if_neg hc, q_lp] at h
      rw [if_neg hc]
      rcases List.mem_cons.mp h with h | h
      · rw [h]; exact List.mem_cons_self
      · exact List.mem_cons_of_mem _ (q_lvs_mem vs (k + 1) q h)
theorem q_lp_rep : ∀ (l : List (Option Value)) (n k : Nat) (q : Nat × Value), q ∈ q_lp k (l ++ List.replicate n none) → q ∈ q_lp k l
  | [], 0, k, q, h => h
  | [], n + 1, k, q, h => by
    rw [List.nil_append, List.replicate_succ, q_lp] at h
    have := q_lp_rep [] n (k + 1) q (by rw [List.nil_append]; exact h)
    simp [q_lp] at this
  | none :: l, n, k, q, h => by
    rw [List.cons_append, q_lp] at h
    rw [q_lp]
    exact q_lp_rep l n (k + 1) q h
  | some v :: l, n, k, q, h => by
    rw [List.cons_append, q_lp] at h
    rw [q_lp]
    rcases List.mem_cons.mp h with h | h
    · rw [h]; exact List.mem_cons_self
    · exact List.mem_cons_of_mem _ (q_lp_rep l n (k + 1) q h)
theorem q_entry {ls : Array Slot} {n : Nat} {vs : List Value} (r : Nat) (h : lv_has ls n (lv_args 0 vs)) : q_L ls n (q_lvs vs ++ List.replicate r none) := ⟨h.1, h.2.1, fun i v hv => h.2.2 (i, v) (q_lvs_mem vs 0 _ (q_lp_rep _ r 0 _ ((q_lp_mem _ 0 (i, v)).mpr ⟨i, (Nat.zero_add i).symm, hv⟩)))⟩
theorem q_metI {l : Launch} {y : MethodName} {maxL : Nat} {rm : Room} {av : List Value} {Q : Int32 → q_Mem → Prop} (r : Nat) (hy : plainName y.cls = true) (hlen : (lg_sl av).length ≤ maxL) (hlv : q_lvs av ++ List.replicate r none = lv)
    (body : ∀ X : q_X, q_l X = l → q_C X cc maxL y.cls ret rm.frames rm.locals → q_J X G maxL (q_QI X G Q) 0 lv [] mem) : q_MI l G y cc maxL ret rm av mem Q := by
  refine Met.ofW (cc := cc) (maxL := maxL) (ret := ret) hy rfl ?_
  intro p e s m args below meth c s₁ B hml hv
  obtain ⟨rfl, hB⟩ := hv
  have hl := lv_entry av (n := maxL) hlen
  rw [lg_entry_eq]
  generalize (lg_sl av ++ List.replicate (maxL - (lg_sl av).length) Slot.unset).toArray = ls at hl ⊢
  have hts := atoms_spec (ws := Cond.code y cc maxL ret :: q_T) B.pre
  have hlv2 : q_L ls maxL lv := by rw [← hlv]; exact q_entry r hl
  exact body (p, l, e, (headSpec (Cond.code y cc maxL ret :: q_T) rm).room, s, m, av.toArray, below, meth, c, 0, 0) rfl ⟨⟨B.exec, B.bytes, hml, findClass_of_methodNamed B.named, fun w hw => hts w (List.mem_cons_of_mem _ hw)⟩, B.returns, B.notSynchronized, Nat.le_refl _, Nat.le_refl _, Nat.zero_le _, Nat.zero_le _⟩ s.heap [] ls hB va_S.rf hlv2
theorem q_metL {l : Launch} {y : MethodName} {maxL : Nat} {rm : Room} {av : List Value} {Q : Int64 → q_Mem → Prop} (r : Nat) (hy : plainName y.cls = true) (hlen : (lg_sl av).length ≤ maxL) (hlv : q_lvs av ++ List.replicate r none = lv)
    (body : ∀ X : q_X, q_l X = l → q_C X cc maxL y.cls ret rm.frames rm.locals → q_J X G maxL (q_QL X G Q) 0 lv [] mem) : q_ML l G y cc maxL ret rm av mem Q := by
  refine Met.ofW (cc := cc) (maxL := maxL) (ret := ret) hy rfl ?_
  intro p e s m args below meth c s₁ B hml hv
  obtain ⟨rfl, hB⟩ := hv
  have hl := lv_entry av (n := maxL) hlen
  rw [lg_entry_eq]
  generalize (lg_sl av ++ List.replicate (maxL - (lg_sl av).length) Slot.unset).toArray = ls at hl ⊢
  have hts := atoms_spec (ws := Cond.code y cc maxL ret :: q_T) B.pre
  have hlv2 : q_L ls maxL lv := by rw [← hlv]; exact q_entry r hl
  exact body (p, l, e, (headSpec (Cond.code y cc maxL ret :: q_T) rm).room, s, m, av.toArray, below, meth, c, 0, 0) rfl ⟨⟨B.exec, B.bytes, hml, findClass_of_methodNamed B.named, fun w hw => hts w (List.mem_cons_of_mem _ hw)⟩, B.returns, B.notSynchronized, Nat.le_refl _, Nat.le_refl _, Nat.zero_le _, Nat.zero_le _⟩ s.heap [] ls hB va_S.rf hlv2
theorem q_metV {l : Launch} {y : MethodName} {maxL : Nat} {rm : Room} {av : List Value} {Q : q_Mem → Prop} (r : Nat) (hy : plainName y.cls = true) (hlen : (lg_sl av).length ≤ maxL) (hlv : q_lvs av ++ List.replicate r none = lv)
    (body : ∀ X : q_X, q_l X = l → q_C X cc maxL y.cls ret rm.frames rm.locals → q_J X G maxL (q_QV X G Q) 0 lv [] mem) : q_MV l G y cc maxL ret rm av mem Q := by
  refine Met.ofW (cc := cc) (maxL := maxL) (ret := ret) hy rfl ?_
  intro p e s m args below meth c s₁ B hml hv
  obtain ⟨rfl, hB⟩ := hv
  have hl := lv_entry av (n := maxL) hlen
  rw [lg_entry_eq]
  generalize (lg_sl av ++ List.replicate (maxL - (lg_sl av).length) Slot.unset).toArray = ls at hl ⊢
  have hts := atoms_spec (ws := Cond.code y cc maxL ret :: q_T) B.pre
  have hlv2 : q_L ls maxL lv := by rw [← hlv]; exact q_entry r hl
  exact body (p, l, e, (headSpec (Cond.code y cc maxL ret :: q_T) rm).room, s, m, av.toArray, below, meth, c, 0, 0) rfl ⟨⟨B.exec, B.bytes, hml, findClass_of_methodNamed B.named, fun w hw => hts w (List.mem_cons_of_mem _ hw)⟩, B.returns, B.notSynchronized, Nat.le_refl _, Nat.le_refl _, Nat.zero_le _, Nat.zero_le _⟩ s.heap [] ls hB va_S.rf hlv2

/-! the calls -/
theorem q_callVI (hX : q_C X cc nL own ret F Lo) {y : MethodName} {bytes : ByteArray} {maxL n index : Nat} {ret2 : Option FieldType} {rm : Room} {As : List Value} {k ci N : Nat} {C : String} {T : u_T} {fs : List (Option Nat)} (hsh : q_sh[k]? = some (.inr (.inr (ci, fs)))) (hc : vwCl[ci]? = some (C, T, N)) {Q : Int32 → q_Mem → Prop} (w0 : Cond.methodLink own index y ∈ q_T) (w1 : Cond.instanceMethod y ∈ q_T) (w2 : Cond.selects C y y ∈ q_T) (w3 : Cond.initialized y.cls ∈ q_T) (w4 : Cond.code y bytes maxL ret2 ∈ q_T) (hd : y.cls ≠ "java/lang/invoke/MethodHandle" ∧ y.cls ≠ "java/lang/invoke/VarHandle" ∧ (parseMethodDescriptor y.desc).map (fun d => d.parameters.length) = some n) (hrm : rm.cells = 0 ∧ rm.slots = 0) (hroom : rm.frames + 1 ≤ F ∧ 8 + (maxL + 11) + rm.locals ≤ Lo) (hn : As.length = n) (hcat : (st.map fun v => v.category).sum ≤ 8) (d : decode cc pc = .ok (.invokevirtual index, 3)) (pc' : Nat) (ep : pc + 3 = pc') {stk : List Value} (es : stk = As.reverse ++ .ref (q_ad G k) :: st) (hM : q_MI (q_l X) G y bytes maxL ret2 rm (.ref (q_ad G k) :: As) mem Q) (kk : ∀ (r : Int32) (u : q_Mem), Q r u → q_J X G nL QQ pc' lv (.int r :: st) u) : q_J X G nL QQ pc lv stk mem := by
  subst ep
  subst es
  intro H locs ls hW hS hL
  refine va_calli (va_runV (n := n) (mc := 0) (ms := 0) (As := As) (rest := st) hX.1 hM ⟨callB_of n hX.1.2.2.2.2 (q_good w4) rfl hrm.1 hrm.2 (hX.1.2.2.2.2 _ w3) (hX.1.2.2.2.2 _ w0) hd ⟨Nat.le_trans hroom.1 hX.2.2.2.1, Nat.le_trans hroom.2 hX.2.2.2.2.1⟩, hX.1.2.2.2.2 _ w1, hX.1.2.2.2.2 _ w2⟩ ⟨q_blind G _ mem, va_recv hW.2.1 hW.1 hc (q_w_get G mem hsh), fun U hU hw => ⟨rfl, by unfold q_Bd; rw [hU]; exact hW.warm hw⟩⟩ rfl hn hL.1 rfl (lv_room hcat) d ⟨hX.2.2.2.2.2.1, hX.2.2.2.2.2.2⟩) hS (fun q _ h => h) (fun q h => h) (fun r u t H1 locs1 ht hvm hq hB hz1 hk1 hS1 => ?_)
  exact kk r u hq H1 locs1 ls ⟨by rw [← ht]; exact hB.1, va_K.moved hvm.symm hB.2.1, hB.2.2.1, hW.2.2.2⟩ hS1 hL
theorem q_callVNI (hX : q_C X cc nL own ret F Lo) {y : MethodName} {bytes : ByteArray} {maxL n index : Nat} {ret2 : Option FieldType} {rm : Room} {As : List Value} {k ci N : Nat} {C : String} {T : u_T} {fs : List (Option Nat)} (hsh : q_sh[k]? = some (.inr (.inr (ci, fs)))) (hc : vwCl[ci]? = some (C, T, N)) {Q : Int32 → q_Mem → Prop} {host : String} (w0 : (own, index, y, host) ∈ q_nm) (w1 : Cond.instanceMethod y ∈ q_T) (w2 : Cond.selects C y y ∈ q_T) (w3 : Cond.initialized y.cls ∈ q_T) (w4 : Cond.code y bytes maxL ret2 ∈ q_T) (hd : y.cls ≠ "java/lang/invoke/MethodHandle" ∧ y.cls ≠ "java/lang/invoke/VarHandle" ∧ (parseMethodDescriptor y.desc).map (fun d => d.parameters.length) = some n) (hrm : rm.cells = 0 ∧ rm.slots = 0) (hroom : rm.frames + 1 ≤ F ∧ 8 + (maxL + 11) + rm.locals ≤ Lo) (hn : As.length = n) (hcat : (st.map fun v => v.category).sum ≤ 8) (d : decode cc pc = .ok (.invokevirtual index, 3)) (pc' : Nat) (ep : pc + 3 = pc') {stk : List Value} (es : stk = As.reverse ++ .ref (q_ad G k) :: st) (hM : q_MI (q_l X) G y bytes maxL ret2 rm (.ref (q_ad G k) :: As) mem Q) (kk : ∀ (r : Int32) (u : q_Mem), Q r u → q_J X G nL QQ pc' lv (.int r :: st) u) : q_J X G nL QQ pc lv stk mem := by
  subst ep
  subst es
  intro H locs ls hW hS hL
  refine va_calli (va_runVN (n := n) (mc := 0) (ms := 0) (As := As) (rest := st) hX.1 hM ⟨⟨⟨hrm.1, hrm.2, Nat.le_trans hroom.1 hX.2.2.2.1, Nat.le_trans hroom.2 hX.2.2.2.2.1, pay_in hX.1.2.2.2.2 (q_good w4), List.mem_cons_self⟩, hX.1.2.2.2.2 _ w4, hX.1.2.2.2.2 _ w3, ⟨hd.1, hd.2.1⟩, (fun sig h => by have h2 := hd.2.2; rw [h] at h2; exact (Option.some.inj h2).symm), va_Nw.use rfl (hW.2.2.2.2 _ w0)⟩, hX.1.2.2.2.2 _ w1, hX.1.2.2.2.2 _ w2⟩ ⟨q_blind G _ mem, va_recv hW.2.1 hW.1 hc (q_w_get G mem hsh), fun U hU hw => ⟨rfl, by unfold q_Bd; rw [hU]; exact hW.warm hw⟩⟩ rfl hn hL.1 rfl (lv_room hcat) d ⟨hX.2.2.2.2.2.1, hX.2.2.2.2.2.2⟩) hS (fun q _ h => h) (fun q h => h) (fun r u t H1 locs1 ht hvm hq hB hz1 hk1 hS1 => ?_)
  exact kk r u hq H1 locs1 ls ⟨by rw [← ht]; exact hB.1, va_K.moved hvm.symm hB.2.1, hB.2.2.1, hW.2.2.2⟩ hS1 hL
theorem q_callSI (hX : q_C X cc nL own ret F Lo) {y : MethodName} {bytes : ByteArray} {maxL n index : Nat} {ret2 : Option FieldType} {rm : Room} {As : List Value} {Q : Int32 → q_Mem → Prop} (w0 : Cond.methodLink own index y ∈ q_T) (w1 : Cond.static y ∈ q_T) (w3 : Cond.initialized y.cls ∈ q_T) (w4 : Cond.code y bytes maxL ret2 ∈ q_T) (hd : y.cls ≠ "java/lang/invoke/MethodHandle" ∧ y.cls ≠ "java/lang/invoke/VarHandle" ∧ (parseMethodDescriptor y.desc).map (fun d => d.parameters.length) = some n) (hrm : rm.cells = 0 ∧ rm.slots = 0) (hroom : rm.frames + 1 ≤ F ∧ 8 + (maxL + 11) + rm.locals ≤ Lo) (hn : As.length = n) (hcat : (st.map fun v => v.category).sum ≤ 8) (d : decode cc pc = .ok (.invokestatic index, 3)) (pc' : Nat) (ep : pc + 3 = pc') {stk : List Value} (es : stk = As.reverse ++ st) (hM : q_MI (q_l X) G y bytes maxL ret2 rm As mem Q) (kk : ∀ (r : Int32) (u : q_Mem), Q r u → q_J X G nL QQ pc' lv (.int r :: st) u) : q_J X G nL QQ pc lv stk mem := by
  subst ep
  subst es
  intro H locs ls hW hS hL
  refine va_calli (va_runS (n := n) (mc := 0) (ms := 0) (As := As) (rest := st) hX.1 hM ⟨callB_of n hX.1.2.2.2.2 (q_good w4) rfl hrm.1 hrm.2 (hX.1.2.2.2.2 _ w3) (hX.1.2.2.2.2 _ w0) hd ⟨Nat.le_trans hroom.1 hX.2.2.2.1, Nat.le_trans hroom.2 hX.2.2.2.2.1⟩, hX.1.2.2.2.2 _ w1⟩ ⟨q_blind G _ mem, fun U hU hw => ⟨rfl, by unfold q_Bd; rw [hU]; exact hW.warm hw⟩⟩ rfl hn hL.1 rfl (lv_room hcat) d ⟨hX.2.2.2.2.2.1, hX.2.2.2.2.2.2⟩) hS (fun q _ h => h) (fun q h => h) (fun r u t H1 locs1 ht hvm hq hB hz1 hk1 hS1 => ?_)
  exact kk r u hq H1 locs1 ls ⟨by rw [← ht]; exact hB.1, va_K.moved hvm.symm hB.2.1, hB.2.2.1, hW.2.2.2⟩ hS1 hL
theorem q_callSNI (hX : q_C X cc nL own ret F Lo) {y : MethodName} {bytes : ByteArray} {maxL n index : Nat} {ret2 : Option FieldType} {rm : Room} {As : List Value} {Q : Int32 → q_Mem → Prop} {host : String} (w0 : (own, index, y, host) ∈ q_nm) (w1 : Cond.static y ∈ q_T) (w3 : Cond.initialized y.cls ∈ q_T) (w4 : Cond.code y bytes maxL ret2 ∈ q_T) (hd : y.cls ≠ "java/lang/invoke/MethodHandle" ∧ y.cls ≠ "java/lang/invoke/VarHandle" ∧ (parseMethodDescriptor y.desc).map (fun d => d.parameters.length) = some n) (hrm : rm.cells = 0 ∧ rm.slots = 0) (hroom : rm.frames + 1 ≤ F ∧ 8 + (maxL + 11) + rm.locals ≤ Lo) (hn : As.length = n) (hcat : (st.map fun v => v.category).sum ≤ 8) (d : decode cc pc = .ok (.invokestatic index, 3)) (pc' : Nat) (ep : pc + 3 = pc') {stk : List Value} (es : stk = As.reverse ++ st) (hM : q_MI (q_l X) G y bytes maxL ret2 rm As mem Q) (kk : ∀ (r : Int32) (u : q_Mem), Q r u → q_J X G nL QQ pc' lv (.int r :: st) u) : q_J X G nL QQ pc lv stk mem := by
  subst ep
  subst es
  intro H locs ls hW hS hL
  refine va_calli (va_runSN (n := n) (mc := 0) (ms := 0) (As := As) (rest := st) hX.1 hM ⟨⟨⟨hrm.1, hrm.2, Nat.le_trans hroom.1 hX.2.2.2.1, Nat.le_trans hroom.2 hX.2.2.2.2.1, pay_in hX.1.2.2.2.2 (q_good w4), List.mem_cons_self⟩, hX.1.2.2.2.2 _ w4, hX.1.2.2.2.2 _ w3, ⟨hd.1, hd.2.1⟩, (fun sig h => by have h2 := hd.2.2; rw [h] at h2; exact (Option.some.inj h2).symm), va_Nw.use rfl (hW.2.2.2.2 _ w0)⟩, hX.1.2.2.2.2 _ w1, trivial⟩ ⟨q_blind G _ mem, fun U hU hw => ⟨rfl, by unfold q_Bd; rw [hU]; exact hW.warm hw⟩⟩ rfl hn hL.1 rfl (lv_room hcat) d ⟨hX.2.2.2.2.2.1, hX.2.2.2.2.2.2⟩) hS (fun q _ h => h) (fun q h => h) (fun r u t H1 locs1 ht hvm hq hB hz1 hk1 hS1 => ?_)
  exact kk r u hq H1 locs1 ls ⟨by rw [← ht]; exact hB.1, va_K.moved hvm.symm hB.2.1, hB.2.2.1, hW.2.2.2⟩ hS1 hL
theorem q_callVL (hX : q_C X cc nL own ret F Lo) {y : MethodName} {bytes : ByteArray} {maxL n index : Nat} {ret2 : Option FieldType} {rm : Room} {As : List Value} {k ci N : Nat} {C : String} {T : u_T} {fs : List (Option Nat)} (hsh : q_sh[k]? = some (.inr (.inr (ci, fs)))) (hc : vwCl[ci]? = some (C, T, N)) {Q : Int64 → q_Mem → Prop} (w0 : Cond.methodLink own index y ∈ q_T) (w1 : Cond.instanceMethod y ∈ q_T) (w2 : Cond.selects C y y ∈ q_T) (w3 : Cond.initialized y.cls ∈ q_T) (w4 : Cond.code y bytes maxL ret2 ∈ q_T) (hd : y.cls ≠ "java/lang/invoke/MethodHandle" ∧ y.cls ≠ "java/lang/invoke/VarHandle" ∧ (parseMethodDescriptor y.desc).map (fun d => d.parameters.length) = some n) (hrm : rm.cells = 0 ∧ rm.slots = 0) (hroom : rm.frames + 1 ≤ F ∧ 8 + (maxL + 11) + rm.locals ≤ Lo) (hn : As.length = n) (hcat : (st.map fun v => v.category).sum ≤ 8) (d : decode cc pc = .ok (.invokevirtual index, 3)) (pc' : Nat) (ep : pc + 3 = pc') {stk : List Value} (es : stk = As.reverse ++ .ref (q_ad G k) :: st) (hM : q_ML (q_l X) G y bytes maxL ret2 rm (.ref (q_ad G k) :: As) mem Q) (kk : ∀ (r : Int64) (u : q_Mem), Q r u → q_J X G nL QQ pc' lv (.long r :: st) u) : q_J X G nL QQ pc lv stk mem := by
  subst ep
  subst es
  intro H locs ls hW hS hL
  refine va_calll (va_runV (n := n) (mc := 0) (ms := 0) (As := As) (rest := st) hX.1 hM ⟨callB_of n hX.1.2.2.2.2 (q_good w4) rfl hrm.1 hrm.2 (hX.1.2.2.2.2 _ w3) (hX.1.2.2.2.2 _ w0) hd ⟨Nat.le_trans hroom.1 hX.2.2.2.1, Nat.le_trans hroom.2 hX.2.2.2.2.1⟩, hX.1.2.2.2.2 _ w1, hX.1.2.2.2.2 _ w2⟩ ⟨q_blind G _ mem, va_recv hW.2.1 hW.1 hc (q_w_get G mem hsh), fun U hU hw => ⟨rfl, by unfold q_Bd; rw [hU]; exact hW.warm hw⟩⟩ rfl hn hL.1 rfl (lv_room hcat) d ⟨hX.2.2.2.2.2.1, hX.2.2.2.2.2.2⟩) hS (fun q _ h => h) (fun q h => h) (fun r u t H1 locs1 ht hvm hq hB hz1 hk1 hS1 => ?_)
  exact kk r u hq H1 locs1 ls ⟨by rw [← ht]; exact hB.1, va_K.moved hvm.symm hB.2.1, hB.2.2.1, hW.2.2.2⟩ hS1 hL
theorem q_callVNL (hX : q_C X cc nL own ret F Lo) {y : MethodName} {bytes : ByteArray} {maxL n index : Nat} {ret2 : Option FieldType} {rm : Room} {As : List Value} {k ci N : Nat} {C : String} {T : u_T} {fs : List (Option Nat)} (hsh : q_sh[k]? = some (.inr (.inr (ci, fs)))) (hc : vwCl[ci]? = some (C, T, N)) {Q : Int64 → q_Mem → Prop} {host : String} (w0 : (own, index, y, host) ∈ q_nm) (w1 : Cond.instanceMethod y ∈ q_T) (w2 : Cond.selects C y y ∈ q_T) (w3 : Cond.initialized y.cls ∈ q_T) (w4 : Cond.code y bytes maxL ret2 ∈ q_T) (hd : y.cls ≠ "java/lang/invoke/MethodHandle" ∧ y.cls ≠ "java/lang/invoke/VarHandle" ∧ (parseMethodDescriptor y.desc).map (fun d => d.parameters.length) = some n) (hrm : rm.cells = 0 ∧ rm.slots = 0) (hroom : rm.frames + 1 ≤ F ∧ 8 + (maxL + 11) + rm.locals ≤ Lo) (hn : As.length = n) (hcat : (st.map fun v => v.category).sum ≤ 8) (d : decode cc pc = .ok (.invokevirtual index, 3)) (pc' : Nat) (ep : pc + 3 = pc') {stk : List Value} (es : stk = As.reverse ++ .ref (q_ad G k) :: st) (hM : q_ML (q_l X) G y bytes maxL ret2 rm (.ref (q_ad G k) :: As) mem Q) (kk : ∀ (r : Int64) (u : q_Mem), Q r u → q_J X G nL QQ pc' lv (.long r :: st) u) : q_J X G nL QQ pc lv stk mem := by
  subst ep
  subst es
  intro H locs ls hW hS hL
  refine va_calll (va_runVN (n := n) (mc := 0) (ms := 0) (As := As) (rest := st) hX.1 hM ⟨⟨⟨hrm.1, hrm.2, Nat.le_trans hroom.1 hX.2.2.2.1, Nat.le_trans hroom.2 hX.2.2.2.2.1, pay_in hX.1.2.2.2.2 (q_good w4), List.mem_cons_self⟩, hX.1.2.2.2.2 _ w4, hX.1.2.2.2.2 _ w3, ⟨hd.1, hd.2.1⟩, (fun sig h => by have h2 := hd.2.2; rw [h] at h2; exact (Option.some.inj h2).symm), va_Nw.use rfl (hW.2.2.2.2 _ w0)⟩, hX.1.2.2.2.2 _ w1, hX.1.2.2.2.2 _ w2⟩ ⟨q_blind G _ mem, va_recv hW.2.1 hW.1 hc (q_w_get G mem hsh), fun U hU hw => ⟨rfl, by unfold q_Bd; rw [hU]; exact hW.warm hw⟩⟩ rfl hn hL.1 rfl (lv_room hcat) d ⟨hX.2.2.2.2.2.1, hX.2.2.2.2.2.2⟩) hS (fun q _ h => h) (fun q h => h) (fun r u t H1 locs1 ht hvm hq hB hz1 hk1 hS1 => ?_)
  exact kk r u hq H1 locs1 ls ⟨by rw [← ht]; exact hB.1, va_K.moved hvm.symm hB.2.1, hB.2.2.1, hW.2.2.2⟩ hS1 hL
theorem q_callSL (hX : q_C X cc nL own ret F Lo) {y : MethodName} {bytes : ByteArray} {maxL n index : Nat} {ret2 : Option FieldType} {rm : Room} {As : List Value} {Q : Int64 → q_Mem → Prop} (w0 : Cond.methodLink own index y ∈ q_T) (w1 : Cond.static y ∈ q_T) (w3 : Cond.initialized y.cls ∈ q_T) (w4 : Cond.code y bytes maxL ret2 ∈ q_T) (hd : y.cls ≠ "java/lang/invoke/MethodHandle" ∧ y.cls ≠ "java/lang/invoke/VarHandle" ∧ (parseMethodDescriptor y.desc).map (fun d => d.parameters.length) = some n) (hrm : rm.cells = 0 ∧ rm.slots = 0) (hroom : rm.frames + 1 ≤ F ∧ 8 + (maxL + 11) + rm.locals ≤ Lo) (hn : As.length = n) (hcat : (st.map fun v => v.category).sum ≤ 8) (d : decode cc pc = .ok (.invokestatic index, 3)) (pc' : Nat) (ep : pc + 3 = pc') {stk : List Value} (es : stk = As.reverse ++ st) (hM : q_ML (q_l X) G y bytes maxL ret2 rm As mem Q) (kk : ∀ (r : Int64) (u : q_Mem), Q r u → q_J X G nL QQ pc' lv (.long r :: st) u) : q_J X G nL QQ pc lv stk mem := by
  subst ep
  subst es
  intro H locs ls hW hS hL
  refine va_calll (va_runS (n := n) (mc := 0) (ms := 0) (As := As) (rest := st) hX.1 hM ⟨callB_of n hX.1.2.2.2.2 (q_good w4) rfl hrm.1 hrm.2 (hX.1.2.2.2.2 _ w3) (hX.1.2.2.2.2 _ w0) hd ⟨Nat.le_trans hroom.1 hX.2.2.2.1, Nat.le_trans hroom.2 hX.2.2.2.2.1⟩, hX.1.2.2.2.2 _ w1⟩ ⟨q_blind G _ mem, fun U hU hw => ⟨rfl, by unfold q_Bd; rw [hU]; exact hW.warm hw⟩⟩ rfl hn hL.1 rfl (lv_room hcat) d ⟨hX.2.2.2.2.2.1, hX.2.2.2.2.2.2⟩) hS (fun q _ h => h) (fun q h => h) (fun r u t H1 locs1 ht hvm hq hB hz1 hk1 hS1 => ?_)
  exact kk r u hq H1 locs1 ls ⟨by rw [← ht]; exact hB.1, va_K.moved hvm.symm hB.2.1, hB.2.2.1, hW.2.2.2⟩ hS1 hL
theorem q_callSNL (hX : q_C X cc nL own ret F Lo) {y : MethodName} {bytes : ByteArray} {maxL n index : Nat} {ret2 : Option FieldType} {rm : Room} {As : List Value} {Q : Int64 → q_Mem → Prop} {host : String} (w0 : (own, index, y, host) ∈ q_nm) (w1 : Cond.static y ∈ q_T) (w3 : Cond.initialized y.cls ∈ q_T) (w4 : Cond.code y bytes maxL ret2 ∈ q_T) (hd : y.cls ≠ "java/lang/invoke/MethodHandle" ∧ y.cls ≠ "java/lang/invoke/VarHandle" ∧ (parseMethodDescriptor y.desc).map (fun d => d.parameters.length) = some n) (hrm : rm.cells = 0 ∧ rm.slots = 0) (hroom : rm.frames + 1 ≤ F ∧ 8 + (maxL + 11) + rm.locals ≤ Lo) (hn : As.length = n) (hcat : (st.map fun v => v.category).sum ≤ 8) (d : decode cc pc = .ok (.invokestatic index, 3)) (pc' : Nat) (ep : pc + 3 = pc') {stk : List Value} (es : stk = As.reverse ++ st) (hM : q_ML (q_l X) G y bytes maxL ret2 rm As mem Q) (kk : ∀ (r : Int64) (u : q_Mem), Q r u → q_J X G nL QQ pc' lv (.long r :: st) u) : q_J X G nL QQ pc lv stk mem := by
  subst ep
  subst es
  intro H locs ls hW hS hL
  refine va_calll (va_runSN (n := n) (mc := 0) (ms := 0) (As := As) (rest := st) hX.1 hM ⟨⟨⟨hrm.1, hrm.2, Nat.le_trans hroom.1 hX.2.2.2.1, Nat.le_trans hroom.2 hX.2.2.2.2.1, pay_in hX.1.2.2.2.2 (q_good w4), List.mem_cons_self⟩, hX.1.2.2.2.2 _ w4, hX.1.2.2.2.2 _ w3, ⟨hd.1, hd.2.1⟩, (fun sig h => by have h2 := hd.2.2; rw [h] at h2; exact (Option.some.inj h2).symm), va_Nw.use rfl (hW.2.2.2.2 _ w0)⟩, hX.1.2.2.2.2 _ w1, trivial⟩ ⟨q_blind G _ mem, fun U hU hw => ⟨rfl, by unfold q_Bd; rw [hU]; exact hW.warm hw⟩⟩ rfl hn hL.1 rfl (lv_room hcat) d ⟨hX.2.2.2.2.2.1, hX.2.2.2.2.2.2⟩) hS (fun q _ h => h) (fun q h => h) (fun r u t H1 locs1 ht hvm hq hB hz1 hk1 hS1 => ?_)
  exact kk r u hq H1 locs1 ls ⟨by rw [← ht]; exact hB.1, va_K.moved hvm.symm hB.2.1, hB.2.2.1, hW.2.2.2⟩ hS1 hL
theorem q_callVV (hX : q_C X cc nL own ret F Lo) {y : MethodName} {bytes : ByteArray} {maxL n index : Nat} {ret2 : Option FieldType} {rm : Room} {As : List Value} {k ci N : Nat} {C : String} {T : u_T} {fs : List (Option Nat)} (hsh : q_sh[k]? = some (.inr (.inr (ci, fs)))) (hc : vwCl[ci]? = some (C, T, N)) {Q : q_Mem → Prop} (w0 : Cond.methodLink own index y ∈ q_T) (w1 : Cond.instanceMethod y ∈ q_T) (w2 : Cond.selects C y y ∈ q_T) (w3 : Cond.initialized y.cls ∈ q_T) (w4 : Cond.code y bytes maxL ret2 ∈ q_T) (hd : y.cls ≠ "java/lang/invoke/MethodHandle" ∧ y.cls ≠ "java/lang/invoke/VarHandle" ∧ (parseMethodDescriptor y.desc).map (fun d => d.parameters.length) = some n) (hrm : rm.cells = 0 ∧ rm.slots = 0) (hroom : rm.frames + 1 ≤ F ∧ 8 + (maxL + 11) + rm.locals ≤ Lo) (hn : As.length = n) (hcat : (st.map fun v => v.category).sum ≤ 8) (d : decode cc pc = .ok (.invokevirtual index, 3)) (pc' : Nat) (ep : pc + 3 = pc') {stk : List Value} (es : stk = As.reverse ++ .ref (q_ad G k) :: st) (hM : q_MV (q_l X) G y bytes maxL ret2 rm (.ref (q_ad G k) :: As) mem Q) (kk : ∀ (u : q_Mem), Q u → q_J X G nL QQ pc' lv (st) u) : q_J X G nL QQ pc lv stk mem := by
  subst ep
  subst es
  intro H locs ls hW hS hL
  refine va_callv (va_runV (n := n) (mc := 0) (ms := 0) (As := As) (rest := st) hX.1 hM ⟨callB_of n hX.1.2.2.2.2 (q_good w4) rfl hrm.1 hrm.2 (hX.1.2.2.2.2 _ w3) (hX.1.2.2.2.2 _ w0) hd ⟨Nat.le_trans hroom.1 hX.2.2.2.1, Nat.le_trans hroom.2 hX.2.2.2.2.1⟩, hX.1.2.2.2.2 _ w1, hX.1.2.2.2.2 _ w2⟩ ⟨q_blind G _ mem, va_recv hW.2.1 hW.1 hc (q_w_get G mem hsh), fun U hU hw => ⟨rfl, by unfold q_Bd; rw [hU]; exact hW.warm hw⟩⟩ rfl hn hL.1 rfl (lv_room hcat) d ⟨hX.2.2.2.2.2.1, hX.2.2.2.2.2.2⟩) hS (fun q _ h => h) (fun q h => h) (fun u t H1 locs1 ht hvm hq hB hz1 hk1 hS1 => ?_)
  exact kk u hq H1 locs1 ls ⟨by rw [← ht]; exact hB.1, va_K.moved hvm.symm hB.2.1, hB.2.2.1, hW.2.2.2⟩ hS1 hL
theorem q_callVNV (hX : q_C X cc nL own ret F Lo) {y : MethodName} {bytes : ByteArray} {maxL n index : Nat} {ret2 : Option FieldType} {rm : Room} {As : List Value} {k ci N : Nat} {C : String} {T : u_T} {fs : List (Option Nat)} (hsh : q_sh[k]? = some (.inr (.inr (ci, fs)))) (hc : vwCl[ci]? = some (C, T, N)) {Q : q_Mem → Prop} {host : String} (w0 : (own, index, y, host) ∈ q_nm) (w1 : Cond.instanceMethod y ∈ q_T) (w2 : Cond.selects C y y ∈ q_T) (w3 : Cond.initialized y.cls ∈ q_T) (w4 : Cond.code y bytes maxL ret2 ∈ q_T) (hd : y.cls ≠ "java/lang/invoke/MethodHandle" ∧ y.cls ≠ "java/lang/invoke/VarHandle" ∧ (parseMethodDescriptor y.desc).map (fun d => d.parameters.length) = some n) (hrm : rm.cells = 0 ∧ rm.slots = 0) (hroom : rm.frames + 1 ≤ F ∧ 8 + (maxL + 11) + rm.locals ≤ Lo) (hn : As.length = n) (hcat : (st.map fun v => v.category).sum ≤ 8) (d : decode cc pc = .ok (.invokevirtual index, 3)) (pc' : Nat) (ep : pc + 3 = pc') {stk : List Value} (es : stk = As.reverse ++ .ref (q_ad G k) :: st) (hM : q_MV (q_l X) G y bytes maxL ret2 rm (.ref (q_ad G k) :: As) mem Q) (kk : ∀ (u : q_Mem), Q u → q_J X G nL QQ pc' lv (st) u) : q_J X G nL QQ pc lv stk mem := by
  subst ep
  subst es
  intro H locs ls hW hS hL
  refine va_callv (va_runVN (n := n) (mc := 0) (ms := 0) (As := As) (rest := st) hX.1 hM ⟨⟨⟨hrm.1, hrm.2, Nat.le_trans hroom.1 hX.2.2.2.1, Nat.le_trans hroom.2 hX.2.2.2.2.1, pay_in hX.1.2.2.2.2 (q_good w4), List.mem_cons_self⟩, hX.1.2.2.2.2 _ w4, hX.1.2.2.2.2 _ w3, ⟨hd.1, hd.2.1⟩, (fun sig h => by have h2 := hd.2.2; rw [h] at h2; exact (Option.some.inj h2).symm), va_Nw.use rfl (hW.2.2.2.2 _ w0)⟩, hX.1.2.2.2.2 _ w1, hX.1.2.2.2.2 _ w2⟩ ⟨q_blind G _ mem, va_recv hW.2.1 hW.1 hc (q_w_get G mem hsh), fun U hU hw => ⟨rfl, by unfold q_Bd; rw [hU]; exact hW.warm hw⟩⟩ rfl hn hL.1 rfl (lv_room hcat) d ⟨hX.2.2.2.2.2.1, hX.2.2.2.2.2.2⟩) hS (fun q _ h => h) (fun q h => h) (fun u t H1 locs1 ht hvm hq hB hz1 hk1 hS1 => ?_)
  exact kk u hq H1 locs1 ls ⟨by rw [← ht]; exact hB.1, va_K.moved hvm.symm hB.2.1, hB.2.2.1, hW.2.2.2⟩ hS1 hL
theorem q_callSV (hX : q_C X cc nL own ret F Lo) {y : MethodName} {bytes : ByteArray} {maxL n index : Nat} {ret2 : Option FieldType} {rm : Room} {As : List Value} {Q : q_Mem → Prop} (w0 : Cond.methodLink own index y ∈ q_T) (w1 : Cond.static y ∈ q_T) (w3 : Cond.initialized y.cls ∈ q_T) (w4 : Cond.code y bytes maxL ret2 ∈ q_T) (hd : y.cls ≠ "java/lang/invoke/MethodHandle" ∧ y.cls ≠ "java/lang/invoke/VarHandle" ∧ (parseMethodDescriptor y.desc).map (fun d => d.parameters.length) = some n) (hrm : rm.cells = 0 ∧ rm.slots = 0) (hroom : rm.frames + 1 ≤ F ∧ 8 + (maxL + 11) + rm.locals ≤ Lo) (hn : As.length = n) (hcat : (st.map fun v => v.category).sum ≤ 8) (d : decode cc pc = .ok (.invokestatic index, 3)) (pc' : Nat) (ep : pc + 3 = pc') {stk : List Value} (es : stk = As.reverse ++ st) (hM : q_MV (q_l X) G y bytes maxL ret2 rm As mem Q) (kk : ∀ (u : q_Mem), Q u → q_J X G nL QQ pc' lv (st) u) : q_J X G nL QQ pc lv stk mem := by
  subst ep
  subst es
  intro H locs ls hW hS hL
  refine va_callv (va_runS (n := n) (mc := 0) (ms := 0) (As := As) (rest := st) hX.1 hM ⟨callB_of n hX.1.2.2.2.2 (q_good w4) rfl hrm.1 hrm.2 (hX.1.2.2.2.2 _ w3) (hX.1.2.2.2.2 _ w0) hd ⟨Nat.le_trans hroom.1 hX.2.2.2.1, Nat.le_trans hroom.2 hX.2.2.2.2.1⟩, hX.1.2.2.2.2 _ w1⟩ ⟨q_blind G _ mem, fun U hU hw => ⟨rfl, by unfold q_Bd; rw [hU]; exact hW.warm hw⟩⟩ rfl hn hL.1 rfl (lv_room hcat) d ⟨hX.2.2.2.2.2.1, hX.2.2.2.2.2.2⟩) hS (fun q _ h => h) (fun q h => h) (fun u t H1 locs1 ht hvm hq hB hz1 hk1 hS1 => ?_)
  exact kk u hq H1 locs1 ls ⟨by rw [← ht]; exact hB.1, va_K.moved hvm.symm hB.2.1, hB.2.2.1, hW.2.2.2⟩ hS1 hL
theorem q_callSNV (hX : q_C X cc nL own ret F Lo) {y : MethodName} {bytes : ByteArray} {maxL n index : Nat} {ret2 : Option FieldType} {rm : Room} {As : List Value} {Q : q_Mem → Prop} {host : String} (w0 : (own, index, y, host) ∈ q_nm) (w1 : Cond.static y ∈ q_T) (w3 : Cond.initialized y.cls ∈ q_T) (w4 : Cond.code y bytes maxL ret2 ∈ q_T) (hd : y.cls ≠ "java/lang/invoke/MethodHandle" ∧ y.cls ≠ "java/lang/invoke/VarHandle" ∧ (parseMethodDescriptor y.desc).map (fun d => d.parameters.length) = some n) (hrm : rm.cells = 0 ∧ rm.slots = 0) (hroom : rm.frames + 1 ≤ F ∧ 8 + (maxL + 11) + rm.locals ≤ Lo) (hn : As.length = n) (hcat : (st.map fun v => v.category).sum ≤ 8) (d : decode cc pc = .ok (.invokestatic index, 3)) (pc' : Nat) (ep : pc + 3 = pc') {stk : List Value} (es : stk = As.reverse ++ st) (hM : q_MV (q_l X) G y bytes maxL ret2 rm As mem Q) (kk : ∀ (u : q_Mem), Q u → q_J X G nL QQ pc' lv (st) u) : q_J X G nL QQ pc lv stk mem := by
  subst ep
  subst es
  intro H locs ls hW hS hL
  refine va_callv (va_runSN (n := n) (mc := 0) (ms := 0) (As := As) (rest := st) hX.1 hM ⟨⟨⟨hrm.1, hrm.2, Nat.le_trans hroom.1 hX.2.2.2.1, Nat.le_trans hroom.2 hX.2.2.2.2.1, pay_in hX.1.2.2.2.2 (q_good w4), List.mem_cons_self⟩, hX.1.2.2.2.2 _ w4, hX.1.2.2.2.2 _ w3, ⟨hd.1, hd.2.1⟩, (fun sig h => by have h2 := hd.2.2; rw [h] at h2; exact (Option.some.inj h2).symm), va_Nw.use rfl (hW.2.2.2.2 _ w0)⟩, hX.1.2.2.2.2 _ w1, trivial⟩ ⟨q_blind G _ mem, fun U hU hw => ⟨rfl, by unfold q_Bd; rw [hU]; exact hW.warm hw⟩⟩ rfl hn hL.1 rfl (lv_room hcat) d ⟨hX.2.2.2.2.2.1, hX.2.2.2.2.2.2⟩) hS (fun q _ h => h) (fun q h => h) (fun u t H1 locs1 ht hvm hq hB hz1 hk1 hS1 => ?_)
  exact kk u hq H1 locs1 ls ⟨by rw [← ht]; exact hB.1, va_K.moved hvm.symm hB.2.1, hB.2.2.1, hW.2.2.2⟩ hS1 hL
end QC

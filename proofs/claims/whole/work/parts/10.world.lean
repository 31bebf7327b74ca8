/-! THE CLAIM OUT OF ONE WALK OF THE LAW'S BODY. Your part is whole_start (and what it stands on); all else here is the same for every law, but numbers. -/
def R_law : String := "WetWallsLaw"
def lw_P (b : Addr) (xs : List Int32) (args : Array Value) (s : State) : Prop := args = #[.ref b] ∧ s.IntsAt b xs ∧ xs.length ≤ 3072 ∧ (Jvm.Cond.and given_1 narrow_1).before args s = true
def lw_Q (_ : Array Value) (s : State) (o : Outcome) (t : State) : Prop := o = .returned (some (.int 1)) ∧ Framed s o t [] 600000 7302250
def lw_Z (below : List Frame) (a : Array Value) (s : State) : State → Prop := fun t => ∃ o, t.status = .running ∧ Ended t below o ∧ lw_Q a s o t
/-- the law's own end, with 1 on the stack, nothing written that was there before, its room as the claim has it -/
theorem lw_ret {p : Program} {l : Launch} {e : Env} {s : State} {m : MethodId} {below : List Frame} {meth : Method} {c : Code} {b : Nat} (hx : p.tables.exec = Jvm.exec) (hb : c.code = code) (hr : meth.sig.returnType = ret) (hlocks : meth.locks = false) {pc : Nat} {H : Heap} {ls : Array Slot} (hdg : decode code pc = .ok (.ireturn, 1)) : W p l e room_1 s m #[Value.ref b] below meth c H [] 600000 7302250 (lw_Z below #[Value.ref b] s) (F0 m pc ls [.int 1]) := by
  intro T hT X
  obtain ⟨fs, hret, hrun, hended, hW, hframe⟩ := X.leave (v := some (.int 1)) (hlocks := hlocks) (fun h => by rw [hr] at h; cases h)
  have hmeth' : T.vm.method? m = some meth := X.method'
  refine ⟨T.setFrames fs, ?_, .returned (some (.int 1)), hrun, hended, rfl, ⟨_, rfl⟩, hW, hframe⟩
  jvm_step X.here [X.here.top, hx, hb, hdg, hmeth', hr, ret, narrow_b1]
  (try refine ⟨rfl, ?_⟩); (try refine ⟨rfl, ?_⟩)
  first | (intro acts; rw [hret _ acts rfl rfl rfl]) | rw [hret _ _ rfl rfl rfl]
  exact Steps.refl _
/-- what holds at the law's entry: the machine, the code, the tables' words (any of lw_tbl by 'hts w (by decide +kernel)'), the script of L ints xs at the cell b, what the Statement gives of the start (any of its parts by flat_of_before) -/
def lw_At (p : Program) (s : State) (m : MethodId) (meth : Method) (c : Code) (b L : Nat) (xs : Nat → Int32) : Prop :=
  p.tables.exec = Jvm.exec ∧ c.code = code ∧ meth.sig.returnType = ret ∧ c.maxLocals = 4 ∧ s.vm.findClass R_law = some m.cls ∧ (∀ w ∈ lw_tbl, w.before #[Value.ref b] s = true) ∧ va_X b L xs s s.heap ∧ b < s.heap.size ∧ meth.locks = false ∧ (Jvm.Cond.and given_1 narrow_1).before #[Value.ref b] s = true

/-! ===== the first memory, and the world that the two constructors leave ===== -/
def q_mi {α β : Type} (g : Nat → α → β) : Nat → List α → List β
  | _, [] => []
  | k, a :: l => g k a :: q_mi g (k + 1) l
theorem q_mi_get {α β : Type} (g : Nat → α → β) : ∀ (l : List α) (k i : Nat), (q_mi g k l)[i]? = (l[i]?).map (g (k + i))
  | [], k, i => by simp [q_mi]
  | a :: l, k, 0 => by simp [q_mi]
  | a :: l, k, i + 1 => by
    rw [q_mi, List.getElem?_cons_succ, List.getElem?_cons_succ, q_mi_get g l (k + 1) i]
    rw [show k + 1 + i = k + (i + 1) by omega]
theorem q_mi_eq {α β : Type} (g : Nat → α → β) (l : List α) : l.mapIdx g = q_mi g 0 l := by
  apply List.ext_getElem?
  intro i
  rw [List.getElem?_mapIdx, q_mi_get, Nat.zero_add]
def q_e2 (G : q_G) (f : Nat → Int32) (s : q_Shp) : va_E := match s with
  | .inl n => .inl (G.2.2.1, n, .inl f)
  | .inr (.inl x) => .inl (G.2.2.2.1, x.1, .inr (.inr (.inr (.inr (fun i => if i < x.1 then some (G.2.1 (x.2 + i)) else none)))))
  | .inr (.inr x) => .inr (x.1, q_mi (q_fv G.2.1 f) 0 x.2)
theorem q_e_eq (G : q_G) (f : Nat → Int32) (s : q_Shp) : q_e G f s = q_e2 G f s := by
  rcases s with n | x | x
  · rfl
  · rfl
  · show Sum.inr (x.1, x.2.mapIdx _) = Sum.inr (x.1, _)
    rw [q_mi_eq]
theorem q_w_eq (G : q_G) (mem : q_Mem) : q_w G mem = q_mi (fun k s => (G.2.1 k, q_e2 G (mem k) s)) 0 q_sh := by
  unfold q_w
  rw [q_mi_eq]
  congr 1
  funext k s
  rw [q_e_eq]
def q_C0 : Nat → Int32 := va_cpy q_F0 (fun _ => 0) (0 : Int32).toNatClampNeg (0 : Int32).toNatClampNeg (5 : Int32).toNatClampNeg
def q_CM : Nat → Int32 := (upd (upd (upd (upd (upd (upd (upd (upd (upd (upd (upd (upd (upd (upd (upd (fun _ => 0) (0 : Int32).toNatClampNeg ((250 : Int32) * ((0 : Int32) - (0 : Int32) / (5 : Int32) * (5 : Int32)))) (1 : Int32).toNatClampNeg ((250 : Int32) * ((1 : Int32) - (1 : Int32) / (5 : Int32) * (5 : Int32)))) (2 : Int32).toNatClampNeg ((250 : Int32) * ((2 : Int32) - (2 : Int32) / (5 : Int32) * (5 : Int32)))) (3 : Int32).toNatClampNeg ((250 : Int32) * ((3 : Int32) - (3 : Int32) / (5 : Int32) * (5 : Int32)))) (4 : Int32).toNatClampNeg ((250 : Int32) * ((4 : Int32) - (4 : Int32) / (5 : Int32) * (5 : Int32)))) (5 : Int32).toNatClampNeg ((250 : Int32) * ((5 : Int32) - (5 : Int32) / (5 : Int32) * (5 : Int32)))) (6 : Int32).toNatClampNeg ((250 : Int32) * ((6 : Int32) - (6 : Int32) / (5 : Int32) * (5 : Int32)))) (7 : Int32).toNatClampNeg ((250 : Int32) * ((7 : Int32) - (7 : Int32) / (5 : Int32) * (5 : Int32)))) (8 : Int32).toNatClampNeg ((250 : Int32) * ((8 : Int32) - (8 : Int32) / (5 : Int32) * (5 : Int32)))) (9 : Int32).toNatClampNeg ((250 : Int32) * ((9 : Int32) - (9 : Int32) / (5 : Int32) * (5 : Int32)))) (10 : Int32).toNatClampNeg ((250 : Int32) * ((10 : Int32) - (10 : Int32) / (5 : Int32) * (5 : Int32)))) (11 : Int32).toNatClampNeg ((250 : Int32) * ((11 : Int32) - (11 : Int32) / (5 : Int32) * (5 : Int32)))) (12 : Int32).toNatClampNeg ((250 : Int32) * ((12 : Int32) - (12 : Int32) / (5 : Int32) * (5 : Int32)))) (13 : Int32).toNatClampNeg ((250 : Int32) * ((13 : Int32) - (13 : Int32) / (5 : Int32) * (5 : Int32)))) (14 : Int32).toNatClampNeg ((250 : Int32) * ((14 : Int32) - (14 : Int32) / (5 : Int32) * (5 : Int32))))
def q_m0 : q_Mem := fun k => if k = 0 then (fun j => if j = 6 then 10 else 0) else if k = 3 then q_C0 else if k = 4 then q_C0 else if k = 5 then q_C0 else if k = 18 then q_C0 else if k = 19 then q_C0 else if k = 20 then q_C0 else if k = 72 then (fun j => if j = 13 then 10 else 0) else if k = 81 then q_CM else (fun _ => 0)
def q_ad0 (a : Nat) (v1 v2 v3 : Nat → Nat) (a4 : Nat) (r4 : Nat → Nat) (a5 : Nat) (r5 v6 : Nat → Nat) : Nat → Nat := fun k => if k < 1 then a else if k < 16 then v1 (k - 1) else if k < 31 then v2 (k - 16) else if k < 34 then v3 (k - 31) else if k < 35 then a4 else if k < 59 then r4 (k - 35) else if k < 60 then a5 else if k < 72 then r5 (k - 60) else v6 (k - 72)
theorem q_rowf (ad r : Nat → Nat) (n b c : Nat) (h : ∀ i, i < n → ad (b + i) = r (c + i)) : (fun i => if i < n then some (r (c + i)) else none) = (fun i => if i < n then some (ad (b + i)) else none) := by
  funext i
  by_cases hi : i < n
  · rw [if_pos hi, if_pos hi, h i hi]
  · rw [if_neg hi, if_neg hi]
theorem q_rowf0 (ad r : Nat → Nat) (n b : Nat) (h : ∀ i, i < n → ad (b + i) = r i) : (fun i => if i < n then some (r i) else none) = (fun i => if i < n then some (ad (b + i)) else none) := by
  funext i
  by_cases hi : i < n
  · rw [if_pos hi, if_pos hi, h i hi]
  · rw [if_neg hi, if_neg hi]
set_option maxRecDepth 100000 in
set_option maxHeartbeats 4000000 in
theorem q_world0 (E : q_E) (a : Nat) (v1 v2 v3 : Nat → Nat) (a4 : Nat) (r4 : Nat → Nat) (a5 : Nat) (r5 v6 : Nat → Nat) : q_l_top E a v1 v2 v3 a4 r4 a5 r5 ++ q_l_model E v6 = q_w (E.1, q_ad0 a v1 v2 v3 a4 r4 a5 r5 v6, E.2.1, E.2.2.1, q_A0 E) q_m0 := by
  rw [q_w_eq]
  unfold q_l_top q_l_wall q_l_rows q_l_old q_l_model
  generalize hA : q_ad0 a v1 v2 v3 a4 r4 a5 r5 v6 = ad
  rw [q_rowf ad v1 3 3 2 (fun i hi => by rw [← hA]; simp only [q_ad0]; rw [if_neg (by omega), if_pos (by omega)]; congr 1; omega)]
  rw [q_rowf ad v2 3 18 2 (fun i hi => by rw [← hA]; simp only [q_ad0]; rw [if_neg (by omega), if_neg (by omega), if_pos (by omega)]; congr 1; omega)]
  rw [q_rowf0 ad r4 24 35 (fun i hi => by rw [← hA]; simp only [q_ad0]; rw [if_neg (by omega), if_neg (by omega), if_neg (by omega), if_neg (by omega), if_neg (by omega), if_pos (by omega)]; congr 1; omega)]
  rw [q_rowf0 ad r5 12 60 (fun i hi => by rw [← hA]; simp only [q_ad0]; rw [if_neg (by omega), if_neg (by omega), if_neg (by omega), if_neg (by omega), if_neg (by omega), if_neg (by omega), if_neg (by omega), if_pos (by omega)]; congr 1; omega)]
  have g0 : a = ad 0 := by rw [← hA]; rfl
  have g1 : v1 0 = ad 1 := by rw [← hA]; rfl
  have g2 : v1 1 = ad 2 := by rw [← hA]; rfl
  have g3 : v1 2 = ad 3 := by rw [← hA]; rfl
  have g4 : v1 3 = ad 4 := by rw [← hA]; rfl
  have g5 : v1 4 = ad 5 := by rw [← hA]; rfl
  have g6 : v1 5 = ad 6 := by rw [← hA]; rfl
  have g7 : v1 6 = ad 7 := by rw [← hA]; rfl
  have g8 : v1 7 = ad 8 := by rw [← hA]; rfl
  have g9 : v1 8 = ad 9 := by rw [← hA]; rfl
  have g10 : v1 9 = ad 10 := by rw [← hA]; rfl
  have g11 : v1 10 = ad 11 := by rw [← hA]; rfl
  have g12 : v1 11 = ad 12 := by rw [← hA]; rfl
  have g13 : v1 12 = ad 13 := by rw [← hA]; rfl
  have g14 : v1 13 = ad 14 := by rw [← hA]; rfl
  have g15 : v1 14 = ad 15 := by rw [← hA]; rfl
  have g16 : v2 0 = ad 16 := by rw [← hA]; rfl
  have g17 : v2 1 = ad 17 := by rw [← hA]; rfl
  have g18 : v2 2 = ad 18 := by rw [← hA]; rfl
  have g19 : v2 3 = ad 19 := by rw [← hA]; rfl
  have g20 : v2 4 = ad 20 := by rw [← hA]; rfl
  have g21 : v2 5 = ad 21 := by rw [← hA]; rfl
  have g22 : v2 6 = ad 22 := by rw [← hA]; rfl
  have g23 : v2 7 = ad 23 := by rw [← hA]; rfl
  have g24 : v2 8 = ad 24 := by rw [← hA]; rfl
  have g25 : v2 9 = ad 25 := by rw [← hA]; rfl
  have g26 : v2 10 = ad 26 := by rw [← hA]; rfl
  have g27 : v2 11 = ad 27 := by rw [← hA]; rfl
  have g28 : v2 12 = ad 28 := by rw [← hA]; rfl
  have g29 : v2 13 = ad 29 := by rw [← hA]; rfl
  have g30 : v2 14 = ad 30 := by rw [← hA]; rfl
  have g31 : v3 0 = ad 31 := by rw [← hA]; rfl
  have g32 : v3 1 = ad 32 := by rw [← hA]; rfl
  have g33 : v3 2 = ad 33 := by rw [← hA]; rfl
  have g34 : a4 = ad 34 := by rw [← hA]; rfl
  have g35 : r4 0 = ad 35 := by rw [← hA]; rfl
  have g36 : r4 1 = ad 36 := by rw [← hA]; rfl
  have g37 : r4 2 = ad 37 := by rw [← hA]; rfl
  have g38 : r4 3 = ad 38 := by rw [← hA]; rfl
  have g39 : r4 4 = ad 39 := by rw [← hA]; rfl
  have g40 : r4 5 = ad 40 := by rw [← hA]; rfl
  have g41 : r4 6 = ad 41 := by rw [← hA]; rfl
  have g42 : r4 7 = ad 42 := by rw [← hA]; rfl
  have g43 : r4 8 = ad 43 := by rw [← hA]; rfl
  have g44 : r4 9 = ad 44 := by rw [← hA]; rfl
  have g45 : r4 10 = ad 45 := by rw [← hA]; rfl
  have g46 : r4 11 = ad 46 := by rw [← hA]; rfl
  have g47 : r4 12 = ad 47 := by rw [← hA]; rfl
  have g48 : r4 13 = ad 48 := by rw [← hA]; rfl
  have g49 : r4 14 = ad 49 := by rw [← hA]; rfl
  have g50 : r4 15 = ad 50 := by rw [← hA]; rfl
  have g51 : r4 16 = ad 51 := by rw [← hA]; rfl
  have g52 : r4 17 = ad 52 := by rw [← hA]; rfl
  have g53 : r4 18 = ad 53 := by rw [← hA]; rfl
  have g54 : r4 19 = ad 54 := by rw [← hA]; rfl
  have g55 : r4 20 = ad 55 := by rw [← hA]; rfl
  have g56 : r4 21 = ad 56 := by rw [← hA]; rfl
  have g57 : r4 22 = ad 57 := by rw [← hA]; rfl
  have g58 : r4 23 = ad 58 := by rw [← hA]; rfl
  have g59 : a5 = ad 59 := by rw [← hA]; rfl
  have g60 : r5 0 = ad 60 := by rw [← hA]; rfl
  have g61 : r5 1 = ad 61 := by rw [← hA]; rfl
  have g62 : r5 2 = ad 62 := by rw [← hA]; rfl
  have g63 : r5 3 = ad 63 := by rw [← hA]; rfl
  have g64 : r5 4 = ad 64 := by rw [← hA]; rfl
  have g65 : r5 5 = ad 65 := by rw [← hA]; rfl
  have g66 : r5 6 = ad 66 := by rw [← hA]; rfl
  have g67 : r5 7 = ad 67 := by rw [← hA]; rfl
  have g68 : r5 8 = ad 68 := by rw [← hA]; rfl
  have g69 : r5 9 = ad 69 := by rw [← hA]; rfl
  have g70 : r5 10 = ad 70 := by rw [← hA]; rfl
  have g71 : r5 11 = ad 71 := by rw [← hA]; rfl
  have g72 : v6 0 = ad 72 := by rw [← hA]; rfl
  have g73 : v6 1 = ad 73 := by rw [← hA]; rfl
  have g74 : v6 2 = ad 74 := by rw [← hA]; rfl
  have g75 : v6 3 = ad 75 := by rw [← hA]; rfl
  have g76 : v6 4 = ad 76 := by rw [← hA]; rfl
  have g77 : v6 5 = ad 77 := by rw [← hA]; rfl
  have g78 : v6 6 = ad 78 := by rw [← hA]; rfl
  have g79 : v6 7 = ad 79 := by rw [← hA]; rfl
  have g80 : v6 8 = ad 80 := by rw [← hA]; rfl
  have g81 : v6 9 = ad 81 := by rw [← hA]; rfl
  have g82 : v6 10 = ad 82 := by rw [← hA]; rfl
  have g83 : v6 11 = ad 83 := by rw [← hA]; rfl
  have g84 : v6 12 = ad 84 := by rw [← hA]; rfl
  have g85 : v6 13 = ad 85 := by rw [← hA]; rfl
  have g86 : v6 14 = ad 86 := by rw [← hA]; rfl
  have g87 : v6 15 = ad 87 := by rw [← hA]; rfl
  have g88 : v6 16 = ad 88 := by rw [← hA]; rfl
  have g89 : v6 17 = ad 89 := by rw [← hA]; rfl
  have g90 : v6 18 = ad 90 := by rw [← hA]; rfl
  have g91 : v6 19 = ad 91 := by rw [← hA]; rfl
  have g92 : v6 20 = ad 92 := by rw [← hA]; rfl
  simp only [show List.range 24 = [0, 1, 2, 3, 4, 5, 6, 7, 8, 9, 10, 11, 12, 13, 14, 15, 16, 17, 18, 19, 20, 21, 22, 23] from rfl, show List.range 12 = [0, 1, 2, 3, 4, 5, 6, 7, 8, 9, 10, 11] from rfl, List.map_cons, List.map_nil]
  rw [g0, g1, g2, g3, g4, g5, g6, g7, g8, g9, g10, g11, g12, g13, g14, g15, g16, g17, g18, g19, g20, g21, g22, g23, g24, g25, g26, g27, g28, g29, g30, g31, g32, g33, g34, g35, g36, g37, g38, g39, g40, g41, g42, g43, g44, g45, g46, g47, g48, g49, g50, g51, g52, g53, g54, g55, g56, g57, g58, g59, g60, g61, g62, g63, g64, g65, g66, g67, g68, g69, g70, g71, g72, g73, g74, g75, g76, g77, g78, g79, g80, g81, g82, g83, g84, g85, g86, g87, g88, g89, g90, g91, g92]
  rfl

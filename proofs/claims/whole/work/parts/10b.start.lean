theorem q_nf_in : ∀ q ∈ q_nf, Cond.fieldLinkNest q.1 q.2.1 q.2.2.1 q.2.2.2.1 q.2.2.2.2.1 q.2.2.2.2.2 ∈ lw_tbl := by decide +kernel
theorem q_nm_in : ∀ q ∈ q_nm, Cond.methodLinkNest q.1 q.2.1 q.2.2.1 q.2.2.2 ∈ lw_tbl := by decide +kernel

theorem q_lensz {args : Array Value} {s : State} {tm : Term} {t : Nat} {cell : Cell} {v : Value} (ht : tm.eval args s none [] s = some (.ref t)) (harr : s.arrayAt? t = some cell) (hv : (Term.length tm).eval args s none [] s = some v) : cell.slots.size < 2 ^ 31 := by
  simp only [Term.eval, ht, harr, Option.bind_eq_bind, Option.bind_some] at hv
  by_cases hlt : cell.slots.size < 2147483648
  · exact hlt
  · simp [hlt] at hv
/-- the static row of first corners, as the Statement gives it -/
theorem q_first {s : State} {args : Array Value} (hgv : (Jvm.Cond.and given_1 narrow_1).before args s = true) (hl : (Cond.laysStatic "WetWalls" "FIRST_CORNERS" "[I").before args s = true) (hini : (Cond.initialized "WetWalls").before args s = true) (A : Nat → Prop) (hA : ∀ a : Nat, a < s.heap.size → ¬ A a) :
    ∃ t : Nat, va_Z "WetWalls" "FIRST_CORNERS" "[I" (.ref t) A s s.heap ∧ va_X t 5 q_F0 s s.heap ∧ t < s.heap.size := by
  have hs := flat_of_before _ hgv
  have harr : (Cond.arrayOf (.static "WetWalls" "FIRST_CORNERS" "[I") .int).before args s = true := hs _ (by decide +kernel)
  have hlen := va_eqt (hs (Cond.eq (.length (.static "WetWalls" "FIRST_CORNERS" "[I")) (.int 5)) (by decide +kernel))
  have e0 := va_eqt (hs (Cond.eq (.elem (.static "WetWalls" "FIRST_CORNERS" "[I") (.int 0)) (.int 0)) (by decide +kernel))
  have e1 := va_eqt (hs (Cond.eq (.elem (.static "WetWalls" "FIRST_CORNERS" "[I") (.int 1)) (.int 250)) (by decide +kernel))
  have e2 := va_eqt (hs (Cond.eq (.elem (.static "WetWalls" "FIRST_CORNERS" "[I") (.int 2)) (.int 500)) (by decide +kernel))
  have e3 := va_eqt (hs (Cond.eq (.elem (.static "WetWalls" "FIRST_CORNERS" "[I") (.int 3)) (.int 750)) (by decide +kernel))
  have e4 := va_eqt (hs (Cond.eq (.elem (.static "WetWalls" "FIRST_CORNERS" "[I") (.int 4)) (.int 1000)) (by decide +kernel))
  obtain ⟨t, ht, cell, h1, h2, h3, h4, h5, h6, h7⟩ := va_Tof (A := A) (N := 5) (f := fun j => .int (q_F0 j)) (by decide) harr hlen (fun j hj => by
    rcases (show j = 0 ∨ j = 1 ∨ j = 2 ∨ j = 3 ∨ j = 4 by omega) with rfl | rfl | rfl | rfl | rfl
    · exact e0
    · exact e1
    · exact e2
    · exact e3
    · exact e4) hA
  have hsz : cell.slots.size < 2 ^ 31 := by
    obtain ⟨b, cell2, ht2, harr2, -⟩ := Term.length_spec hlen
    cases ht.symm.trans ht2
    obtain ⟨hc2, -, -, -⟩ := State.arrayAt?_spec harr2
    cases h1.symm.trans hc2
    exact q_lensz ht2 harr2 hlen
  have h5' : nI cell.slots.size = nI 5 := h5
  have hs5 : cell.slots.size = 5 := (nI_eq hsz (by decide)).mp h5'
  exact ⟨t, va_Zof hl hini ht hA, ⟨cell, h1, h2, h3, hs5, h6⟩, (Array.getElem?_eq_some_iff.mp h1).1⟩
/-- what the word of an array over rows leaves: the class of such arrays, by its name -/
theorem q_over {args : Array Value} {s : State} {t : FieldType} (h : (Cond.arrayOver (.array t)).before args s = true) : ∃ (comp c : ClassId) (k : Class), s.vm.classes[c]? = some k ∧ k.kind = .array comp (.array t) ∧ s.vm.findClass ("[" ++ (FieldType.array t).toString) = some c := by
  have h1 : (Cond.arrayOver (.array t)).value args s none s [] = some true := eq_of_beq h
  rw [Cond.value] at h1
  obtain ⟨w, -, h2⟩ := Option.bind_eq_some_iff.mp h1
  obtain ⟨c, -, h3⟩ := Option.bind_eq_some_iff.mp h2
  obtain ⟨k, hk, h4⟩ := Option.map_eq_some_iff.mp h3
  split at h4
  · next comp ty e =>
    rw [Bool.and_eq_true] at h4
    have e1 := of_decide_eq_true h4.1
    subst e1
    exact ⟨comp, c, k, hk, e, of_decide_eq_true h4.2⟩
  · cases h4
set_option maxRecDepth 100000 in
set_option maxHeartbeats 4000000 in
theorem whole_of {p : Program} {e : Env} {s : State} {m : MethodId} {below : List Frame} {meth : Method} {c : Code} (l : Launch) {b L : Nat} {xs : Nat → Int32} (hpure : wp_L_law_18 b L xs (0 : Int32) q_m0 (fun v _ => v = 1)) (C0 : lw_At p s m meth c b L xs) : W p l e room_1 s m #[Value.ref b] below meth c s.heap [] 0 0 (lw_Z below #[Value.ref b] s) (entryFrame m ([Value.ref b] : List Value).toArray 4) := by
  obtain ⟨hx, hb, hr, hml, hown, hts, hX, hbl, hlocks, hgv⟩ := id C0
  obtain ⟨c0, iS0, hKn0⟩ := u_known (C := RX0) (T := TX0) (N := 2) (n := 2) hts (fun w h => q_Tlw w (q_inX0 w h)) (hts (.instantiable RX0 2) (q_Tlw _ tw_133))
  obtain ⟨c1, iS1, hKn1⟩ := u_known (C := RX1) (T := TX1) (N := 12) (n := 12) hts (fun w h => q_Tlw w (q_inX1 w h)) (hts (.instantiable RX1 12) (q_Tlw _ tw_74))
  obtain ⟨c2, iS2, hKn2⟩ := u_known (C := RX2) (T := TX2) (N := 10) (n := 10) hts (fun w h => q_Tlw w (q_inX2 w h)) (hts (.instantiable RX2 10) (q_Tlw _ tw_66))
  obtain ⟨c3, iS3, hKn3⟩ := u_known (C := RX3) (T := TX3) (N := 26) (n := 26) hts (fun w h => q_Tlw w (q_inX3 w h)) (hts (.instantiable RX3 26) (q_Tlw _ tw_479))
  obtain ⟨dC, dI, hKc⟩ : ∃ (dC : Nat → ClassId) (dI : Nat → Nat → Nat), ∀ (k : Nat) (q : vw_C), vwCl[k]? = some q → u_Kn s q.1 q.2.1 q.2.2 (dC k) (dI k) := by
    refine ⟨fun k => if k = 0 then c0 else if k = 1 then c1 else if k = 2 then c2 else c3, fun k => if k = 0 then iS0 else if k = 1 then iS1 else if k = 2 then iS2 else iS3, ?_⟩
    intro k q hq
    match k, hq with
    | 0, hq => cases hq; exact hKn0
    | 1, hq => cases hq; exact hKn1
    | 2, hq => cases hq; exact hKn2
    | 3, hq => cases hq; exact hKn3
    | k + 4, hq => simp at hq
  -- the classes of the rows
  have harrI := hts (.arrayClass .int) (q_Tlw _ tw_131)
  obtain ⟨cI, kI, compI, fI1, fI2, fI3⟩ := Cond.arrayClass_spec harrI
  have hover : (Cond.arrayOver (.array .int)).before #[Value.ref b] s = true := hts (.arrayOver (.array .int)) (List.mem_of_getElem? (i := 80) (by decide +kernel))
  obtain ⟨comp, cA, kA, fA2, fA3, fA4⟩ := q_over hover
  obtain ⟨t0, hZ, hX0, ht0⟩ := q_first hgv (hts (.laysStatic "WetWalls" "FIRST_CORNERS" "[I") (List.mem_of_getElem? (i := 82) (by decide +kernel))) (hts (.initialized "WetWalls") (q_Tlw _ tw_59)) (fun q => s.heap.size ≤ q) (fun a h => Nat.not_le.mpr h)
  have hK : va_K (dC, dI) vwCl [(cI, .int), (cA, .array .int)] s := ⟨hKc, fun k q h => by
    match k, h with
    | 0, h =>
      cases h
      exact ⟨fun n z => ⟨fun _ h => (by cases h), kI, fI2, compI, fI3⟩, fI1⟩
    | 1, h =>
      cases h
      exact ⟨fun n z => ⟨fun _ h => (by cases h), kA, fA2, comp, fA3⟩, fA4⟩
    | k + 2, h => simp at h⟩
  have hN : q_Nst s := ⟨fun q hq => va_Nw.of rfl (hts _ (q_nf_in q hq)), fun q hq => va_Nw.of rfl (hts _ (q_nm_in q hq))⟩
  have hT : q_T0 ((dC, dI), cI, cA, s.heap.size, t0) s := ⟨hK, hN, hover⟩
  have hH : q_H0 ((dC, dI), cI, cA, s.heap.size, t0) s s.heap := ⟨hZ, hX0, ht0, Nat.le_refl _⟩
  have hz : s.heap.size ≤ s.heap.size := Nat.le_refl _
  have hC : ∀ (k n : Nat), k ≤ 600000 → n ≤ 7302250 → q_C (p, l, e, room_1, s, m, #[Value.ref b], below, meth, c, k, n) cL_law 4 RL ret 9 340 := fun k n hk hn => ⟨⟨hx, hb, hml, hown, fun w hw => hts w (q_Tlw w hw)⟩, hr, hlocks, Nat.le_of_ble_eq_true rfl, Nat.le_of_ble_eq_true rfl, hk, hn⟩
  have hX1 := hC 0 0 (Nat.zero_le _) (Nat.zero_le _)
  have hl := lv_entry ([.ref b]) (n := 4) (Nat.le_of_ble_eq_true rfl)
  rw [lg_entry_eq]
  generalize (lg_sl ([.ref b]) ++ List.replicate (4 - (lg_sl ([.ref b])).length) Slot.unset).toArray = ls at hl ⊢
  have hlv : q_L ls 4 [some (.ref b), none, none, none] := q_entry 3 hl
  have key : q_N (p, l, e, room_1, s, m, #[Value.ref b], below, meth, c, 0, 0) ((dC, dI), cI, cA, s.heap.size, t0) 4 (lw_Z below #[Value.ref b] s) 0 0 0 [some (.ref b), none, none, none] [] [] := by
    refine n_new hX1 hT hz (ci := 2) (C := RX2) (T := TX2) (N := 10) rfl q_inX2 tyX2 tyX2_ok tw_65 tw_66 tw_59 [.null, .null, .null, .null, .int 0, .int 0, .int 0, .null, .int 0, .int 0] (fun j hj => by rcases (show j = 0 ∨ j = 1 ∨ j = 2 ∨ j = 3 ∨ j = 4 ∨ j = 5 ∨ j = 6 ∨ j = 7 ∨ j = 8 ∨ j = 9 by omega) with rfl | rfl | rfl | rfl | rfl | rfl | rfl | rfl | rfl | rfl <;> rfl) (Nat.le_of_ble_eq_true rfl) (Nat.le_of_ble_eq_true rfl) dL_law_0 3 rfl 1 10 rfl rfl (fun a => ?_)
    refine n_dup hX1 rfl dL_law_3 4 rfl ?_
    refine n_callI hX1 hT hH tw_67 tw_68 tw_59 tw_69 rfl hd_X2_init ⟨Nat.le_of_ble_eq_true rfl, Nat.le_of_ble_eq_true rfl⟩ (Nat.le_of_ble_eq_true rfl) (Nat.le_of_ble_eq_true rfl) (Nat.le_of_ble_eq_true rfl) dL_law_4 7 rfl 72 464 rfl rfl (sn_X2_init _ a _ (fun z => ∃ (v1 v2 v3 : Nat → Nat) (a4 : Nat) (r4 : Nat → Nat) (a5 : Nat) (r5 : Nat → Nat), z = q_l_top _ a v1 v2 v3 a4 r4 a5 r5) (fun v1 v2 v3 a4 r4 a5 r5 => ⟨v1, v2, v3, a4, r4, a5, r5, rfl⟩)) (fun z hz1 => ?_)
    obtain ⟨v1, v2, v3, a4, r4, a5, r5, rfl⟩ := hz1
    refine n_astore_n hX1 dL_law_7 8 rfl (by decide) rfl [some (.ref b), some (.ref a), none, none] rfl ?_
    refine n_new hX1 hT hz (ci := 3) (C := RX3) (T := TX3) (N := 26) rfl q_inX3 tyX3 tyX3_ok tw_478 tw_479 tw_63 [.int 0, .null, .null, .null, .null, .null, .null, .null, .null, .null, .null, .int 0, .int 0, .int 0, .null, .null, .null, .null, .null, .int 0, .null, .null, .null, .null, .int 0, .null] (fun j hj => by rcases (show j = 0 ∨ j = 1 ∨ j = 2 ∨ j = 3 ∨ j = 4 ∨ j = 5 ∨ j = 6 ∨ j = 7 ∨ j = 8 ∨ j = 9 ∨ j = 10 ∨ j = 11 ∨ j = 12 ∨ j = 13 ∨ j = 14 ∨ j = 15 ∨ j = 16 ∨ j = 17 ∨ j = 18 ∨ j = 19 ∨ j = 20 ∨ j = 21 ∨ j = 22 ∨ j = 23 ∨ j = 24 ∨ j = 25 by omega) with rfl | rfl | rfl | rfl | rfl | rfl | rfl | rfl | rfl | rfl | rfl | rfl | rfl | rfl | rfl | rfl | rfl | rfl | rfl | rfl | rfl | rfl | rfl | rfl | rfl | rfl <;> rfl) (Nat.le_of_ble_eq_true rfl) (Nat.le_of_ble_eq_true rfl) dL_law_8 11 rfl 73 490 rfl rfl (fun a6 => ?_)
    refine n_dup hX1 rfl dL_law_11 12 rfl ?_
    refine n_callI hX1 hT hH tw_480 tw_481 tw_63 tw_482 rfl hd_X3_init ⟨Nat.le_of_ble_eq_true rfl, Nat.le_of_ble_eq_true rfl⟩ (Nat.le_of_ble_eq_true rfl) (Nat.le_of_ble_eq_true rfl) (Nat.le_of_ble_eq_true rfl) dL_law_12 15 rfl 93 797 rfl rfl (sn_X3_init _ a6 _ (fun z => ∃ v6 : Nat → Nat, v6 0 = a6 ∧ z = q_l_model _ v6) (fun v6 hv => ⟨v6, hv, rfl⟩)) (fun z hz1 => ?_)
    obtain ⟨v6, hv6, rfl⟩ := hz1
    refine n_astore_n hX1 dL_law_15 16 rfl (by decide) rfl [some (.ref b), some (.ref a), some (.ref a6), none] rfl ?_
    refine n_iconst hX1 (0 : Int32) (by decide) dL_law_16 17 rfl ?_
    refine n_istore_n hX1 dL_law_17 18 rfl (by decide) rfl [some (.ref b), some (.ref a), some (.ref a6), some (.int (0 : Int32))] rfl ?_
    rw [List.nil_append, q_world0]
    intro H locs ls hP hD hS hL
    have hJ := sn_L_law_18 (X := (p, l, e, room_1, s, m, #[Value.ref b], below, meth, c, 93, 797)) (G := ((dC, dI), q_ad0 a v1 v2 v3 a4 r4 a5 r5 v6, cI, cA, q_A0 ((dC, dI), cI, cA, s.heap.size, t0))) (QQ := lw_Z below #[Value.ref b] s) (hC 93 797 (by decide) (by decide)) (fun v _ => v = 1) b L xs hX hbl (Nat.not_le.mpr hbl) (fun v pc lv mem hd hv => by
      subst hv
      intro H locs ls hW hS hL
      refine va_forget (fun q hq => hS.2.2 q hq) ?_
      exact W.widen (k := 600000) (n := 7302250) (show 93 ≤ 600000 by decide) (show 797 ≤ 7302250 by decide) (lw_ret hx hb hr hlocks hd)) (0 : Int32) q_m0 hpure
    exact hJ H locs ls ⟨hP, hK, hD, hN⟩ hS (by rw [← hv6] at hL; exact hL)
  exact key s.heap [] ls (fun k q h => by simp at h) ⟨fun i j p q h => by simp at h, fun k q h => by simp at h⟩ va_S.rf hlv

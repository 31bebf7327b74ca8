section QS
variable {X : q_X} {G : q_G} {nL : Nat} {QQ : State → Prop} {pc : Nat} {lv : List (Option Value)} {st : List Value} {mem : q_Mem} {cc : ByteArray} {own : String} {ret : Option FieldType} {F Lo : Nat}
theorem q_sld (hX : q_C X cc nL own ret F Lo) {bs Ln : Nat} {xs : Nat → Int32} (hscr : va_X bs Ln xs (q_s X) (q_s X).heap) (hbl : bs < (q_s X).heap.size) (hbA : ¬ (q_A G) bs) {i : Int32} (hin : vp_in i Ln) (d : decode cc pc = .ok (.iaload, 1)) (pc' : Nat) (ep : pc + 1 = pc') (k : q_J X G nL QQ pc' lv (.int (xs i.toNatClampNeg) :: st) mem) : q_J X G nL QQ pc lv (.int i :: .ref bs :: st) mem := by
  subst ep
  exact fun H locs ls hW hS hL => va_sld hX.1.1 hX.1.2.1 hscr hbl hbA hS hin d (k H locs ls hW hS hL)
theorem q_slen (hX : q_C X cc nL own ret F Lo) {bs Ln : Nat} {xs : Nat → Int32} (hscr : va_X bs Ln xs (q_s X) (q_s X).heap) (hbl : bs < (q_s X).heap.size) (hbA : ¬ (q_A G) bs) (d : decode cc pc = .ok (.arraylength, 1)) (pc' : Nat) (ep : pc + 1 = pc') (k : q_J X G nL QQ pc' lv (.int (Int32.ofNat Ln) :: st) mem) : q_J X G nL QQ pc lv (.ref bs :: st) mem := by
  subst ep
  exact fun H locs ls hW hS hL => va_slen hX.1.1 hX.1.2.1 hscr hbl hbA hS d (k H locs ls hW hS hL)
end QS
def wp_L_law_773 (K18 : Int32 → q_Mem → Prop) (bs : Nat) (Ln : Nat) (xs : Nat → Int32) (x3 : Int32) (mem : q_Mem) (Q : Int32 → q_Mem → Prop) : Prop := ∀ x3_1 : Int32, x3_1 = (x3 + (6 : Int32)) → K18 x3_1 mem
def wp_L_law_18_b (K18 : Int32 → q_Mem → Prop) (bs : Nat) (Ln : Nat) (xs : Nat → Int32) (x3 : Int32) (mem : q_Mem) (Q : Int32 → q_Mem → Prop) : Prop := ((((Int32.ofNat Ln) - (6 : Int32)) < x3) → Q (1 : Int32) mem) ∧ ((¬ ((Int32.ofNat Ln) - (6 : Int32)) < x3) → vp_in x3 Ln ∧ (((xs x3.toNatClampNeg) &&& (31 : Int32) = (0 : Int32) → vp_in (x3 + (1 : Int32)) Ln ∧ (vp_in (x3 + (2 : Int32)) Ln ∧ (vp_in (x3 + (3 : Int32)) Ln ∧ (vp_in (x3 + (4 : Int32)) Ln ∧ (wp_X2_layer (xs (x3 + (1 : Int32)).toNatClampNeg) (xs (x3 + (2 : Int32)).toNatClampNeg) (xs (x3 + (3 : Int32)).toNatClampNeg) (xs (x3 + (4 : Int32)).toNatClampNeg) mem (fun r_8 m_9 => vp_in (x3 + (1 : Int32)) Ln ∧ (vp_in (x3 + (2 : Int32)) Ln ∧ (vp_in (x3 + (3 : Int32)) Ln ∧ (vp_in (x3 + (4 : Int32)) Ln ∧ (wp_X3_layer (xs (x3 + (1 : Int32)).toNatClampNeg) (xs (x3 + (2 : Int32)).toNatClampNeg) (xs (x3 + (3 : Int32)).toNatClampNeg) (xs (x3 + (4 : Int32)).toNatClampNeg) m_9 (fun r_14 m_15 => ((r_8 = r_14) → wp_L_law_773 K18 bs Ln xs x3 m_15 Q) ∧ ((¬ r_8 = r_14) → Q (0 : Int32) m_15)))))))))))) ∧ (¬ (xs x3.toNatClampNeg) &&& (31 : Int32) = (0 : Int32) → ((xs x3.toNatClampNeg) &&& (31 : Int32) = (1 : Int32) → wp_X2_clear  mem (fun r_18 m_19 => wp_X3_clear  m_19 (fun r_20 m_21 => ((r_18 = r_20) → wp_L_law_773 K18 bs Ln xs x3 m_21 Q) ∧ ((¬ r_18 = r_20) → Q (0 : Int32) m_21)))) ∧ (¬ (xs x3.toNatClampNeg) &&& (31 : Int32) = (1 : Int32) → ((xs x3.toNatClampNeg) &&& (31 : Int32) = (2 : Int32) → vp_in (x3 + (1 : Int32)) Ln ∧ (vp_in (x3 + (2 : Int32)) Ln ∧ (vp_in (x3 + (3 : Int32)) Ln ∧ (wp_X2_corner (xs (x3 + (1 : Int32)).toNatClampNeg) (xs (x3 + (2 : Int32)).toNatClampNeg) (xs (x3 + (3 : Int32)).toNatClampNeg) mem (fun r_27 m_28 => vp_in (x3 + (1 : Int32)) Ln ∧ (vp_in (x3 + (2 : Int32)) Ln ∧ (vp_in (x3 + (3 : Int32)) Ln ∧ (wp_X3_corner (xs (x3 + (1 : Int32)).toNatClampNeg) (xs (x3 + (2 : Int32)).toNatClampNeg) (xs (x3 + (3 : Int32)).toNatClampNeg) m_28 (fun r_32 m_33 => ((r_27 = r_32) → wp_L_law_773 K18 bs Ln xs x3 m_33 Q) ∧ ((¬ r_27 = r_32) → Q (0 : Int32) m_33)))))))))) ∧ (¬ (xs x3.toNatClampNeg) &&& (31 : Int32) = (2 : Int32) → ((xs x3.toNatClampNeg) &&& (31 : Int32) = (3 : Int32) → vp_in (x3 + (1 : Int32)) Ln ∧ (vp_in (x3 + (2 : Int32)) Ln ∧ (wp_X2_water (xs (x3 + (1 : Int32)).toNatClampNeg) (xs (x3 + (2 : Int32)).toNatClampNeg) mem (fun r_38 m_39 => vp_in (x3 + (1 : Int32)) Ln ∧ (vp_in (x3 + (2 : Int32)) Ln ∧ (wp_X3_water (xs (x3 + (1 : Int32)).toNatClampNeg) (xs (x3 + (2 : Int32)).toNatClampNeg) m_39 (fun r_42 m_43 => ((r_38 = r_42) → wp_L_law_773 K18 bs Ln xs x3 m_43 Q) ∧ ((¬ r_38 = r_42) → Q (0 : Int32) m_43)))))))) ∧ (¬ (xs x3.toNatClampNeg) &&& (31 : Int32) = (3 : Int32) → ((xs x3.toNatClampNeg) &&& (31 : Int32) = (4 : Int32) → vp_in (x3 + (1 : Int32)) Ln ∧ (vp_in (x3 + (2 : Int32)) Ln ∧ (wp_X2_about (xs (x3 + (1 : Int32)).toNatClampNeg) (xs (x3 + (2 : Int32)).toNatClampNeg) mem (fun r_48 m_49 => vp_in (x3 + (1 : Int32)) Ln ∧ (vp_in (x3 + (2 : Int32)) Ln ∧ (wp_X3_about (xs (x3 + (1 : Int32)).toNatClampNeg) (xs (x3 + (2 : Int32)).toNatClampNeg) m_49 (fun r_52 m_53 => ((r_48 = r_52) → wp_L_law_773 K18 bs Ln xs x3 m_53 Q) ∧ ((¬ r_48 = r_52) → Q (0 : Int32) m_53)))))))) ∧ (¬ (xs x3.toNatClampNeg) &&& (31 : Int32) = (4 : Int32) → ((xs x3.toNatClampNeg) &&& (31 : Int32) = (5 : Int32) → vp_in (x3 + (1 : Int32)) Ln ∧ (vp_in (x3 + (2 : Int32)) Ln ∧ (vp_in (x3 + (3 : Int32)) Ln ∧ (vp_in (x3 + (4 : Int32)) Ln ∧ (vp_in (x3 + (5 : Int32)) Ln ∧ (wp_X2_hour (xs (x3 + (1 : Int32)).toNatClampNeg) (xs (x3 + (2 : Int32)).toNatClampNeg) (xs (x3 + (3 : Int32)).toNatClampNeg) (xs (x3 + (4 : Int32)).toNatClampNeg) (xs (x3 + (5 : Int32)).toNatClampNeg) mem (fun r_61 m_62 => vp_in (x3 + (1 : Int32)) Ln ∧ (vp_in (x3 + (2 : Int32)) Ln ∧ (vp_in (x3 + (3 : Int32)) Ln ∧ (vp_in (x3 + (4 : Int32)) Ln ∧ (vp_in (x3 + (5 : Int32)) Ln ∧ (wp_X3_hour (xs (x3 + (1 : Int32)).toNatClampNeg) (xs (x3 + (2 : Int32)).toNatClampNeg) (xs (x3 + (3 : Int32)).toNatClampNeg) (xs (x3 + (4 : Int32)).toNatClampNeg) (xs (x3 + (5 : Int32)).toNatClampNeg) m_62 (fun r_68 m_69 => ((r_61 = r_68) → wp_L_law_773 K18 bs Ln xs x3 m_69 Q) ∧ ((¬ r_61 = r_68) → Q (0 : Int32) m_69)))))))))))))) ∧ (¬ (xs x3.toNatClampNeg) &&& (31 : Int32) = (5 : Int32) → ((xs x3.toNatClampNeg) &&& (31 : Int32) = (6 : Int32) → wp_X2_fair  mem (fun r_72 m_73 => wp_X3_fair  m_73 (fun r_74 m_75 => ((r_72 = r_74) → wp_L_law_773 K18 bs Ln xs x3 m_75 Q) ∧ ((¬ r_72 = r_74) → Q (0 : Int32) m_75)))) ∧ (¬ (xs x3.toNatClampNeg) &&& (31 : Int32) = (6 : Int32) → ((xs x3.toNatClampNeg) &&& (31 : Int32) = (7 : Int32) → vp_in (x3 + (1 : Int32)) Ln ∧ (wp_X2_share (xs (x3 + (1 : Int32)).toNatClampNeg) mem (fun r_79 m_80 => vp_in (x3 + (1 : Int32)) Ln ∧ (wp_X3_share (xs (x3 + (1 : Int32)).toNatClampNeg) m_80 (fun r_82 m_83 => ((r_79 = r_82) → wp_L_law_773 K18 bs Ln xs x3 m_83 Q) ∧ ((¬ r_79 = r_82) → Q (0 : Int32) m_83)))))) ∧ (¬ (xs x3.toNatClampNeg) &&& (31 : Int32) = (7 : Int32) → ((xs x3.toNatClampNeg) &&& (31 : Int32) = (8 : Int32) → vp_in (x3 + (1 : Int32)) Ln ∧ (wp_X2_pass (xs (x3 + (1 : Int32)).toNatClampNeg) mem (fun r_87 m_88 => vp_in (x3 + (1 : Int32)) Ln ∧ (wp_X3_pass (xs (x3 + (1 : Int32)).toNatClampNeg) m_88 (fun r_90 m_91 => ((r_87 = r_90) → wp_L_law_773 K18 bs Ln xs x3 m_91 Q) ∧ ((¬ r_87 = r_90) → Q (0 : Int32) m_91)))))) ∧ (¬ (xs x3.toNatClampNeg) &&& (31 : Int32) = (8 : Int32) → ((xs x3.toNatClampNeg) &&& (31 : Int32) = (9 : Int32) → vp_in (x3 + (1 : Int32)) Ln ∧ (wp_X2_steady (xs (x3 + (1 : Int32)).toNatClampNeg) mem (fun r_95 m_96 => vp_in (x3 + (1 : Int32)) Ln ∧ (wp_X3_steady (xs (x3 + (1 : Int32)).toNatClampNeg) m_96 (fun r_98 m_99 => ((r_95 = r_98) → wp_L_law_773 K18 bs Ln xs x3 m_99 Q) ∧ ((¬ r_95 = r_98) → Q (0 : Int32) m_99)))))) ∧ (¬ (xs x3.toNatClampNeg) &&& (31 : Int32) = (9 : Int32) → ((xs x3.toNatClampNeg) &&& (31 : Int32) = (10 : Int32) → vp_in (x3 + (1 : Int32)) Ln ∧ (wp_X2_sum (xs (x3 + (1 : Int32)).toNatClampNeg) mem (fun r_103 m_104 => vp_in (x3 + (1 : Int32)) Ln ∧ (wp_X3_sum (xs (x3 + (1 : Int32)).toNatClampNeg) m_104 (fun r_106 m_107 => ((r_103 = r_106) → wp_L_law_773 K18 bs Ln xs x3 m_107 Q) ∧ ((¬ r_103 = r_106) → Q (0 : Int32) m_107)))))) ∧ (¬ (xs x3.toNatClampNeg) &&& (31 : Int32) = (10 : Int32) → ((xs x3.toNatClampNeg) &&& (31 : Int32) = (11 : Int32) → vp_in (x3 + (1 : Int32)) Ln ∧ (vp_in (x3 + (2 : Int32)) Ln ∧ (wp_X2_pressure (xs (x3 + (1 : Int32)).toNatClampNeg) (xs (x3 + (2 : Int32)).toNatClampNeg) mem (fun r_112 m_113 => vp_in (x3 + (1 : Int32)) Ln ∧ (vp_in (x3 + (2 : Int32)) Ln ∧ (wp_X3_pressure (xs (x3 + (1 : Int32)).toNatClampNeg) (xs (x3 + (2 : Int32)).toNatClampNeg) m_113 (fun r_116 m_117 => ((r_112 = r_116) → wp_L_law_773 K18 bs Ln xs x3 m_117 Q) ∧ ((¬ r_112 = r_116) → Q (0 : Int32) m_117)))))))) ∧ (¬ (xs x3.toNatClampNeg) &&& (31 : Int32) = (11 : Int32) → ((xs x3.toNatClampNeg) &&& (31 : Int32) = (12 : Int32) → vp_in (x3 + (1 : Int32)) Ln ∧ (vp_in (x3 + (2 : Int32)) Ln ∧ (wp_X2_warmth (xs (x3 + (1 : Int32)).toNatClampNeg) (xs (x3 + (2 : Int32)).toNatClampNeg) mem (fun r_122 m_123 => vp_in (x3 + (1 : Int32)) Ln ∧ (vp_in (x3 + (2 : Int32)) Ln ∧ (wp_X3_warmth (xs (x3 + (1 : Int32)).toNatClampNeg) (xs (x3 + (2 : Int32)).toNatClampNeg) m_123 (fun r_126 m_127 => ((r_122 = r_126) → wp_L_law_773 K18 bs Ln xs x3 m_127 Q) ∧ ((¬ r_122 = r_126) → Q (0 : Int32) m_127)))))))) ∧ (¬ (xs x3.toNatClampNeg) &&& (31 : Int32) = (12 : Int32) → ((xs x3.toNatClampNeg) &&& (31 : Int32) = (13 : Int32) → vp_in (x3 + (1 : Int32)) Ln ∧ (vp_in (x3 + (2 : Int32)) Ln ∧ (wp_X2_excess (xs (x3 + (1 : Int32)).toNatClampNeg) (xs (x3 + (2 : Int32)).toNatClampNeg) mem (fun r_132 m_133 => vp_in (x3 + (1 : Int32)) Ln ∧ (vp_in (x3 + (2 : Int32)) Ln ∧ (wp_X3_excess (xs (x3 + (1 : Int32)).toNatClampNeg) (xs (x3 + (2 : Int32)).toNatClampNeg) m_133 (fun r_136 m_137 => ((r_132 = r_136) → wp_L_law_773 K18 bs Ln xs x3 m_137 Q) ∧ ((¬ r_132 = r_136) → Q (0 : Int32) m_137)))))))) ∧ (¬ (xs x3.toNatClampNeg) &&& (31 : Int32) = (13 : Int32) → ((xs x3.toNatClampNeg) &&& (31 : Int32) = (14 : Int32) → vp_in (x3 + (1 : Int32)) Ln ∧ (wp_X2_best (xs (x3 + (1 : Int32)).toNatClampNeg) mem (fun r_141 m_142 => vp_in (x3 + (1 : Int32)) Ln ∧ (wp_X3_best (xs (x3 + (1 : Int32)).toNatClampNeg) m_142 (fun r_144 m_145 => ((r_141 = r_144) → wp_L_law_773 K18 bs Ln xs x3 m_145 Q) ∧ ((¬ r_141 = r_144) → Q (0 : Int32) m_145)))))) ∧ (¬ (xs x3.toNatClampNeg) &&& (31 : Int32) = (14 : Int32) → ((xs x3.toNatClampNeg) &&& (31 : Int32) = (15 : Int32) → vp_in (x3 + (1 : Int32)) Ln ∧ (vp_in (x3 + (2 : Int32)) Ln ∧ (wp_X2_placed (xs (x3 + (1 : Int32)).toNatClampNeg) (xs (x3 + (2 : Int32)).toNatClampNeg) mem (fun r_150 m_151 => vp_in (x3 + (1 : Int32)) Ln ∧ (vp_in (x3 + (2 : Int32)) Ln ∧ (wp_X3_placed (xs (x3 + (1 : Int32)).toNatClampNeg) (xs (x3 + (2 : Int32)).toNatClampNeg) m_151 (fun r_154 m_155 => ((r_150 = r_154) → wp_L_law_773 K18 bs Ln xs x3 m_155 Q) ∧ ((¬ r_150 = r_154) → Q (0 : Int32) m_155)))))))) ∧ (¬ (xs x3.toNatClampNeg) &&& (31 : Int32) = (15 : Int32) → ((xs x3.toNatClampNeg) &&& (31 : Int32) = (16 : Int32) → vp_in (x3 + (1 : Int32)) Ln ∧ (wp_X2_arrange (xs (x3 + (1 : Int32)).toNatClampNeg) mem (fun r_159 m_160 => vp_in (x3 + (1 : Int32)) Ln ∧ (wp_X3_arrange (xs (x3 + (1 : Int32)).toNatClampNeg) m_160 (fun r_162 m_163 => ((r_159 = r_162) → wp_L_law_773 K18 bs Ln xs x3 m_163 Q) ∧ ((¬ r_159 = r_162) → Q (0 : Int32) m_163)))))) ∧ (¬ (xs x3.toNatClampNeg) &&& (31 : Int32) = (16 : Int32) → ((xs x3.toNatClampNeg) &&& (31 : Int32) = (17 : Int32) → vp_in (x3 + (1 : Int32)) Ln ∧ (vp_in (x3 + (2 : Int32)) Ln ∧ (vp_in (x3 + (3 : Int32)) Ln ∧ (vp_in (x3 + (4 : Int32)) Ln ∧ (wp_X2_read (xs (x3 + (1 : Int32)).toNatClampNeg) (xs (x3 + (2 : Int32)).toNatClampNeg) (xs (x3 + (3 : Int32)).toNatClampNeg) (xs (x3 + (4 : Int32)).toNatClampNeg) mem (fun r_170 m_171 => vp_in (x3 + (1 : Int32)) Ln ∧ (vp_in (x3 + (2 : Int32)) Ln ∧ (vp_in (x3 + (3 : Int32)) Ln ∧ (vp_in (x3 + (4 : Int32)) Ln ∧ (wp_X3_read (xs (x3 + (1 : Int32)).toNatClampNeg) (xs (x3 + (2 : Int32)).toNatClampNeg) (xs (x3 + (3 : Int32)).toNatClampNeg) (xs (x3 + (4 : Int32)).toNatClampNeg) m_171 (fun r_176 m_177 => ((r_170 = r_176) → wp_L_law_773 K18 bs Ln xs x3 m_177 Q) ∧ ((¬ r_170 = r_176) → Q (0 : Int32) m_177)))))))))))) ∧ (¬ (xs x3.toNatClampNeg) &&& (31 : Int32) = (17 : Int32) → ((xs x3.toNatClampNeg) &&& (31 : Int32) = (18 : Int32) → wp_X2_forget  mem (fun r_180 m_181 => wp_X3_forget  m_181 (fun r_182 m_183 => ((r_180 = r_182) → wp_L_law_773 K18 bs Ln xs x3 m_183 Q) ∧ ((¬ r_180 = r_182) → Q (0 : Int32) m_183)))) ∧ (¬ (xs x3.toNatClampNeg) &&& (31 : Int32) = (18 : Int32) → ((xs x3.toNatClampNeg) &&& (31 : Int32) = (19 : Int32) → wp_X2_fits  mem (fun r_186 m_187 => wp_X3_fits  m_187 (fun r_188 m_189 => ((r_186 = r_188) → wp_L_law_773 K18 bs Ln xs x3 m_189 Q) ∧ ((¬ r_186 = r_188) → Q (0 : Int32) m_189)))) ∧ (¬ (xs x3.toNatClampNeg) &&& (31 : Int32) = (19 : Int32) → ((xs x3.toNatClampNeg) &&& (31 : Int32) = (20 : Int32) → vp_in (x3 + (1 : Int32)) Ln ∧ (wp_X2_count (xs (x3 + (1 : Int32)).toNatClampNeg) mem (fun r_193 m_194 => vp_in (x3 + (1 : Int32)) Ln ∧ (wp_X3_count (xs (x3 + (1 : Int32)).toNatClampNeg) m_194 (fun r_196 m_197 => ((r_193 = r_196) → wp_L_law_773 K18 bs Ln xs x3 m_197 Q) ∧ ((¬ r_193 = r_196) → Q (0 : Int32) m_197)))))) ∧ (¬ (xs x3.toNatClampNeg) &&& (31 : Int32) = (20 : Int32) → ((xs x3.toNatClampNeg) &&& (31 : Int32) = (21 : Int32) → wp_X2_digest  mem (fun r_200 m_201 => wp_X3_digest  m_201 (fun r_202 m_203 => (((lg_cmp r_200 r_202) = 0) → wp_L_law_773 K18 bs Ln xs x3 m_203 Q) ∧ ((¬ (lg_cmp r_200 r_202) = 0) → Q (0 : Int32) m_203)))) ∧ (¬ (xs x3.toNatClampNeg) &&& (31 : Int32) = (21 : Int32) → wp_L_law_773 K18 bs Ln xs x3 mem Q))))))))))))))))))))))))
def wp_L_law_18  (bs : Nat) (Ln : Nat) (xs : Nat → Int32) (x3 : Int32) (mem : q_Mem) (Q : Int32 → q_Mem → Prop) : Prop := ∃ I : Nat → Int32 → q_Mem → Prop, (∃ n, I n x3 mem) ∧ ∀ (n : Nat) (yx3 : Int32) (ymem : q_Mem), I n yx3 ymem → wp_L_law_18_b  (fun (zx3 : Int32) (zmem : q_Mem) => ∃ n2, n2 < n ∧ I n2 zx3 zmem) bs Ln xs yx3 ymem Q
set_option maxRecDepth 100000 in
set_option maxHeartbeats 4000000 in
theorem sn_L_law_773 {X : q_X} {G : q_G} {ret : Option FieldType} {QQ : State → Prop} (hX : q_C X cL_law 4 RL ret 9 340) (Q : Int32 → q_Mem → Prop) (bs : Nat) (Ln : Nat) (xs : Nat → Int32) (hscr : va_X bs Ln xs (q_s X) (q_s X).heap) (hbl : bs < (q_s X).heap.size) (hbA : ¬ (q_A G) bs) (hret : ∀ (v : Int32) (pc : Nat) (lv : List (Option Value)) (mem : q_Mem), decode cL_law pc = .ok (.ireturn, 1) → Q v mem → q_J X G 4 QQ pc lv [.int v] mem) (x3 : Int32)  (K18 : Int32 → q_Mem → Prop) (hK18 : ∀ (yx3 : Int32) (ymem : q_Mem), K18 yx3 ymem → q_J X G 4 QQ 18 [some (.ref bs), some (.ref (q_ad G 0)), some (.ref (q_ad G 72)), some (.int yx3)] [] ymem) (mem : q_Mem) (h : wp_L_law_773 K18 bs Ln xs x3 mem Q) : q_J X G 4 QQ 773 [some (.ref bs), some (.ref (q_ad G 0)), some (.ref (q_ad G 72)), some (.int x3)] [] mem := by
  unfold wp_L_law_773 at h
  refine q_iinc hX (6 : Int32) q_ki_6 rfl dL_law_773 776 rfl (Nat.le_of_ble_eq_true rfl) rfl (fun y => [some (.ref bs), some (.ref (q_ad G 0)), some (.ref (q_ad G 72)), some (.int y)]) (fun _ => rfl) (fun x3_1 ex3_1 => ?_)
  replace h := h x3_1 ex3_1
  refine q_goto hX dL_law_776 18 (by decide) ?_
  exact q_weak [true, true, true, true] rfl (hK18 x3_1 mem h)
set_option maxRecDepth 100000 in
set_option maxHeartbeats 4000000 in
theorem sn_L_law_18_b {X : q_X} {G : q_G} {ret : Option FieldType} {QQ : State → Prop} (hX : q_C X cL_law 4 RL ret 9 340) (Q : Int32 → q_Mem → Prop) (bs : Nat) (Ln : Nat) (xs : Nat → Int32) (hscr : va_X bs Ln xs (q_s X) (q_s X).heap) (hbl : bs < (q_s X).heap.size) (hbA : ¬ (q_A G) bs) (hret : ∀ (v : Int32) (pc : Nat) (lv : List (Option Value)) (mem : q_Mem), decode cL_law pc = .ok (.ireturn, 1) → Q v mem → q_J X G 4 QQ pc lv [.int v] mem) (x3 : Int32)  (K18 : Int32 → q_Mem → Prop) (hK18 : ∀ (yx3 : Int32) (ymem : q_Mem), K18 yx3 ymem → q_J X G 4 QQ 18 [some (.ref bs), some (.ref (q_ad G 0)), some (.ref (q_ad G 72)), some (.int yx3)] [] ymem) (mem : q_Mem) (h : wp_L_law_18_b K18 bs Ln xs x3 mem Q) : q_J X G 4 QQ 18 [some (.ref bs), some (.ref (q_ad G 0)), some (.ref (q_ad G 72)), some (.int x3)] [] mem := by
  unfold wp_L_law_18_b at h
  refine q_iload_n hX rfl dL_law_18 19 rfl ?_
  refine q_aload_n hX rfl dL_law_19 20 rfl ?_
  refine q_slen hX hscr hbl hbA dL_law_20 21 rfl ?_
  refine q_bipush hX (6 : Int32) q_kb_6 dL_law_21 23 rfl ?_
  refine q_isub hX dL_law_23 24 rfl ?_
  refine q_icmp_gt hX dL_law_24 27 779 rfl (by decide) (fun c_1 => ?_) (fun c_1 => ?_)
  · replace h := h.1 c_1
    refine q_iconst hX (1 : Int32) q_ki_1 dL_law_779 780 rfl ?_
    exact hret _ _ _ _ dL_law_780 h
  · replace h := h.2 c_1
    refine q_aload_n hX rfl dL_law_27 28 rfl ?_
    refine q_iload_n hX rfl dL_law_28 29 rfl ?_
    obtain ⟨g_2, h⟩ := h
    refine q_sld hX hscr hbl hbA g_2 dL_law_29 30 rfl ?_
    refine q_bipush hX (31 : Int32) q_kb_31 dL_law_30 32 rfl ?_
    refine q_iand hX dL_law_32 33 rfl ?_
    by_cases c_3 : (xs x3.toNatClampNeg) &&& (31 : Int32) = (0 : Int32)
    · replace h := h.1 c_3
      refine q_tin hX dL_law_33 136 (by rw [c_3]; decide) (by rw [c_3]; decide) (by rw [c_3]; rfl) (by decide) ?_
      refine q_aload_n hX rfl dL_law_136 137 rfl ?_
      refine q_aload_n hX rfl dL_law_137 138 rfl ?_
      refine q_iload_n hX rfl dL_law_138 139 rfl ?_
      refine q_iconst hX (1 : Int32) q_ki_1 dL_law_139 140 rfl ?_
      refine q_iadd hX dL_law_140 141 rfl ?_
      obtain ⟨g_4, h⟩ := h
      refine q_sld hX hscr hbl hbA g_4 dL_law_141 142 rfl ?_
      refine q_aload_n hX rfl dL_law_142 143 rfl ?_
      refine q_iload_n hX rfl dL_law_143 144 rfl ?_
      refine q_iconst hX (2 : Int32) q_ki_2 dL_law_144 145 rfl ?_
      refine q_iadd hX dL_law_145 146 rfl ?_
      obtain ⟨g_5, h⟩ := h
      refine q_sld hX hscr hbl hbA g_5 dL_law_146 147 rfl ?_
      refine q_aload_n hX rfl dL_law_147 148 rfl ?_
      refine q_iload_n hX rfl dL_law_148 149 rfl ?_
      refine q_iconst hX (3 : Int32) q_ki_3 dL_law_149 150 rfl ?_
      refine q_iadd hX dL_law_150 151 rfl ?_
      obtain ⟨g_6, h⟩ := h
      refine q_sld hX hscr hbl hbA g_6 dL_law_151 152 rfl ?_
      refine q_aload_n hX rfl dL_law_152 153 rfl ?_
      refine q_iload_n hX rfl dL_law_153 154 rfl ?_
      refine q_iconst hX (4 : Int32) q_ki_4 dL_law_154 155 rfl ?_
      refine q_iadd hX dL_law_155 156 rfl ?_
      obtain ⟨g_7, h⟩ := h
      refine q_sld hX hscr hbl hbA g_7 dL_law_156 157 rfl ?_
      refine cl_L_13 hX  ⟨Nat.le_of_ble_eq_true rfl, Nat.le_of_ble_eq_true rfl⟩ (Nat.le_of_ble_eq_true rfl) dL_law_157 160 rfl (sn_X2_layer (xs (x3 + (1 : Int32)).toNatClampNeg) (xs (x3 + (2 : Int32)).toNatClampNeg) (xs (x3 + (3 : Int32)).toNatClampNeg) (xs (x3 + (4 : Int32)).toNatClampNeg)  mem _ h) (fun r_8 m_9 h => ?_)
      refine q_aload_n hX rfl dL_law_160 161 rfl ?_
      refine q_aload_n hX rfl dL_law_161 162 rfl ?_
      refine q_iload_n hX rfl dL_law_162 163 rfl ?_
      refine q_iconst hX (1 : Int32) q_ki_1 dL_law_163 164 rfl ?_
      refine q_iadd hX dL_law_164 165 rfl ?_
      obtain ⟨g_10, h⟩ := h
      refine q_sld hX hscr hbl hbA g_10 dL_law_165 166 rfl ?_
      refine q_aload_n hX rfl dL_law_166 167 rfl ?_
      refine q_iload_n hX rfl dL_law_167 168 rfl ?_
      refine q_iconst hX (2 : Int32) q_ki_2 dL_law_168 169 rfl ?_
      refine q_iadd hX dL_law_169 170 rfl ?_
      obtain ⟨g_11, h⟩ := h
      refine q_sld hX hscr hbl hbA g_11 dL_law_170 171 rfl ?_
      refine q_aload_n hX rfl dL_law_171 172 rfl ?_
      refine q_iload_n hX rfl dL_law_172 173 rfl ?_
      refine q_iconst hX (3 : Int32) q_ki_3 dL_law_173 174 rfl ?_
      refine q_iadd hX dL_law_174 175 rfl ?_
      obtain ⟨g_12, h⟩ := h
      refine q_sld hX hscr hbl hbA g_12 dL_law_175 176 rfl ?_
      refine q_aload_n hX rfl dL_law_176 177 rfl ?_
      refine q_iload_n hX rfl dL_law_177 178 rfl ?_
      refine q_iconst hX (4 : Int32) q_ki_4 dL_law_178 179 rfl ?_
      refine q_iadd hX dL_law_179 180 rfl ?_
      obtain ⟨g_13, h⟩ := h
      refine q_sld hX hscr hbl hbA g_13 dL_law_180 181 rfl ?_
      refine cl_L_17 hX  ⟨Nat.le_of_ble_eq_true rfl, Nat.le_of_ble_eq_true rfl⟩ (Nat.le_of_ble_eq_true rfl) dL_law_181 184 rfl (sn_X3_layer (xs (x3 + (1 : Int32)).toNatClampNeg) (xs (x3 + (2 : Int32)).toNatClampNeg) (xs (x3 + (3 : Int32)).toNatClampNeg) (xs (x3 + (4 : Int32)).toNatClampNeg)  m_9 _ h) (fun r_14 m_15 h => ?_)
      refine q_icmp_eq hX dL_law_184 187 773 rfl (by decide) (fun c_16 => ?_) (fun c_16 => ?_)
      · replace h := h.1 c_16
        exact q_weak [true, true, true, true] rfl (sn_L_law_773 hX Q bs Ln xs hscr hbl hbA hret x3  K18 hK18 m_15 h)
      · replace h := h.2 c_16
        refine q_iconst hX (0 : Int32) q_ki_0 dL_law_187 188 rfl ?_
        exact hret _ _ _ _ dL_law_188 h
    replace h := h.2 c_3
    by_cases c_17 : (xs x3.toNatClampNeg) &&& (31 : Int32) = (1 : Int32)
    · replace h := h.1 c_17
      refine q_tin hX dL_law_33 189 (by rw [c_17]; decide) (by rw [c_17]; decide) (by rw [c_17]; rfl) (by decide) ?_
      refine q_aload_n hX rfl dL_law_189 190 rfl ?_
      refine cl_L_18 hX  ⟨Nat.le_of_ble_eq_true rfl, Nat.le_of_ble_eq_true rfl⟩ (Nat.le_of_ble_eq_true rfl) dL_law_190 193 rfl (sn_X2_clear   mem _ h) (fun r_18 m_19 h => ?_)
      refine q_aload_n hX rfl dL_law_193 194 rfl ?_
      refine cl_L_22 hX  ⟨Nat.le_of_ble_eq_true rfl, Nat.le_of_ble_eq_true rfl⟩ (Nat.le_of_ble_eq_true rfl) dL_law_194 197 rfl (sn_X3_clear   m_19 _ h) (fun r_20 m_21 h => ?_)
      refine q_icmp_eq hX dL_law_197 200 773 rfl (by decide) (fun c_22 => ?_) (fun c_22 => ?_)
      · replace h := h.1 c_22
        exact q_weak [true, true, true, true] rfl (sn_L_law_773 hX Q bs Ln xs hscr hbl hbA hret x3  K18 hK18 m_21 h)
      · replace h := h.2 c_22
        refine q_iconst hX (0 : Int32) q_ki_0 dL_law_200 201 rfl ?_
        exact hret _ _ _ _ dL_law_201 h
    replace h := h.2 c_17
    by_cases c_23 : (xs x3.toNatClampNeg) &&& (31 : Int32) = (2 : Int32)
    · replace h := h.1 c_23
      refine q_tin hX dL_law_33 202 (by rw [c_23]; decide) (by rw [c_23]; decide) (by rw [c_23]; rfl) (by decide) ?_
      refine q_aload_n hX rfl dL_law_202 203 rfl ?_
      refine q_aload_n hX rfl dL_law_203 204 rfl ?_
      refine q_iload_n hX rfl dL_law_204 205 rfl ?_
      refine q_iconst hX (1 : Int32) q_ki_1 dL_law_205 206 rfl ?_
      refine q_iadd hX dL_law_206 207 rfl ?_
      obtain ⟨g_24, h⟩ := h
      refine q_sld hX hscr hbl hbA g_24 dL_law_207 208 rfl ?_
      refine q_aload_n hX rfl dL_law_208 209 rfl ?_
      refine q_iload_n hX rfl dL_law_209 210 rfl ?_
      refine q_iconst hX (2 : Int32) q_ki_2 dL_law_210 211 rfl ?_
      refine q_iadd hX dL_law_211 212 rfl ?_
      obtain ⟨g_25, h⟩ := h
      refine q_sld hX hscr hbl hbA g_25 dL_law_212 213 rfl ?_
      refine q_aload_n hX rfl dL_law_213 214 rfl ?_
      refine q_iload_n hX rfl dL_law_214 215 rfl ?_
      refine q_iconst hX (3 : Int32) q_ki_3 dL_law_215 216 rfl ?_
      refine q_iadd hX dL_law_216 217 rfl ?_
      obtain ⟨g_26, h⟩ := h
      refine q_sld hX hscr hbl hbA g_26 dL_law_217 218 rfl ?_
      refine cl_L_23 hX  ⟨Nat.le_of_ble_eq_true rfl, Nat.le_of_ble_eq_true rfl⟩ (Nat.le_of_ble_eq_true rfl) dL_law_218 221 rfl (sn_X2_corner (xs (x3 + (1 : Int32)).toNatClampNeg) (xs (x3 + (2 : Int32)).toNatClampNeg) (xs (x3 + (3 : Int32)).toNatClampNeg)  mem _ h) (fun r_27 m_28 h => ?_)
      refine q_aload_n hX rfl dL_law_221 222 rfl ?_
      refine q_aload_n hX rfl dL_law_222 223 rfl ?_
      refine q_iload_n hX rfl dL_law_223 224 rfl ?_
      refine q_iconst hX (1 : Int32) q_ki_1 dL_law_224 225 rfl ?_
      refine q_iadd hX dL_law_225 226 rfl ?_
      obtain ⟨g_29, h⟩ := h
      refine q_sld hX hscr hbl hbA g_29 dL_law_226 227 rfl ?_
      refine q_aload_n hX rfl dL_law_227 228 rfl ?_
      refine q_iload_n hX rfl dL_law_228 229 rfl ?_
      refine q_iconst hX (2 : Int32) q_ki_2 dL_law_229 230 rfl ?_
      refine q_iadd hX dL_law_230 231 rfl ?_
      obtain ⟨g_30, h⟩ := h
      refine q_sld hX hscr hbl hbA g_30 dL_law_231 232 rfl ?_
      refine q_aload_n hX rfl dL_law_232 233 rfl ?_
      refine q_iload_n hX rfl dL_law_233 234 rfl ?_
      refine q_iconst hX (3 : Int32) q_ki_3 dL_law_234 235 rfl ?_
      refine q_iadd hX dL_law_235 236 rfl ?_
      obtain ⟨g_31, h⟩ := h
      refine q_sld hX hscr hbl hbA g_31 dL_law_236 237 rfl ?_
      refine cl_L_27 hX  ⟨Nat.le_of_ble_eq_true rfl, Nat.le_of_ble_eq_true rfl⟩ (Nat.le_of_ble_eq_true rfl) dL_law_237 240 rfl (sn_X3_corner (xs (x3 + (1 : Int32)).toNatClampNeg) (xs (x3 + (2 : Int32)).toNatClampNeg) (xs (x3 + (3 : Int32)).toNatClampNeg)  m_28 _ h) (fun r_32 m_33 h => ?_)
      refine q_icmp_eq hX dL_law_240 243 773 rfl (by decide) (fun c_34 => ?_) (fun c_34 => ?_)
      · replace h := h.1 c_34
        exact q_weak [true, true, true, true] rfl (sn_L_law_773 hX Q bs Ln xs hscr hbl hbA hret x3  K18 hK18 m_33 h)
      · replace h := h.2 c_34
        refine q_iconst hX (0 : Int32) q_ki_0 dL_law_243 244 rfl ?_
        exact hret _ _ _ _ dL_law_244 h
    replace h := h.2 c_23
    by_cases c_35 : (xs x3.toNatClampNeg) &&& (31 : Int32) = (3 : Int32)
    · replace h := h.1 c_35
      refine q_tin hX dL_law_33 245 (by rw [c_35]; decide) (by rw [c_35]; decide) (by rw [c_35]; rfl) (by decide) ?_
      refine q_aload_n hX rfl dL_law_245 246 rfl ?_
      refine q_aload_n hX rfl dL_law_246 247 rfl ?_
      refine q_iload_n hX rfl dL_law_247 248 rfl ?_
      refine q_iconst hX (1 : Int32) q_ki_1 dL_law_248 249 rfl ?_
      refine q_iadd hX dL_law_249 250 rfl ?_
      obtain ⟨g_36, h⟩ := h
      refine q_sld hX hscr hbl hbA g_36 dL_law_250 251 rfl ?_
      refine q_aload_n hX rfl dL_law_251 252 rfl ?_
      refine q_iload_n hX rfl dL_law_252 253 rfl ?_
      refine q_iconst hX (2 : Int32) q_ki_2 dL_law_253 254 rfl ?_
      refine q_iadd hX dL_law_254 255 rfl ?_
      obtain ⟨g_37, h⟩ := h
      refine q_sld hX hscr hbl hbA g_37 dL_law_255 256 rfl ?_
      refine cl_L_28 hX  ⟨Nat.le_of_ble_eq_true rfl, Nat.le_of_ble_eq_true rfl⟩ (Nat.le_of_ble_eq_true rfl) dL_law_256 259 rfl (sn_X2_water (xs (x3 + (1 : Int32)).toNatClampNeg) (xs (x3 + (2 : Int32)).toNatClampNeg)  mem _ h) (fun r_38 m_39 h => ?_)
      refine q_aload_n hX rfl dL_law_259 260 rfl ?_
      refine q_aload_n hX rfl dL_law_260 261 rfl ?_
      refine q_iload_n hX rfl dL_law_261 262 rfl ?_
      refine q_iconst hX (1 : Int32) q_ki_1 dL_law_262 263 rfl ?_
      refine q_iadd hX dL_law_263 264 rfl ?_
      obtain ⟨g_40, h⟩ := h
      refine q_sld hX hscr hbl hbA g_40 dL_law_264 265 rfl ?_
      refine q_aload_n hX rfl dL_law_265 266 rfl ?_
      refine q_iload_n hX rfl dL_law_266 267 rfl ?_
      refine q_iconst hX (2 : Int32) q_ki_2 dL_law_267 268 rfl ?_
      refine q_iadd hX dL_law_268 269 rfl ?_
      obtain ⟨g_41, h⟩ := h
      refine q_sld hX hscr hbl hbA g_41 dL_law_269 270 rfl ?_
      refine cl_L_32 hX  ⟨Nat.le_of_ble_eq_true rfl, Nat.le_of_ble_eq_true rfl⟩ (Nat.le_of_ble_eq_true rfl) dL_law_270 273 rfl (sn_X3_water (xs (x3 + (1 : Int32)).toNatClampNeg) (xs (x3 + (2 : Int32)).toNatClampNeg)  m_39 _ h) (fun r_42 m_43 h => ?_)
      refine q_icmp_eq hX dL_law_273 276 773 rfl (by decide) (fun c_44 => ?_) (fun c_44 => ?_)
      · replace h := h.1 c_44
        exact q_weak [true, true, true, true] rfl (sn_L_law_773 hX Q bs Ln xs hscr hbl hbA hret x3  K18 hK18 m_43 h)
      · replace h := h.2 c_44
        refine q_iconst hX (0 : Int32) q_ki_0 dL_law_276 277 rfl ?_
        exact hret _ _ _ _ dL_law_277 h
    replace h := h.2 c_35
    by_cases c_45 : (xs x3.toNatClampNeg) &&& (31 : Int32) = (4 : Int32)
    · replace h := h.1 c_45
      refine q_tin hX dL_law_33 278 (by rw [c_45]; decide) (by rw [c_45]; decide) (by rw [c_45]; rfl) (by decide) ?_
      refine q_aload_n hX rfl dL_law_278 279 rfl ?_
      refine q_aload_n hX rfl dL_law_279 280 rfl ?_
      refine q_iload_n hX rfl dL_law_280 281 rfl ?_
      refine q_iconst hX (1 : Int32) q_ki_1 dL_law_281 282 rfl ?_
      refine q_iadd hX dL_law_282 283 rfl ?_
      obtain ⟨g_46, h⟩ := h
      refine q_sld hX hscr hbl hbA g_46 dL_law_283 284 rfl ?_
      refine q_aload_n hX rfl dL_law_284 285 rfl ?_
      refine q_iload_n hX rfl dL_law_285 286 rfl ?_
      refine q_iconst hX (2 : Int32) q_ki_2 dL_law_286 287 rfl ?_
      refine q_iadd hX dL_law_287 288 rfl ?_
      obtain ⟨g_47, h⟩ := h
      refine q_sld hX hscr hbl hbA g_47 dL_law_288 289 rfl ?_
      refine cl_L_33 hX  ⟨Nat.le_of_ble_eq_true rfl, Nat.le_of_ble_eq_true rfl⟩ (Nat.le_of_ble_eq_true rfl) dL_law_289 292 rfl (sn_X2_about (xs (x3 + (1 : Int32)).toNatClampNeg) (xs (x3 + (2 : Int32)).toNatClampNeg)  mem _ h) (fun r_48 m_49 h => ?_)
      refine q_aload_n hX rfl dL_law_292 293 rfl ?_
      refine q_aload_n hX rfl dL_law_293 294 rfl ?_
      refine q_iload_n hX rfl dL_law_294 295 rfl ?_
      refine q_iconst hX (1 : Int32) q_ki_1 dL_law_295 296 rfl ?_
      refine q_iadd hX dL_law_296 297 rfl ?_
      obtain ⟨g_50, h⟩ := h
      refine q_sld hX hscr hbl hbA g_50 dL_law_297 298 rfl ?_
      refine q_aload_n hX rfl dL_law_298 299 rfl ?_
      refine q_iload_n hX rfl dL_law_299 300 rfl ?_
      refine q_iconst hX (2 : Int32) q_ki_2 dL_law_300 301 rfl ?_
      refine q_iadd hX dL_law_301 302 rfl ?_
      obtain ⟨g_51, h⟩ := h
      refine q_sld hX hscr hbl hbA g_51 dL_law_302 303 rfl ?_
      refine cl_L_36 hX  ⟨Nat.le_of_ble_eq_true rfl, Nat.le_of_ble_eq_true rfl⟩ (Nat.le_of_ble_eq_true rfl) dL_law_303 306 rfl (sn_X3_about (xs (x3 + (1 : Int32)).toNatClampNeg) (xs (x3 + (2 : Int32)).toNatClampNeg)  m_49 _ h) (fun r_52 m_53 h => ?_)
      refine q_icmp_eq hX dL_law_306 309 773 rfl (by decide) (fun c_54 => ?_) (fun c_54 => ?_)
      · replace h := h.1 c_54
        exact q_weak [true, true, true, true] rfl (sn_L_law_773 hX Q bs Ln xs hscr hbl hbA hret x3  K18 hK18 m_53 h)
      · replace h := h.2 c_54
        refine q_iconst hX (0 : Int32) q_ki_0 dL_law_309 310 rfl ?_
        exact hret _ _ _ _ dL_law_310 h
    replace h := h.2 c_45
    by_cases c_55 : (xs x3.toNatClampNeg) &&& (31 : Int32) = (5 : Int32)
    · replace h := h.1 c_55
      refine q_tin hX dL_law_33 311 (by rw [c_55]; decide) (by rw [c_55]; decide) (by rw [c_55]; rfl) (by decide) ?_
      refine q_aload_n hX rfl dL_law_311 312 rfl ?_
      refine q_aload_n hX rfl dL_law_312 313 rfl ?_
      refine q_iload_n hX rfl dL_law_313 314 rfl ?_
      refine q_iconst hX (1 : Int32) q_ki_1 dL_law_314 315 rfl ?_
      refine q_iadd hX dL_law_315 316 rfl ?_
      obtain ⟨g_56, h⟩ := h
      refine q_sld hX hscr hbl hbA g_56 dL_law_316 317 rfl ?_
      refine q_aload_n hX rfl dL_law_317 318 rfl ?_
      refine q_iload_n hX rfl dL_law_318 319 rfl ?_
      refine q_iconst hX (2 : Int32) q_ki_2 dL_law_319 320 rfl ?_
      refine q_iadd hX dL_law_320 321 rfl ?_
      obtain ⟨g_57, h⟩ := h
      refine q_sld hX hscr hbl hbA g_57 dL_law_321 322 rfl ?_
      refine q_aload_n hX rfl dL_law_322 323 rfl ?_
      refine q_iload_n hX rfl dL_law_323 324 rfl ?_
      refine q_iconst hX (3 : Int32) q_ki_3 dL_law_324 325 rfl ?_
      refine q_iadd hX dL_law_325 326 rfl ?_
      obtain ⟨g_58, h⟩ := h
      refine q_sld hX hscr hbl hbA g_58 dL_law_326 327 rfl ?_
      refine q_aload_n hX rfl dL_law_327 328 rfl ?_
      refine q_iload_n hX rfl dL_law_328 329 rfl ?_
      refine q_iconst hX (4 : Int32) q_ki_4 dL_law_329 330 rfl ?_
      refine q_iadd hX dL_law_330 331 rfl ?_
      obtain ⟨g_59, h⟩ := h
      refine q_sld hX hscr hbl hbA g_59 dL_law_331 332 rfl ?_
      refine q_aload_n hX rfl dL_law_332 333 rfl ?_
      refine q_iload_n hX rfl dL_law_333 334 rfl ?_
      refine q_iconst hX (5 : Int32) q_ki_5 dL_law_334 335 rfl ?_
      refine q_iadd hX dL_law_335 336 rfl ?_
      obtain ⟨g_60, h⟩ := h
      refine q_sld hX hscr hbl hbA g_60 dL_law_336 337 rfl ?_
      refine cl_L_37 hX  ⟨Nat.le_of_ble_eq_true rfl, Nat.le_of_ble_eq_true rfl⟩ (Nat.le_of_ble_eq_true rfl) dL_law_337 340 rfl (sn_X2_hour (xs (x3 + (1 : Int32)).toNatClampNeg) (xs (x3 + (2 : Int32)).toNatClampNeg) (xs (x3 + (3 : Int32)).toNatClampNeg) (xs (x3 + (4 : Int32)).toNatClampNeg) (xs (x3 + (5 : Int32)).toNatClampNeg)  mem _ h) (fun r_61 m_62 h => ?_)
      refine q_aload_n hX rfl dL_law_340 341 rfl ?_
      refine q_aload_n hX rfl dL_law_341 342 rfl ?_
      refine q_iload_n hX rfl dL_law_342 343 rfl ?_
      refine q_iconst hX (1 : Int32) q_ki_1 dL_law_343 344 rfl ?_
      refine q_iadd hX dL_law_344 345 rfl ?_
      obtain ⟨g_63, h⟩ := h
      refine q_sld hX hscr hbl hbA g_63 dL_law_345 346 rfl ?_
      refine q_aload_n hX rfl dL_law_346 347 rfl ?_
      refine q_iload_n hX rfl dL_law_347 348 rfl ?_
      refine q_iconst hX (2 : Int32) q_ki_2 dL_law_348 349 rfl ?_
      refine q_iadd hX dL_law_349 350 rfl ?_
      obtain ⟨g_64, h⟩ := h
      refine q_sld hX hscr hbl hbA g_64 dL_law_350 351 rfl ?_
      refine q_aload_n hX rfl dL_law_351 352 rfl ?_
      refine q_iload_n hX rfl dL_law_352 353 rfl ?_
      refine q_iconst hX (3 : Int32) q_ki_3 dL_law_353 354 rfl ?_
      refine q_iadd hX dL_law_354 355 rfl ?_
      obtain ⟨g_65, h⟩ := h
      refine q_sld hX hscr hbl hbA g_65 dL_law_355 356 rfl ?_
      refine q_aload_n hX rfl dL_law_356 357 rfl ?_
      refine q_iload_n hX rfl dL_law_357 358 rfl ?_
      refine q_iconst hX (4 : Int32) q_ki_4 dL_law_358 359 rfl ?_
      refine q_iadd hX dL_law_359 360 rfl ?_
      obtain ⟨g_66, h⟩ := h
      refine q_sld hX hscr hbl hbA g_66 dL_law_360 361 rfl ?_
      refine q_aload_n hX rfl dL_law_361 362 rfl ?_
      refine q_iload_n hX rfl dL_law_362 363 rfl ?_
      refine q_iconst hX (5 : Int32) q_ki_5 dL_law_363 364 rfl ?_
      refine q_iadd hX dL_law_364 365 rfl ?_
      obtain ⟨g_67, h⟩ := h
      refine q_sld hX hscr hbl hbA g_67 dL_law_365 366 rfl ?_
      refine cl_L_41 hX  ⟨Nat.le_of_ble_eq_true rfl, Nat.le_of_ble_eq_true rfl⟩ (Nat.le_of_ble_eq_true rfl) dL_law_366 369 rfl (sn_X3_hour (xs (x3 + (1 : Int32)).toNatClampNeg) (xs (x3 + (2 : Int32)).toNatClampNeg) (xs (x3 + (3 : Int32)).toNatClampNeg) (xs (x3 + (4 : Int32)).toNatClampNeg) (xs (x3 + (5 : Int32)).toNatClampNeg)  m_62 _ h) (fun r_68 m_69 h => ?_)
      refine q_icmp_eq hX dL_law_369 372 773 rfl (by decide) (fun c_70 => ?_) (fun c_70 => ?_)
      · replace h := h.1 c_70
        exact q_weak [true, true, true, true] rfl (sn_L_law_773 hX Q bs Ln xs hscr hbl hbA hret x3  K18 hK18 m_69 h)
      · replace h := h.2 c_70
        refine q_iconst hX (0 : Int32) q_ki_0 dL_law_372 373 rfl ?_
        exact hret _ _ _ _ dL_law_373 h
    replace h := h.2 c_55
    by_cases c_71 : (xs x3.toNatClampNeg) &&& (31 : Int32) = (6 : Int32)
    · replace h := h.1 c_71
      refine q_tin hX dL_law_33 374 (by rw [c_71]; decide) (by rw [c_71]; decide) (by rw [c_71]; rfl) (by decide) ?_
      refine q_aload_n hX rfl dL_law_374 375 rfl ?_
      refine cl_L_42 hX  ⟨Nat.le_of_ble_eq_true rfl, Nat.le_of_ble_eq_true rfl⟩ (Nat.le_of_ble_eq_true rfl) dL_law_375 378 rfl (sn_X2_fair   mem _ h) (fun r_72 m_73 h => ?_)
      refine q_aload_n hX rfl dL_law_378 379 rfl ?_
      refine cl_L_45 hX  ⟨Nat.le_of_ble_eq_true rfl, Nat.le_of_ble_eq_true rfl⟩ (Nat.le_of_ble_eq_true rfl) dL_law_379 382 rfl (sn_X3_fair   m_73 _ h) (fun r_74 m_75 h => ?_)
      refine q_icmp_eq hX dL_law_382 385 773 rfl (by decide) (fun c_76 => ?_) (fun c_76 => ?_)
      · replace h := h.1 c_76
        exact q_weak [true, true, true, true] rfl (sn_L_law_773 hX Q bs Ln xs hscr hbl hbA hret x3  K18 hK18 m_75 h)
      · replace h := h.2 c_76
        refine q_iconst hX (0 : Int32) q_ki_0 dL_law_385 386 rfl ?_
        exact hret _ _ _ _ dL_law_386 h
    replace h := h.2 c_71
    by_cases c_77 : (xs x3.toNatClampNeg) &&& (31 : Int32) = (7 : Int32)
    · replace h := h.1 c_77
      refine q_tin hX dL_law_33 387 (by rw [c_77]; decide) (by rw [c_77]; decide) (by rw [c_77]; rfl) (by decide) ?_
      refine q_aload_n hX rfl dL_law_387 388 rfl ?_
      refine q_aload_n hX rfl dL_law_388 389 rfl ?_
      refine q_iload_n hX rfl dL_law_389 390 rfl ?_
      refine q_iconst hX (1 : Int32) q_ki_1 dL_law_390 391 rfl ?_
      refine q_iadd hX dL_law_391 392 rfl ?_
      obtain ⟨g_78, h⟩ := h
      refine q_sld hX hscr hbl hbA g_78 dL_law_392 393 rfl ?_
      refine cl_L_46 hX  ⟨Nat.le_of_ble_eq_true rfl, Nat.le_of_ble_eq_true rfl⟩ (Nat.le_of_ble_eq_true rfl) dL_law_393 396 rfl (sn_X2_share (xs (x3 + (1 : Int32)).toNatClampNeg)  mem _ h) (fun r_79 m_80 h => ?_)
      refine q_aload_n hX rfl dL_law_396 397 rfl ?_
      refine q_aload_n hX rfl dL_law_397 398 rfl ?_
      refine q_iload_n hX rfl dL_law_398 399 rfl ?_
      refine q_iconst hX (1 : Int32) q_ki_1 dL_law_399 400 rfl ?_
      refine q_iadd hX dL_law_400 401 rfl ?_
      obtain ⟨g_81, h⟩ := h
      refine q_sld hX hscr hbl hbA g_81 dL_law_401 402 rfl ?_
      refine cl_L_50 hX  ⟨Nat.le_of_ble_eq_true rfl, Nat.le_of_ble_eq_true rfl⟩ (Nat.le_of_ble_eq_true rfl) dL_law_402 405 rfl (sn_X3_share (xs (x3 + (1 : Int32)).toNatClampNeg)  m_80 _ h) (fun r_82 m_83 h => ?_)
      refine q_icmp_eq hX dL_law_405 408 773 rfl (by decide) (fun c_84 => ?_) (fun c_84 => ?_)
      · replace h := h.1 c_84
        exact q_weak [true, true, true, true] rfl (sn_L_law_773 hX Q bs Ln xs hscr hbl hbA hret x3  K18 hK18 m_83 h)
      · replace h := h.2 c_84
        refine q_iconst hX (0 : Int32) q_ki_0 dL_law_408 409 rfl ?_
        exact hret _ _ _ _ dL_law_409 h
    replace h := h.2 c_77
    by_cases c_85 : (xs x3.toNatClampNeg) &&& (31 : Int32) = (8 : Int32)
    · replace h := h.1 c_85
      refine q_tin hX dL_law_33 410 (by rw [c_85]; decide) (by rw [c_85]; decide) (by rw [c_85]; rfl) (by decide) ?_
      refine q_aload_n hX rfl dL_law_410 411 rfl ?_
      refine q_aload_n hX rfl dL_law_411 412 rfl ?_
      refine q_iload_n hX rfl dL_law_412 413 rfl ?_
      refine q_iconst hX (1 : Int32) q_ki_1 dL_law_413 414 rfl ?_
      refine q_iadd hX dL_law_414 415 rfl ?_
      obtain ⟨g_86, h⟩ := h
      refine q_sld hX hscr hbl hbA g_86 dL_law_415 416 rfl ?_
      refine cl_L_51 hX  ⟨Nat.le_of_ble_eq_true rfl, Nat.le_of_ble_eq_true rfl⟩ (Nat.le_of_ble_eq_true rfl) dL_law_416 419 rfl (sn_X2_pass (xs (x3 + (1 : Int32)).toNatClampNeg)  mem _ h) (fun r_87 m_88 h => ?_)
      refine q_aload_n hX rfl dL_law_419 420 rfl ?_
      refine q_aload_n hX rfl dL_law_420 421 rfl ?_
      refine q_iload_n hX rfl dL_law_421 422 rfl ?_
      refine q_iconst hX (1 : Int32) q_ki_1 dL_law_422 423 rfl ?_
      refine q_iadd hX dL_law_423 424 rfl ?_
      obtain ⟨g_89, h⟩ := h
      refine q_sld hX hscr hbl hbA g_89 dL_law_424 425 rfl ?_
      refine cl_L_54 hX  ⟨Nat.le_of_ble_eq_true rfl, Nat.le_of_ble_eq_true rfl⟩ (Nat.le_of_ble_eq_true rfl) dL_law_425 428 rfl (sn_X3_pass (xs (x3 + (1 : Int32)).toNatClampNeg)  m_88 _ h) (fun r_90 m_91 h => ?_)
      refine q_icmp_eq hX dL_law_428 431 773 rfl (by decide) (fun c_92 => ?_) (fun c_92 => ?_)
      · replace h := h.1 c_92
        exact q_weak [true, true, true, true] rfl (sn_L_law_773 hX Q bs Ln xs hscr hbl hbA hret x3  K18 hK18 m_91 h)
      · replace h := h.2 c_92
        refine q_iconst hX (0 : Int32) q_ki_0 dL_law_431 432 rfl ?_
        exact hret _ _ _ _ dL_law_432 h
    replace h := h.2 c_85
    by_cases c_93 : (xs x3.toNatClampNeg) &&& (31 : Int32) = (9 : Int32)
    · replace h := h.1 c_93
      refine q_tin hX dL_law_33 433 (by rw [c_93]; decide) (by rw [c_93]; decide) (by rw [c_93]; rfl) (by decide) ?_
      refine q_aload_n hX rfl dL_law_433 434 rfl ?_
      refine q_aload_n hX rfl dL_law_434 435 rfl ?_
      refine q_iload_n hX rfl dL_law_435 436 rfl ?_
      refine q_iconst hX (1 : Int32) q_ki_1 dL_law_436 437 rfl ?_
      refine q_iadd hX dL_law_437 438 rfl ?_
      obtain ⟨g_94, h⟩ := h
      refine q_sld hX hscr hbl hbA g_94 dL_law_438 439 rfl ?_
      refine cl_L_55 hX  ⟨Nat.le_of_ble_eq_true rfl, Nat.le_of_ble_eq_true rfl⟩ (Nat.le_of_ble_eq_true rfl) dL_law_439 442 rfl (sn_X2_steady (xs (x3 + (1 : Int32)).toNatClampNeg)  mem _ h) (fun r_95 m_96 h => ?_)
      refine q_aload_n hX rfl dL_law_442 443 rfl ?_
      refine q_aload_n hX rfl dL_law_443 444 rfl ?_
      refine q_iload_n hX rfl dL_law_444 445 rfl ?_
      refine q_iconst hX (1 : Int32) q_ki_1 dL_law_445 446 rfl ?_
      refine q_iadd hX dL_law_446 447 rfl ?_
      obtain ⟨g_97, h⟩ := h
      refine q_sld hX hscr hbl hbA g_97 dL_law_447 448 rfl ?_
      refine cl_L_58 hX  ⟨Nat.le_of_ble_eq_true rfl, Nat.le_of_ble_eq_true rfl⟩ (Nat.le_of_ble_eq_true rfl) dL_law_448 451 rfl (sn_X3_steady (xs (x3 + (1 : Int32)).toNatClampNeg)  m_96 _ h) (fun r_98 m_99 h => ?_)
      refine q_icmp_eq hX dL_law_451 454 773 rfl (by decide) (fun c_100 => ?_) (fun c_100 => ?_)
      · replace h := h.1 c_100
        exact q_weak [true, true, true, true] rfl (sn_L_law_773 hX Q bs Ln xs hscr hbl hbA hret x3  K18 hK18 m_99 h)
      · replace h := h.2 c_100
        refine q_iconst hX (0 : Int32) q_ki_0 dL_law_454 455 rfl ?_
        exact hret _ _ _ _ dL_law_455 h
    replace h := h.2 c_93
    by_cases c_101 : (xs x3.toNatClampNeg) &&& (31 : Int32) = (10 : Int32)
    · replace h := h.1 c_101
      refine q_tin hX dL_law_33 456 (by rw [c_101]; decide) (by rw [c_101]; decide) (by rw [c_101]; rfl) (by decide) ?_
      refine q_aload_n hX rfl dL_law_456 457 rfl ?_
      refine q_aload_n hX rfl dL_law_457 458 rfl ?_
      refine q_iload_n hX rfl dL_law_458 459 rfl ?_
      refine q_iconst hX (1 : Int32) q_ki_1 dL_law_459 460 rfl ?_
      refine q_iadd hX dL_law_460 461 rfl ?_
      obtain ⟨g_102, h⟩ := h
      refine q_sld hX hscr hbl hbA g_102 dL_law_461 462 rfl ?_
      refine cl_L_59 hX  ⟨Nat.le_of_ble_eq_true rfl, Nat.le_of_ble_eq_true rfl⟩ (Nat.le_of_ble_eq_true rfl) dL_law_462 465 rfl (sn_X2_sum (xs (x3 + (1 : Int32)).toNatClampNeg)  mem _ h) (fun r_103 m_104 h => ?_)
      refine q_aload_n hX rfl dL_law_465 466 rfl ?_
      refine q_aload_n hX rfl dL_law_466 467 rfl ?_
      refine q_iload_n hX rfl dL_law_467 468 rfl ?_
      refine q_iconst hX (1 : Int32) q_ki_1 dL_law_468 469 rfl ?_
      refine q_iadd hX dL_law_469 470 rfl ?_
      obtain ⟨g_105, h⟩ := h
      refine q_sld hX hscr hbl hbA g_105 dL_law_470 471 rfl ?_
      refine cl_L_62 hX  ⟨Nat.le_of_ble_eq_true rfl, Nat.le_of_ble_eq_true rfl⟩ (Nat.le_of_ble_eq_true rfl) dL_law_471 474 rfl (sn_X3_sum (xs (x3 + (1 : Int32)).toNatClampNeg)  m_104 _ h) (fun r_106 m_107 h => ?_)
      refine q_icmp_eq hX dL_law_474 477 773 rfl (by decide) (fun c_108 => ?_) (fun c_108 => ?_)
      · replace h := h.1 c_108
        exact q_weak [true, true, true, true] rfl (sn_L_law_773 hX Q bs Ln xs hscr hbl hbA hret x3  K18 hK18 m_107 h)
      · replace h := h.2 c_108
        refine q_iconst hX (0 : Int32) q_ki_0 dL_law_477 478 rfl ?_
        exact hret _ _ _ _ dL_law_478 h
    replace h := h.2 c_101
    by_cases c_109 : (xs x3.toNatClampNeg) &&& (31 : Int32) = (11 : Int32)
    · replace h := h.1 c_109
      refine q_tin hX dL_law_33 479 (by rw [c_109]; decide) (by rw [c_109]; decide) (by rw [c_109]; rfl) (by decide) ?_
      refine q_aload_n hX rfl dL_law_479 480 rfl ?_
      refine q_aload_n hX rfl dL_law_480 481 rfl ?_
      refine q_iload_n hX rfl dL_law_481 482 rfl ?_
      refine q_iconst hX (1 : Int32) q_ki_1 dL_law_482 483 rfl ?_
      refine q_iadd hX dL_law_483 484 rfl ?_
      obtain ⟨g_110, h⟩ := h
      refine q_sld hX hscr hbl hbA g_110 dL_law_484 485 rfl ?_
      refine q_aload_n hX rfl dL_law_485 486 rfl ?_
      refine q_iload_n hX rfl dL_law_486 487 rfl ?_
      refine q_iconst hX (2 : Int32) q_ki_2 dL_law_487 488 rfl ?_
      refine q_iadd hX dL_law_488 489 rfl ?_
      obtain ⟨g_111, h⟩ := h
      refine q_sld hX hscr hbl hbA g_111 dL_law_489 490 rfl ?_
      refine cl_L_63 hX  ⟨Nat.le_of_ble_eq_true rfl, Nat.le_of_ble_eq_true rfl⟩ (Nat.le_of_ble_eq_true rfl) dL_law_490 493 rfl (sn_X2_pressure (xs (x3 + (1 : Int32)).toNatClampNeg) (xs (x3 + (2 : Int32)).toNatClampNeg)  mem _ h) (fun r_112 m_113 h => ?_)
      refine q_aload_n hX rfl dL_law_493 494 rfl ?_
      refine q_aload_n hX rfl dL_law_494 495 rfl ?_
      refine q_iload_n hX rfl dL_law_495 496 rfl ?_
      refine q_iconst hX (1 : Int32) q_ki_1 dL_law_496 497 rfl ?_
      refine q_iadd hX dL_law_497 498 rfl ?_
      obtain ⟨g_114, h⟩ := h
      refine q_sld hX hscr hbl hbA g_114 dL_law_498 499 rfl ?_
      refine q_aload_n hX rfl dL_law_499 500 rfl ?_
      refine q_iload_n hX rfl dL_law_500 501 rfl ?_
      refine q_iconst hX (2 : Int32) q_ki_2 dL_law_501 502 rfl ?_
      refine q_iadd hX dL_law_502 503 rfl ?_
      obtain ⟨g_115, h⟩ := h
      refine q_sld hX hscr hbl hbA g_115 dL_law_503 504 rfl ?_
      refine cl_L_66 hX  ⟨Nat.le_of_ble_eq_true rfl, Nat.le_of_ble_eq_true rfl⟩ (Nat.le_of_ble_eq_true rfl) dL_law_504 507 rfl (sn_X3_pressure (xs (x3 + (1 : Int32)).toNatClampNeg) (xs (x3 + (2 : Int32)).toNatClampNeg)  m_113 _ h) (fun r_116 m_117 h => ?_)
      refine q_icmp_eq hX dL_law_507 510 773 rfl (by decide) (fun c_118 => ?_) (fun c_118 => ?_)
      · replace h := h.1 c_118
        exact q_weak [true, true, true, true] rfl (sn_L_law_773 hX Q bs Ln xs hscr hbl hbA hret x3  K18 hK18 m_117 h)
      · replace h := h.2 c_118
        refine q_iconst hX (0 : Int32) q_ki_0 dL_law_510 511 rfl ?_
        exact hret _ _ _ _ dL_law_511 h
    replace h := h.2 c_109
    by_cases c_119 : (xs x3.toNatClampNeg) &&& (31 : Int32) = (12 : Int32)
    · replace h := h.1 c_119
      refine q_tin hX dL_law_33 512 (by rw [c_119]; decide) (by rw [c_119]; decide) (by rw [c_119]; rfl) (by decide) ?_
      refine q_aload_n hX rfl dL_law_512 513 rfl ?_
      refine q_aload_n hX rfl dL_law_513 514 rfl ?_
      refine q_iload_n hX rfl dL_law_514 515 rfl ?_
      refine q_iconst hX (1 : Int32) q_ki_1 dL_law_515 516 rfl ?_
      refine q_iadd hX dL_law_516 517 rfl ?_
      obtain ⟨g_120, h⟩ := h
      refine q_sld hX hscr hbl hbA g_120 dL_law_517 518 rfl ?_
      refine q_aload_n hX rfl dL_law_518 519 rfl ?_
      refine q_iload_n hX rfl dL_law_519 520 rfl ?_
      refine q_iconst hX (2 : Int32) q_ki_2 dL_law_520 521 rfl ?_
      refine q_iadd hX dL_law_521 522 rfl ?_
      obtain ⟨g_121, h⟩ := h
      refine q_sld hX hscr hbl hbA g_121 dL_law_522 523 rfl ?_
      refine cl_L_67 hX  ⟨Nat.le_of_ble_eq_true rfl, Nat.le_of_ble_eq_true rfl⟩ (Nat.le_of_ble_eq_true rfl) dL_law_523 526 rfl (sn_X2_warmth (xs (x3 + (1 : Int32)).toNatClampNeg) (xs (x3 + (2 : Int32)).toNatClampNeg)  mem _ h) (fun r_122 m_123 h => ?_)
      refine q_aload_n hX rfl dL_law_526 527 rfl ?_
      refine q_aload_n hX rfl dL_law_527 528 rfl ?_
      refine q_iload_n hX rfl dL_law_528 529 rfl ?_
      refine q_iconst hX (1 : Int32) q_ki_1 dL_law_529 530 rfl ?_
      refine q_iadd hX dL_law_530 531 rfl ?_
      obtain ⟨g_124, h⟩ := h
      refine q_sld hX hscr hbl hbA g_124 dL_law_531 532 rfl ?_
      refine q_aload_n hX rfl dL_law_532 533 rfl ?_
      refine q_iload_n hX rfl dL_law_533 534 rfl ?_
      refine q_iconst hX (2 : Int32) q_ki_2 dL_law_534 535 rfl ?_
      refine q_iadd hX dL_law_535 536 rfl ?_
      obtain ⟨g_125, h⟩ := h
      refine q_sld hX hscr hbl hbA g_125 dL_law_536 537 rfl ?_
      refine cl_L_70 hX  ⟨Nat.le_of_ble_eq_true rfl, Nat.le_of_ble_eq_true rfl⟩ (Nat.le_of_ble_eq_true rfl) dL_law_537 540 rfl (sn_X3_warmth (xs (x3 + (1 : Int32)).toNatClampNeg) (xs (x3 + (2 : Int32)).toNatClampNeg)  m_123 _ h) (fun r_126 m_127 h => ?_)
      refine q_icmp_eq hX dL_law_540 543 773 rfl (by decide) (fun c_128 => ?_) (fun c_128 => ?_)
      · replace h := h.1 c_128
        exact q_weak [true, true, true, true] rfl (sn_L_law_773 hX Q bs Ln xs hscr hbl hbA hret x3  K18 hK18 m_127 h)
      · replace h := h.2 c_128
        refine q_iconst hX (0 : Int32) q_ki_0 dL_law_543 544 rfl ?_
        exact hret _ _ _ _ dL_law_544 h
    replace h := h.2 c_119
    by_cases c_129 : (xs x3.toNatClampNeg) &&& (31 : Int32) = (13 : Int32)
    · replace h := h.1 c_129
      refine q_tin hX dL_law_33 545 (by rw [c_129]; decide) (by rw [c_129]; decide) (by rw [c_129]; rfl) (by decide) ?_
      refine q_aload_n hX rfl dL_law_545 546 rfl ?_
      refine q_aload_n hX rfl dL_law_546 547 rfl ?_
      refine q_iload_n hX rfl dL_law_547 548 rfl ?_
      refine q_iconst hX (1 : Int32) q_ki_1 dL_law_548 549 rfl ?_
      refine q_iadd hX dL_law_549 550 rfl ?_
      obtain ⟨g_130, h⟩ := h
      refine q_sld hX hscr hbl hbA g_130 dL_law_550 551 rfl ?_
      refine q_aload_n hX rfl dL_law_551 552 rfl ?_
      refine q_iload_n hX rfl dL_law_552 553 rfl ?_
      refine q_iconst hX (2 : Int32) q_ki_2 dL_law_553 554 rfl ?_
      refine q_iadd hX dL_law_554 555 rfl ?_
      obtain ⟨g_131, h⟩ := h
      refine q_sld hX hscr hbl hbA g_131 dL_law_555 556 rfl ?_
      refine cl_L_71 hX  ⟨Nat.le_of_ble_eq_true rfl, Nat.le_of_ble_eq_true rfl⟩ (Nat.le_of_ble_eq_true rfl) dL_law_556 559 rfl (sn_X2_excess (xs (x3 + (1 : Int32)).toNatClampNeg) (xs (x3 + (2 : Int32)).toNatClampNeg)  mem _ h) (fun r_132 m_133 h => ?_)
      refine q_aload_n hX rfl dL_law_559 560 rfl ?_
      refine q_aload_n hX rfl dL_law_560 561 rfl ?_
      refine q_iload_n hX rfl dL_law_561 562 rfl ?_
      refine q_iconst hX (1 : Int32) q_ki_1 dL_law_562 563 rfl ?_
      refine q_iadd hX dL_law_563 564 rfl ?_
      obtain ⟨g_134, h⟩ := h
      refine q_sld hX hscr hbl hbA g_134 dL_law_564 565 rfl ?_
      refine q_aload_n hX rfl dL_law_565 566 rfl ?_
      refine q_iload_n hX rfl dL_law_566 567 rfl ?_
      refine q_iconst hX (2 : Int32) q_ki_2 dL_law_567 568 rfl ?_
      refine q_iadd hX dL_law_568 569 rfl ?_
      obtain ⟨g_135, h⟩ := h
      refine q_sld hX hscr hbl hbA g_135 dL_law_569 570 rfl ?_
      refine cl_L_74 hX  ⟨Nat.le_of_ble_eq_true rfl, Nat.le_of_ble_eq_true rfl⟩ (Nat.le_of_ble_eq_true rfl) dL_law_570 573 rfl (sn_X3_excess (xs (x3 + (1 : Int32)).toNatClampNeg) (xs (x3 + (2 : Int32)).toNatClampNeg)  m_133 _ h) (fun r_136 m_137 h => ?_)
      refine q_icmp_eq hX dL_law_573 576 773 rfl (by decide) (fun c_138 => ?_) (fun c_138 => ?_)
      · replace h := h.1 c_138
        exact q_weak [true, true, true, true] rfl (sn_L_law_773 hX Q bs Ln xs hscr hbl hbA hret x3  K18 hK18 m_137 h)
      · replace h := h.2 c_138
        refine q_iconst hX (0 : Int32) q_ki_0 dL_law_576 577 rfl ?_
        exact hret _ _ _ _ dL_law_577 h
    replace h := h.2 c_129
    by_cases c_139 : (xs x3.toNatClampNeg) &&& (31 : Int32) = (14 : Int32)
    · replace h := h.1 c_139
      refine q_tin hX dL_law_33 578 (by rw [c_139]; decide) (by rw [c_139]; decide) (by rw [c_139]; rfl) (by decide) ?_
      refine q_aload_n hX rfl dL_law_578 579 rfl ?_
      refine q_aload_n hX rfl dL_law_579 580 rfl ?_
      refine q_iload_n hX rfl dL_law_580 581 rfl ?_
      refine q_iconst hX (1 : Int32) q_ki_1 dL_law_581 582 rfl ?_
      refine q_iadd hX dL_law_582 583 rfl ?_
      obtain ⟨g_140, h⟩ := h
      refine q_sld hX hscr hbl hbA g_140 dL_law_583 584 rfl ?_
      refine cl_L_75 hX  ⟨Nat.le_of_ble_eq_true rfl, Nat.le_of_ble_eq_true rfl⟩ (Nat.le_of_ble_eq_true rfl) dL_law_584 587 rfl (sn_X2_best (xs (x3 + (1 : Int32)).toNatClampNeg)  mem _ h) (fun r_141 m_142 h => ?_)
      refine q_aload_n hX rfl dL_law_587 588 rfl ?_
      refine q_aload_n hX rfl dL_law_588 589 rfl ?_
      refine q_iload_n hX rfl dL_law_589 590 rfl ?_
      refine q_iconst hX (1 : Int32) q_ki_1 dL_law_590 591 rfl ?_
      refine q_iadd hX dL_law_591 592 rfl ?_
      obtain ⟨g_143, h⟩ := h
      refine q_sld hX hscr hbl hbA g_143 dL_law_592 593 rfl ?_
      refine cl_L_78 hX  ⟨Nat.le_of_ble_eq_true rfl, Nat.le_of_ble_eq_true rfl⟩ (Nat.le_of_ble_eq_true rfl) dL_law_593 596 rfl (sn_X3_best (xs (x3 + (1 : Int32)).toNatClampNeg)  m_142 _ h) (fun r_144 m_145 h => ?_)
      refine q_icmp_eq hX dL_law_596 599 773 rfl (by decide) (fun c_146 => ?_) (fun c_146 => ?_)
      · replace h := h.1 c_146
        exact q_weak [true, true, true, true] rfl (sn_L_law_773 hX Q bs Ln xs hscr hbl hbA hret x3  K18 hK18 m_145 h)
      · replace h := h.2 c_146
        refine q_iconst hX (0 : Int32) q_ki_0 dL_law_599 600 rfl ?_
        exact hret _ _ _ _ dL_law_600 h
    replace h := h.2 c_139
    by_cases c_147 : (xs x3.toNatClampNeg) &&& (31 : Int32) = (15 : Int32)
    · replace h := h.1 c_147
      refine q_tin hX dL_law_33 601 (by rw [c_147]; decide) (by rw [c_147]; decide) (by rw [c_147]; rfl) (by decide) ?_
      refine q_aload_n hX rfl dL_law_601 602 rfl ?_
      refine q_aload_n hX rfl dL_law_602 603 rfl ?_
      refine q_iload_n hX rfl dL_law_603 604 rfl ?_
      refine q_iconst hX (1 : Int32) q_ki_1 dL_law_604 605 rfl ?_
      refine q_iadd hX dL_law_605 606 rfl ?_
      obtain ⟨g_148, h⟩ := h
      refine q_sld hX hscr hbl hbA g_148 dL_law_606 607 rfl ?_
      refine q_aload_n hX rfl dL_law_607 608 rfl ?_
      refine q_iload_n hX rfl dL_law_608 609 rfl ?_
      refine q_iconst hX (2 : Int32) q_ki_2 dL_law_609 610 rfl ?_
      refine q_iadd hX dL_law_610 611 rfl ?_
      obtain ⟨g_149, h⟩ := h
      refine q_sld hX hscr hbl hbA g_149 dL_law_611 612 rfl ?_
      refine cl_L_79 hX  ⟨Nat.le_of_ble_eq_true rfl, Nat.le_of_ble_eq_true rfl⟩ (Nat.le_of_ble_eq_true rfl) dL_law_612 615 rfl (sn_X2_placed (xs (x3 + (1 : Int32)).toNatClampNeg) (xs (x3 + (2 : Int32)).toNatClampNeg)  mem _ h) (fun r_150 m_151 h => ?_)
      refine q_aload_n hX rfl dL_law_615 616 rfl ?_
      refine q_aload_n hX rfl dL_law_616 617 rfl ?_
      refine q_iload_n hX rfl dL_law_617 618 rfl ?_
      refine q_iconst hX (1 : Int32) q_ki_1 dL_law_618 619 rfl ?_
      refine q_iadd hX dL_law_619 620 rfl ?_
      obtain ⟨g_152, h⟩ := h
      refine q_sld hX hscr hbl hbA g_152 dL_law_620 621 rfl ?_
      refine q_aload_n hX rfl dL_law_621 622 rfl ?_
      refine q_iload_n hX rfl dL_law_622 623 rfl ?_
      refine q_iconst hX (2 : Int32) q_ki_2 dL_law_623 624 rfl ?_
      refine q_iadd hX dL_law_624 625 rfl ?_
      obtain ⟨g_153, h⟩ := h
      refine q_sld hX hscr hbl hbA g_153 dL_law_625 626 rfl ?_
      refine cl_L_82 hX  ⟨Nat.le_of_ble_eq_true rfl, Nat.le_of_ble_eq_true rfl⟩ (Nat.le_of_ble_eq_true rfl) dL_law_626 629 rfl (sn_X3_placed (xs (x3 + (1 : Int32)).toNatClampNeg) (xs (x3 + (2 : Int32)).toNatClampNeg)  m_151 _ h) (fun r_154 m_155 h => ?_)
      refine q_icmp_eq hX dL_law_629 632 773 rfl (by decide) (fun c_156 => ?_) (fun c_156 => ?_)
      · replace h := h.1 c_156
        exact q_weak [true, true, true, true] rfl (sn_L_law_773 hX Q bs Ln xs hscr hbl hbA hret x3  K18 hK18 m_155 h)
      · replace h := h.2 c_156
        refine q_iconst hX (0 : Int32) q_ki_0 dL_law_632 633 rfl ?_
        exact hret _ _ _ _ dL_law_633 h
    replace h := h.2 c_147
    by_cases c_157 : (xs x3.toNatClampNeg) &&& (31 : Int32) = (16 : Int32)
    · replace h := h.1 c_157
      refine q_tin hX dL_law_33 634 (by rw [c_157]; decide) (by rw [c_157]; decide) (by rw [c_157]; rfl) (by decide) ?_
      refine q_aload_n hX rfl dL_law_634 635 rfl ?_
      refine q_aload_n hX rfl dL_law_635 636 rfl ?_
      refine q_iload_n hX rfl dL_law_636 637 rfl ?_
      refine q_iconst hX (1 : Int32) q_ki_1 dL_law_637 638 rfl ?_
      refine q_iadd hX dL_law_638 639 rfl ?_
      obtain ⟨g_158, h⟩ := h
      refine q_sld hX hscr hbl hbA g_158 dL_law_639 640 rfl ?_
      refine cl_L_83 hX  ⟨Nat.le_of_ble_eq_true rfl, Nat.le_of_ble_eq_true rfl⟩ (Nat.le_of_ble_eq_true rfl) dL_law_640 643 rfl (sn_X2_arrange (xs (x3 + (1 : Int32)).toNatClampNeg)  mem _ h) (fun r_159 m_160 h => ?_)
      refine q_aload_n hX rfl dL_law_643 644 rfl ?_
      refine q_aload_n hX rfl dL_law_644 645 rfl ?_
      refine q_iload_n hX rfl dL_law_645 646 rfl ?_
      refine q_iconst hX (1 : Int32) q_ki_1 dL_law_646 647 rfl ?_
      refine q_iadd hX dL_law_647 648 rfl ?_
      obtain ⟨g_161, h⟩ := h
      refine q_sld hX hscr hbl hbA g_161 dL_law_648 649 rfl ?_
      refine cl_L_86 hX  ⟨Nat.le_of_ble_eq_true rfl, Nat.le_of_ble_eq_true rfl⟩ (Nat.le_of_ble_eq_true rfl) dL_law_649 652 rfl (sn_X3_arrange (xs (x3 + (1 : Int32)).toNatClampNeg)  m_160 _ h) (fun r_162 m_163 h => ?_)
      refine q_icmp_eq hX dL_law_652 655 773 rfl (by decide) (fun c_164 => ?_) (fun c_164 => ?_)
      · replace h := h.1 c_164
        exact q_weak [true, true, true, true] rfl (sn_L_law_773 hX Q bs Ln xs hscr hbl hbA hret x3  K18 hK18 m_163 h)
      · replace h := h.2 c_164
        refine q_iconst hX (0 : Int32) q_ki_0 dL_law_655 656 rfl ?_
        exact hret _ _ _ _ dL_law_656 h
    replace h := h.2 c_157
    by_cases c_165 : (xs x3.toNatClampNeg) &&& (31 : Int32) = (17 : Int32)
    · replace h := h.1 c_165
      refine q_tin hX dL_law_33 657 (by rw [c_165]; decide) (by rw [c_165]; decide) (by rw [c_165]; rfl) (by decide) ?_
      refine q_aload_n hX rfl dL_law_657 658 rfl ?_
      refine q_aload_n hX rfl dL_law_658 659 rfl ?_
      refine q_iload_n hX rfl dL_law_659 660 rfl ?_
      refine q_iconst hX (1 : Int32) q_ki_1 dL_law_660 661 rfl ?_
      refine q_iadd hX dL_law_661 662 rfl ?_
      obtain ⟨g_166, h⟩ := h
      refine q_sld hX hscr hbl hbA g_166 dL_law_662 663 rfl ?_
      refine q_aload_n hX rfl dL_law_663 664 rfl ?_
      refine q_iload_n hX rfl dL_law_664 665 rfl ?_
      refine q_iconst hX (2 : Int32) q_ki_2 dL_law_665 666 rfl ?_
      refine q_iadd hX dL_law_666 667 rfl ?_
      obtain ⟨g_167, h⟩ := h
      refine q_sld hX hscr hbl hbA g_167 dL_law_667 668 rfl ?_
      refine q_aload_n hX rfl dL_law_668 669 rfl ?_
      refine q_iload_n hX rfl dL_law_669 670 rfl ?_
      refine q_iconst hX (3 : Int32) q_ki_3 dL_law_670 671 rfl ?_
      refine q_iadd hX dL_law_671 672 rfl ?_
      obtain ⟨g_168, h⟩ := h
      refine q_sld hX hscr hbl hbA g_168 dL_law_672 673 rfl ?_
      refine q_aload_n hX rfl dL_law_673 674 rfl ?_
      refine q_iload_n hX rfl dL_law_674 675 rfl ?_
      refine q_iconst hX (4 : Int32) q_ki_4 dL_law_675 676 rfl ?_
      refine q_iadd hX dL_law_676 677 rfl ?_
      obtain ⟨g_169, h⟩ := h
      refine q_sld hX hscr hbl hbA g_169 dL_law_677 678 rfl ?_
      refine cl_L_87 hX  ⟨Nat.le_of_ble_eq_true rfl, Nat.le_of_ble_eq_true rfl⟩ (Nat.le_of_ble_eq_true rfl) dL_law_678 681 rfl (sn_X2_read (xs (x3 + (1 : Int32)).toNatClampNeg) (xs (x3 + (2 : Int32)).toNatClampNeg) (xs (x3 + (3 : Int32)).toNatClampNeg) (xs (x3 + (4 : Int32)).toNatClampNeg)  mem _ h) (fun r_170 m_171 h => ?_)
      refine q_aload_n hX rfl dL_law_681 682 rfl ?_
      refine q_aload_n hX rfl dL_law_682 683 rfl ?_
      refine q_iload_n hX rfl dL_law_683 684 rfl ?_
      refine q_iconst hX (1 : Int32) q_ki_1 dL_law_684 685 rfl ?_
      refine q_iadd hX dL_law_685 686 rfl ?_
      obtain ⟨g_172, h⟩ := h
      refine q_sld hX hscr hbl hbA g_172 dL_law_686 687 rfl ?_
      refine q_aload_n hX rfl dL_law_687 688 rfl ?_
      refine q_iload_n hX rfl dL_law_688 689 rfl ?_
      refine q_iconst hX (2 : Int32) q_ki_2 dL_law_689 690 rfl ?_
      refine q_iadd hX dL_law_690 691 rfl ?_
      obtain ⟨g_173, h⟩ := h
      refine q_sld hX hscr hbl hbA g_173 dL_law_691 692 rfl ?_
      refine q_aload_n hX rfl dL_law_692 693 rfl ?_
      refine q_iload_n hX rfl dL_law_693 694 rfl ?_
      refine q_iconst hX (3 : Int32) q_ki_3 dL_law_694 695 rfl ?_
      refine q_iadd hX dL_law_695 696 rfl ?_
      obtain ⟨g_174, h⟩ := h
      refine q_sld hX hscr hbl hbA g_174 dL_law_696 697 rfl ?_
      refine q_aload_n hX rfl dL_law_697 698 rfl ?_
      refine q_iload_n hX rfl dL_law_698 699 rfl ?_
      refine q_iconst hX (4 : Int32) q_ki_4 dL_law_699 700 rfl ?_
      refine q_iadd hX dL_law_700 701 rfl ?_
      obtain ⟨g_175, h⟩ := h
      refine q_sld hX hscr hbl hbA g_175 dL_law_701 702 rfl ?_
      refine cl_L_90 hX  ⟨Nat.le_of_ble_eq_true rfl, Nat.le_of_ble_eq_true rfl⟩ (Nat.le_of_ble_eq_true rfl) dL_law_702 705 rfl (sn_X3_read (xs (x3 + (1 : Int32)).toNatClampNeg) (xs (x3 + (2 : Int32)).toNatClampNeg) (xs (x3 + (3 : Int32)).toNatClampNeg) (xs (x3 + (4 : Int32)).toNatClampNeg)  m_171 _ h) (fun r_176 m_177 h => ?_)
      refine q_icmp_eq hX dL_law_705 708 773 rfl (by decide) (fun c_178 => ?_) (fun c_178 => ?_)
      · replace h := h.1 c_178
        exact q_weak [true, true, true, true] rfl (sn_L_law_773 hX Q bs Ln xs hscr hbl hbA hret x3  K18 hK18 m_177 h)
      · replace h := h.2 c_178
        refine q_iconst hX (0 : Int32) q_ki_0 dL_law_708 709 rfl ?_
        exact hret _ _ _ _ dL_law_709 h
    replace h := h.2 c_165
    by_cases c_179 : (xs x3.toNatClampNeg) &&& (31 : Int32) = (18 : Int32)
    · replace h := h.1 c_179
      refine q_tin hX dL_law_33 710 (by rw [c_179]; decide) (by rw [c_179]; decide) (by rw [c_179]; rfl) (by decide) ?_
      refine q_aload_n hX rfl dL_law_710 711 rfl ?_
      refine cl_L_91 hX  ⟨Nat.le_of_ble_eq_true rfl, Nat.le_of_ble_eq_true rfl⟩ (Nat.le_of_ble_eq_true rfl) dL_law_711 714 rfl (sn_X2_forget   mem _ h) (fun r_180 m_181 h => ?_)
      refine q_aload_n hX rfl dL_law_714 715 rfl ?_
      refine cl_L_94 hX  ⟨Nat.le_of_ble_eq_true rfl, Nat.le_of_ble_eq_true rfl⟩ (Nat.le_of_ble_eq_true rfl) dL_law_715 718 rfl (sn_X3_forget   m_181 _ h) (fun r_182 m_183 h => ?_)
      refine q_icmp_eq hX dL_law_718 721 773 rfl (by decide) (fun c_184 => ?_) (fun c_184 => ?_)
      · replace h := h.1 c_184
        exact q_weak [true, true, true, true] rfl (sn_L_law_773 hX Q bs Ln xs hscr hbl hbA hret x3  K18 hK18 m_183 h)
      · replace h := h.2 c_184
        refine q_iconst hX (0 : Int32) q_ki_0 dL_law_721 722 rfl ?_
        exact hret _ _ _ _ dL_law_722 h
    replace h := h.2 c_179
    by_cases c_185 : (xs x3.toNatClampNeg) &&& (31 : Int32) = (19 : Int32)
    · replace h := h.1 c_185
      refine q_tin hX dL_law_33 723 (by rw [c_185]; decide) (by rw [c_185]; decide) (by rw [c_185]; rfl) (by decide) ?_
      refine q_aload_n hX rfl dL_law_723 724 rfl ?_
      refine cl_L_95 hX  ⟨Nat.le_of_ble_eq_true rfl, Nat.le_of_ble_eq_true rfl⟩ (Nat.le_of_ble_eq_true rfl) dL_law_724 727 rfl (sn_X2_fits   mem _ h) (fun r_186 m_187 h => ?_)
      refine q_aload_n hX rfl dL_law_727 728 rfl ?_
      refine cl_L_98 hX  ⟨Nat.le_of_ble_eq_true rfl, Nat.le_of_ble_eq_true rfl⟩ (Nat.le_of_ble_eq_true rfl) dL_law_728 731 rfl (sn_X3_fits   m_187 _ h) (fun r_188 m_189 h => ?_)
      refine q_icmp_eq hX dL_law_731 734 773 rfl (by decide) (fun c_190 => ?_) (fun c_190 => ?_)
      · replace h := h.1 c_190
        exact q_weak [true, true, true, true] rfl (sn_L_law_773 hX Q bs Ln xs hscr hbl hbA hret x3  K18 hK18 m_189 h)
      · replace h := h.2 c_190
        refine q_iconst hX (0 : Int32) q_ki_0 dL_law_734 735 rfl ?_
        exact hret _ _ _ _ dL_law_735 h
    replace h := h.2 c_185
    by_cases c_191 : (xs x3.toNatClampNeg) &&& (31 : Int32) = (20 : Int32)
    · replace h := h.1 c_191
      refine q_tin hX dL_law_33 736 (by rw [c_191]; decide) (by rw [c_191]; decide) (by rw [c_191]; rfl) (by decide) ?_
      refine q_aload_n hX rfl dL_law_736 737 rfl ?_
      refine q_aload_n hX rfl dL_law_737 738 rfl ?_
      refine q_iload_n hX rfl dL_law_738 739 rfl ?_
      refine q_iconst hX (1 : Int32) q_ki_1 dL_law_739 740 rfl ?_
      refine q_iadd hX dL_law_740 741 rfl ?_
      obtain ⟨g_192, h⟩ := h
      refine q_sld hX hscr hbl hbA g_192 dL_law_741 742 rfl ?_
      refine cl_L_99 hX  ⟨Nat.le_of_ble_eq_true rfl, Nat.le_of_ble_eq_true rfl⟩ (Nat.le_of_ble_eq_true rfl) dL_law_742 745 rfl (sn_X2_count (xs (x3 + (1 : Int32)).toNatClampNeg)  mem _ h) (fun r_193 m_194 h => ?_)
      refine q_aload_n hX rfl dL_law_745 746 rfl ?_
      refine q_aload_n hX rfl dL_law_746 747 rfl ?_
      refine q_iload_n hX rfl dL_law_747 748 rfl ?_
      refine q_iconst hX (1 : Int32) q_ki_1 dL_law_748 749 rfl ?_
      refine q_iadd hX dL_law_749 750 rfl ?_
      obtain ⟨g_195, h⟩ := h
      refine q_sld hX hscr hbl hbA g_195 dL_law_750 751 rfl ?_
      refine cl_L_102 hX  ⟨Nat.le_of_ble_eq_true rfl, Nat.le_of_ble_eq_true rfl⟩ (Nat.le_of_ble_eq_true rfl) dL_law_751 754 rfl (sn_X3_count (xs (x3 + (1 : Int32)).toNatClampNeg)  m_194 _ h) (fun r_196 m_197 h => ?_)
      refine q_icmp_eq hX dL_law_754 757 773 rfl (by decide) (fun c_198 => ?_) (fun c_198 => ?_)
      · replace h := h.1 c_198
        exact q_weak [true, true, true, true] rfl (sn_L_law_773 hX Q bs Ln xs hscr hbl hbA hret x3  K18 hK18 m_197 h)
      · replace h := h.2 c_198
        refine q_iconst hX (0 : Int32) q_ki_0 dL_law_757 758 rfl ?_
        exact hret _ _ _ _ dL_law_758 h
    replace h := h.2 c_191
    by_cases c_199 : (xs x3.toNatClampNeg) &&& (31 : Int32) = (21 : Int32)
    · replace h := h.1 c_199
      refine q_tin hX dL_law_33 759 (by rw [c_199]; decide) (by rw [c_199]; decide) (by rw [c_199]; rfl) (by decide) ?_
      refine q_aload_n hX rfl dL_law_759 760 rfl ?_
      refine cl_L_103 hX  ⟨Nat.le_of_ble_eq_true rfl, Nat.le_of_ble_eq_true rfl⟩ (Nat.le_of_ble_eq_true rfl) dL_law_760 763 rfl (sn_X2_digest   mem _ h) (fun r_200 m_201 h => ?_)
      refine q_aload_n hX rfl dL_law_763 764 rfl ?_
      refine cl_L_107 hX  ⟨Nat.le_of_ble_eq_true rfl, Nat.le_of_ble_eq_true rfl⟩ (Nat.le_of_ble_eq_true rfl) dL_law_764 767 rfl (sn_X3_digest   m_201 _ h) (fun r_202 m_203 h => ?_)
      refine q_lcmp hX dL_law_767 768 rfl ?_
      refine q_if_eq hX dL_law_768 771 773 rfl (by decide) (fun c_204 => ?_) (fun c_204 => ?_)
      · replace h := h.1 c_204
        exact q_weak [true, true, true, true] rfl (sn_L_law_773 hX Q bs Ln xs hscr hbl hbA hret x3  K18 hK18 m_203 h)
      · replace h := h.2 c_204
        refine q_iconst hX (0 : Int32) q_ki_0 dL_law_771 772 rfl ?_
        exact hret _ _ _ _ dL_law_772 h
    replace h := h.2 c_199
    refine q_tout hX dL_law_33 773 (by decide) (by have a0 := lv_neT c_3 (a := 0) (by decide); have a1 := lv_neT c_17 (a := 1) (by decide); have a2 := lv_neT c_23 (a := 2) (by decide); have a3 := lv_neT c_35 (a := 3) (by decide); have a4 := lv_neT c_45 (a := 4) (by decide); have a5 := lv_neT c_55 (a := 5) (by decide); have a6 := lv_neT c_71 (a := 6) (by decide); have a7 := lv_neT c_77 (a := 7) (by decide); have a8 := lv_neT c_85 (a := 8) (by decide); have a9 := lv_neT c_93 (a := 9) (by decide); have a10 := lv_neT c_101 (a := 10) (by decide); have a11 := lv_neT c_109 (a := 11) (by decide); have a12 := lv_neT c_119 (a := 12) (by decide); have a13 := lv_neT c_129 (a := 13) (by decide); have a14 := lv_neT c_139 (a := 14) (by decide); have a15 := lv_neT c_147 (a := 15) (by decide); have a16 := lv_neT c_157 (a := 16) (by decide); have a17 := lv_neT c_165 (a := 17) (by decide); have a18 := lv_neT c_179 (a := 18) (by decide); have a19 := lv_neT c_185 (a := 19) (by decide); have a20 := lv_neT c_191 (a := 20) (by decide); have a21 := lv_neT c_199 (a := 21) (by decide); omega) ?_
    exact q_weak [true, true, true, true] rfl (sn_L_law_773 hX Q bs Ln xs hscr hbl hbA hret x3  K18 hK18 mem h)
set_option maxRecDepth 100000 in
set_option maxHeartbeats 4000000 in
theorem sn_L_law_18 {X : q_X} {G : q_G} {ret : Option FieldType} {QQ : State → Prop} (hX : q_C X cL_law 4 RL ret 9 340) (Q : Int32 → q_Mem → Prop) (bs : Nat) (Ln : Nat) (xs : Nat → Int32) (hscr : va_X bs Ln xs (q_s X) (q_s X).heap) (hbl : bs < (q_s X).heap.size) (hbA : ¬ (q_A G) bs) (hret : ∀ (v : Int32) (pc : Nat) (lv : List (Option Value)) (mem : q_Mem), decode cL_law pc = .ok (.ireturn, 1) → Q v mem → q_J X G 4 QQ pc lv [.int v] mem) (x3 : Int32)   (mem : q_Mem) (h : wp_L_law_18  bs Ln xs x3 mem Q) : q_J X G 4 QQ 18 [some (.ref bs), some (.ref (q_ad G 0)), some (.ref (q_ad G 72)), some (.int x3)] [] mem := by
  obtain ⟨I, ⟨n, h0⟩, hs⟩ := h
  have key : ∀ (n : Nat) (yx3 : Int32) (ymem : q_Mem), I n yx3 ymem → q_J X G 4 QQ 18 [some (.ref bs), some (.ref (q_ad G 0)), some (.ref (q_ad G 72)), some (.int yx3)] [] ymem := by
    intro n
    induction n using Nat.strongRecOn with
    | ind n ih =>
      intro yx3 ymem hI
      exact sn_L_law_18_b hX Q bs Ln xs hscr hbl hbA hret yx3   (fun (zx3 : Int32) (zmem : q_Mem) => ∃ n2, n2 < n ∧ I n2 zx3 zmem) (fun zx3 zmem hz => by obtain ⟨n2, h1, h2⟩ := hz; exact ih n2 h1 zx3 zmem h2) ymem (hs n yx3 ymem hI)
  exact key n x3 mem h0

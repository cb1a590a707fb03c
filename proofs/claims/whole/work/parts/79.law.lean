-- the law: class and model side by side
section LAWI
variable {h h1 : List ms_C} {S : GS}
/-- class and model hold the same state -/
def INV (h : List ms_C) (S : GS) : Prop := CIS h S ∧ MIS h S ∧ GIS S ∧ h.length = 110
theorem CIS.off (hc : CIS h S) (ho : Off h h1 97 13) : CIS h1 S :=
  CI.offX hc (ho.x (P := fun i => 97 ≤ i ∧ i < 110) (fun i x1 x2 => ⟨x1, x2⟩)) (fun i hi => by omega)
theorem CIS.is (hc : CIS h S) : (ms_is h 0 5).isSome = true := (CI.facts hc).2.1
theorem MIS.off (hM : MIS h S) (ho : Off h h1 0 97) : MIS h1 S := by
  obtain ⟨k1, u2, ⟨sp, z1⟩, ⟨a98, a99, a100, a101, a102, a104, a105, a106, a107, a108, a109⟩, a103⟩ := hM
  exact ⟨k1, u2, ⟨sp, (ho.2 97 (by omega)).trans z1⟩, ⟨a98.off (ho.2 98 (by omega)), a99.off (ho.2 99 (by omega)), a100.off (ho.2 100 (by omega)), a101.off (ho.2 101 (by omega)), a102.off (ho.2 102 (by omega)), a104.off (ho.2 104 (by omega)), a105.off (ho.2 105 (by omega)), a106.off (ho.2 106 (by omega)), a107.off (ho.2 107 (by omega)), a108.off (ho.2 108 (by omega)), a109.off (ho.2 109 (by omega))⟩, a103.off (ho.2 103 (by omega))⟩
theorem MIS.is (hM : MIS h S) : (ms_is h 97 6).isSome = true := by
  obtain ⟨k1, u2, ⟨sp, z1⟩, -⟩ := hM
  rw [i_obj z1]; rfl
theorem gi_ro_fault (hg : GIS S) : GIS (op_fault S).2 := hg
theorem gi_ro_count {w : Int32} (hg : GIS S) : GIS (op_count w S).2 := hg
theorem gi_ro_street {x y : Int32} (hg : GIS S) : GIS (op_street x y S).2 := by
  unfold op_street
  split
  · split
    · exact hg
    · split
      · exact hg
      · split
        · exact hg
        · split
          · exact hg
          · split
            · exact hg
            · split <;> exact hg
  · exact hg
theorem gi_ro_work {x : Int32} (hg : GIS S) : GIS (op_work x S).2 := by unfold op_work; split <;> exact hg
theorem gi_ro_behind {n s w : Int32} (hg : GIS S) : GIS (op_behind n s w S).2 := by unfold op_behind; split <;> exact hg
theorem gi_ro_first {s : Int32} (hg : GIS S) : GIS (op_first s S).2 := by unfold op_first; split <;> exact hg
theorem gi_ro_even {s : Int32} (hg : GIS S) : GIS (op_even s S).2 := by unfold op_even; split <;> exact hg
theorem gi_ro_paint {s : Int32} (hg : GIS S) : GIS (op_paint s S).2 := by unfold op_paint; split <;> exact hg
theorem gi_ro_order {n j : Int32} (hg : GIS S) : GIS (op_order n j S).2 := by unfold op_order; split <;> exact hg
theorem gi_ro_help {n s w : Int32} (hg : GIS S) : GIS (op_help n s w S).2 := by unfold op_help; split <;> exact hg
theorem gi_ro_kinds {s : Int32} (hg : GIS S) : GIS (op_kinds s S).2 := by unfold op_kinds; split <;> exact hg
theorem gi_ro_uses {s : Int32} (hg : GIS S) : GIS (op_uses s S).2 := by unfold op_uses; split <;> exact hg
theorem gi_ro_likely {s n x p : Int32} (hg : GIS S) : GIS (op_likely s n x p S).2 := by unfold op_likely; split <;> exact hg
theorem gi_ro_decade {z n w : Int32} (hg : GIS S) : GIS (op_decade z n w S).2 := by unfold op_decade; split <;> exact hg
end LAWI
-- the law's switch, a theorem a case (by wip/whole/gen79.py)
section LAWC
variable {sc : List Int32} {h : List ms_C} {Q : Option Value → List ms_C → Prop} {S : GS} {i : Nat}
theorem law_0 (hI : INV h S) (hi : i + 5 ≤ sc.length) (hn : sc.length ≤ 2560) (next : ∀ h1 S1, INV h1 S1 → WP sc 134 840 [some (.float 0), some (.ref 0), some (.ref 97), some (.int (nI i))] [] h1 Q) : WP sc 134 152 [some (.float 0), some (.ref 0), some (.ref 97), some (.int (nI i))] [] h Q := by
  obtain ⟨hc, hm, hg, hl⟩ := hI
  have i0 := hc.is
  simp (disch := first | assumption | exact wn2_i | exact wn2_r | exact wn2_n | exact Nat.le_of_ble_eq_true rfl | omega | (refine nI_z ?_ ?_ <;> omega)) only [s134_152, s134_153, s134_154, s134_155, s134_156, s134_157, s134_158, wX_some, Option.toList_some, Option.toList_none, List.cons_append, List.nil_append, List.map_cons, List.map_nil, List.sum_cons, List.sum_nil, Value.category, wn2_i, wn2_r, wn2_n, Option.isSome_some, List.getElem?_cons_zero, List.getElem?_cons_succ, nI_add, nI_rem2, iat_n]
  refine c_write hc hg (fun h1 hc1 ho1 => ?_)
  have hm1 := hm.off ho1
  have i1 := hm1.is
  simp (disch := first | assumption | exact wn2_i | exact wn2_r | exact wn2_n | exact Nat.le_of_ble_eq_true rfl | omega | (refine nI_z ?_ ?_ <;> omega)) only [s134_161, s134_162, s134_163, s134_164, s134_165, s134_166, s134_167, wX_some, Option.toList_some, Option.toList_none, List.cons_append, List.nil_append, List.map_cons, List.map_nil, List.sum_cons, List.sum_nil, Value.category, wn2_i, wn2_r, wn2_n, Option.isSome_some, List.getElem?_cons_zero, List.getElem?_cons_succ, nI_add, nI_rem2, iat_n]
  refine m_write hm1 hg (fun h2 hm2 ho2 => ?_)
  simp (disch := first | assumption | exact wn2_i | exact wn2_r | exact wn2_n | exact Nat.le_of_ble_eq_true rfl | omega | (refine nI_z ?_ ?_ <;> omega)) only [s134_170, wX_some, Option.toList_some, Option.toList_none, List.cons_append, List.nil_append, List.map_cons, List.map_nil, List.sum_cons, List.sum_nil, Value.category, wn2_i, wn2_r, wn2_n, Option.isSome_some, List.getElem?_cons_zero, List.getElem?_cons_succ, nI_add, nI_rem2, if_true]
  exact next h2 _ ⟨hc1.off ho2, hm2, gi_write hg, by rw [ho2.1, ho1.1]; exact hl⟩
theorem law_1 (hI : INV h S) (hi : i + 5 ≤ sc.length) (hn : sc.length ≤ 2560) (next : ∀ h1 S1, INV h1 S1 → WP sc 134 840 [some (.float 0), some (.ref 0), some (.ref 97), some (.int (nI i))] [] h1 Q) : WP sc 134 175 [some (.float 0), some (.ref 0), some (.ref 97), some (.int (nI i))] [] h Q := by
  obtain ⟨hc, hm, hg, hl⟩ := hI
  have i0 := hc.is
  simp (disch := first | assumption | exact wn2_i | exact wn2_r | exact wn2_n | exact Nat.le_of_ble_eq_true rfl | omega | (refine nI_z ?_ ?_ <;> omega)) only [s134_175, s134_176, wX_some, Option.toList_some, Option.toList_none, List.cons_append, List.nil_append, List.map_cons, List.map_nil, List.sum_cons, List.sum_nil, Value.category, wn2_i, wn2_r, wn2_n, Option.isSome_some, List.getElem?_cons_zero, List.getElem?_cons_succ, nI_add, nI_rem2, iat_n]
  refine c_wipe hc (fun h1 hc1 ho1 => ?_)
  have hm1 := hm.off ho1
  have i1 := hm1.is
  simp (disch := first | assumption | exact wn2_i | exact wn2_r | exact wn2_n | exact Nat.le_of_ble_eq_true rfl | omega | (refine nI_z ?_ ?_ <;> omega)) only [s134_179, s134_180, wX_some, Option.toList_some, Option.toList_none, List.cons_append, List.nil_append, List.map_cons, List.map_nil, List.sum_cons, List.sum_nil, Value.category, wn2_i, wn2_r, wn2_n, Option.isSome_some, List.getElem?_cons_zero, List.getElem?_cons_succ, nI_add, nI_rem2, iat_n]
  refine m_wipe hm1 (fun h2 hm2 ho2 => ?_)
  simp (disch := first | assumption | exact wn2_i | exact wn2_r | exact wn2_n | exact Nat.le_of_ble_eq_true rfl | omega | (refine nI_z ?_ ?_ <;> omega)) only [s134_183, wX_some, Option.toList_some, Option.toList_none, List.cons_append, List.nil_append, List.map_cons, List.map_nil, List.sum_cons, List.sum_nil, Value.category, wn2_i, wn2_r, wn2_n, Option.isSome_some, List.getElem?_cons_zero, List.getElem?_cons_succ, nI_add, nI_rem2, if_true]
  exact next h2 _ ⟨hc1.off ho2, hm2, gi_wipe hg, by rw [ho2.1, ho1.1]; exact hl⟩
theorem law_2 (hI : INV h S) (hi : i + 5 ≤ sc.length) (hn : sc.length ≤ 2560) (next : ∀ h1 S1, INV h1 S1 → WP sc 134 840 [some (.float 0), some (.ref 0), some (.ref 97), some (.int (nI i))] [] h1 Q) : WP sc 134 188 [some (.float 0), some (.ref 0), some (.ref 97), some (.int (nI i))] [] h Q := by
  obtain ⟨hc, hm, hg, hl⟩ := hI
  have i0 := hc.is
  simp (disch := first | assumption | exact wn2_i | exact wn2_r | exact wn2_n | exact Nat.le_of_ble_eq_true rfl | omega | (refine nI_z ?_ ?_ <;> omega)) only [s134_188, s134_189, wX_some, Option.toList_some, Option.toList_none, List.cons_append, List.nil_append, List.map_cons, List.map_nil, List.sum_cons, List.sum_nil, Value.category, wn2_i, wn2_r, wn2_n, Option.isSome_some, List.getElem?_cons_zero, List.getElem?_cons_succ, nI_add, nI_rem2, iat_n]
  refine c_fault hc (fun h1 hc1 ho1 => ?_)
  have hm1 := hm.off ho1
  have i1 := hm1.is
  simp (disch := first | assumption | exact wn2_i | exact wn2_r | exact wn2_n | exact Nat.le_of_ble_eq_true rfl | omega | (refine nI_z ?_ ?_ <;> omega)) only [s134_192, s134_193, wX_some, Option.toList_some, Option.toList_none, List.cons_append, List.nil_append, List.map_cons, List.map_nil, List.sum_cons, List.sum_nil, Value.category, wn2_i, wn2_r, wn2_n, Option.isSome_some, List.getElem?_cons_zero, List.getElem?_cons_succ, nI_add, nI_rem2, iat_n]
  refine m_fault hm1 hg (fun h2 hm2 ho2 => ?_)
  simp (disch := first | assumption | exact wn2_i | exact wn2_r | exact wn2_n | exact Nat.le_of_ble_eq_true rfl | omega | (refine nI_z ?_ ?_ <;> omega)) only [s134_196, wX_some, Option.toList_some, Option.toList_none, List.cons_append, List.nil_append, List.map_cons, List.map_nil, List.sum_cons, List.sum_nil, Value.category, wn2_i, wn2_r, wn2_n, Option.isSome_some, List.getElem?_cons_zero, List.getElem?_cons_succ, nI_add, nI_rem2, if_true]
  exact next h2 _ ⟨hc1.off ho2, hm2, gi_ro_fault hg, by rw [ho2.1, ho1.1]; exact hl⟩
theorem law_3 (hI : INV h S) (hi : i + 5 ≤ sc.length) (hn : sc.length ≤ 2560) (next : ∀ h1 S1, INV h1 S1 → WP sc 134 840 [some (.float 0), some (.ref 0), some (.ref 97), some (.int (nI i))] [] h1 Q) : WP sc 134 201 [some (.float 0), some (.ref 0), some (.ref 97), some (.int (nI i))] [] h Q := by
  obtain ⟨hc, hm, hg, hl⟩ := hI
  have i0 := hc.is
  simp (disch := first | assumption | exact wn2_i | exact wn2_r | exact wn2_n | exact Nat.le_of_ble_eq_true rfl | omega | (refine nI_z ?_ ?_ <;> omega)) only [s134_201, s134_202, wX_some, Option.toList_some, Option.toList_none, List.cons_append, List.nil_append, List.map_cons, List.map_nil, List.sum_cons, List.sum_nil, Value.category, wn2_i, wn2_r, wn2_n, Option.isSome_some, List.getElem?_cons_zero, List.getElem?_cons_succ, nI_add, nI_rem2, iat_n]
  refine c_lay hc hg (fun h1 hc1 ho1 => ?_)
  have hm1 := hm.off ho1
  have i1 := hm1.is
  simp (disch := first | assumption | exact wn2_i | exact wn2_r | exact wn2_n | exact Nat.le_of_ble_eq_true rfl | omega | (refine nI_z ?_ ?_ <;> omega)) only [s134_205, s134_206, wX_some, Option.toList_some, Option.toList_none, List.cons_append, List.nil_append, List.map_cons, List.map_nil, List.sum_cons, List.sum_nil, Value.category, wn2_i, wn2_r, wn2_n, Option.isSome_some, List.getElem?_cons_zero, List.getElem?_cons_succ, nI_add, nI_rem2, iat_n]
  refine m_lay hm1 hg (fun h2 hm2 ho2 => ?_)
  simp (disch := first | assumption | exact wn2_i | exact wn2_r | exact wn2_n | exact Nat.le_of_ble_eq_true rfl | omega | (refine nI_z ?_ ?_ <;> omega)) only [s134_209, wX_some, Option.toList_some, Option.toList_none, List.cons_append, List.nil_append, List.map_cons, List.map_nil, List.sum_cons, List.sum_nil, Value.category, wn2_i, wn2_r, wn2_n, Option.isSome_some, List.getElem?_cons_zero, List.getElem?_cons_succ, nI_add, nI_rem2, if_true]
  exact next h2 _ ⟨hc1.off ho2, hm2, gi_lay hg, by rw [ho2.1, ho1.1]; exact hl⟩
theorem law_4 (hI : INV h S) (hi : i + 5 ≤ sc.length) (hn : sc.length ≤ 2560) (next : ∀ h1 S1, INV h1 S1 → WP sc 134 840 [some (.float 0), some (.ref 0), some (.ref 97), some (.int (nI i))] [] h1 Q) : WP sc 134 214 [some (.float 0), some (.ref 0), some (.ref 97), some (.int (nI i))] [] h Q := by
  obtain ⟨hc, hm, hg, hl⟩ := hI
  have i0 := hc.is
  simp (disch := first | assumption | exact wn2_i | exact wn2_r | exact wn2_n | exact Nat.le_of_ble_eq_true rfl | omega | (refine nI_z ?_ ?_ <;> omega)) only [s134_214, s134_215, s134_216, s134_217, s134_218, s134_219, s134_220, s134_221, s134_222, s134_223, s134_224, s134_225, wX_some, Option.toList_some, Option.toList_none, List.cons_append, List.nil_append, List.map_cons, List.map_nil, List.sum_cons, List.sum_nil, Value.category, wn2_i, wn2_r, wn2_n, Option.isSome_some, List.getElem?_cons_zero, List.getElem?_cons_succ, nI_add, nI_rem2, iat_n]
  refine c_street hc hg (fun h1 hc1 ho1 => ?_)
  have hm1 := hm.off ho1
  have i1 := hm1.is
  simp (disch := first | assumption | exact wn2_i | exact wn2_r | exact wn2_n | exact Nat.le_of_ble_eq_true rfl | omega | (refine nI_z ?_ ?_ <;> omega)) only [s134_228, s134_229, s134_230, s134_231, s134_232, s134_233, s134_234, s134_235, s134_236, s134_237, s134_238, s134_239, wX_some, Option.toList_some, Option.toList_none, List.cons_append, List.nil_append, List.map_cons, List.map_nil, List.sum_cons, List.sum_nil, Value.category, wn2_i, wn2_r, wn2_n, Option.isSome_some, List.getElem?_cons_zero, List.getElem?_cons_succ, nI_add, nI_rem2, iat_n]
  refine m_street hm1 hg (fun h2 hm2 ho2 => ?_)
  simp (disch := first | assumption | exact wn2_i | exact wn2_r | exact wn2_n | exact Nat.le_of_ble_eq_true rfl | omega | (refine nI_z ?_ ?_ <;> omega)) only [s134_242, wX_some, Option.toList_some, Option.toList_none, List.cons_append, List.nil_append, List.map_cons, List.map_nil, List.sum_cons, List.sum_nil, Value.category, wn2_i, wn2_r, wn2_n, Option.isSome_some, List.getElem?_cons_zero, List.getElem?_cons_succ, nI_add, nI_rem2, if_true]
  exact next h2 _ ⟨hc1.off ho2, hm2, gi_ro_street hg, by rw [ho2.1, ho1.1]; exact hl⟩
theorem law_5 (hI : INV h S) (hi : i + 5 ≤ sc.length) (hn : sc.length ≤ 2560) (next : ∀ h1 S1, INV h1 S1 → WP sc 134 840 [some (.float 0), some (.ref 0), some (.ref 97), some (.int (nI i))] [] h1 Q) : WP sc 134 247 [some (.float 0), some (.ref 0), some (.ref 97), some (.int (nI i))] [] h Q := by
  obtain ⟨hc, hm, hg, hl⟩ := hI
  have i0 := hc.is
  simp (disch := first | assumption | exact wn2_i | exact wn2_r | exact wn2_n | exact Nat.le_of_ble_eq_true rfl | omega | (refine nI_z ?_ ?_ <;> omega)) only [s134_247, s134_248, s134_249, s134_250, s134_251, s134_252, s134_253, wX_some, Option.toList_some, Option.toList_none, List.cons_append, List.nil_append, List.map_cons, List.map_nil, List.sum_cons, List.sum_nil, Value.category, wn2_i, wn2_r, wn2_n, Option.isSome_some, List.getElem?_cons_zero, List.getElem?_cons_succ, nI_add, nI_rem2, iat_n]
  refine c_work hc hg (fun h1 hc1 ho1 => ?_)
  have hm1 := hm.off ho1
  have i1 := hm1.is
  simp (disch := first | assumption | exact wn2_i | exact wn2_r | exact wn2_n | exact Nat.le_of_ble_eq_true rfl | omega | (refine nI_z ?_ ?_ <;> omega)) only [s134_256, s134_257, s134_258, s134_259, s134_260, s134_261, s134_262, wX_some, Option.toList_some, Option.toList_none, List.cons_append, List.nil_append, List.map_cons, List.map_nil, List.sum_cons, List.sum_nil, Value.category, wn2_i, wn2_r, wn2_n, Option.isSome_some, List.getElem?_cons_zero, List.getElem?_cons_succ, nI_add, nI_rem2, iat_n]
  refine m_work hm1 hg (fun h2 hm2 ho2 => ?_)
  simp (disch := first | assumption | exact wn2_i | exact wn2_r | exact wn2_n | exact Nat.le_of_ble_eq_true rfl | omega | (refine nI_z ?_ ?_ <;> omega)) only [s134_265, wX_some, Option.toList_some, Option.toList_none, List.cons_append, List.nil_append, List.map_cons, List.map_nil, List.sum_cons, List.sum_nil, Value.category, wn2_i, wn2_r, wn2_n, Option.isSome_some, List.getElem?_cons_zero, List.getElem?_cons_succ, nI_add, nI_rem2, if_true]
  exact next h2 _ ⟨hc1.off ho2, hm2, gi_ro_work hg, by rw [ho2.1, ho1.1]; exact hl⟩
theorem law_6 (hI : INV h S) (hi : i + 5 ≤ sc.length) (hn : sc.length ≤ 2560) (next : ∀ h1 S1, INV h1 S1 → WP sc 134 840 [some (.float 0), some (.ref 0), some (.ref 97), some (.int (nI i))] [] h1 Q) : WP sc 134 270 [some (.float 0), some (.ref 0), some (.ref 97), some (.int (nI i))] [] h Q := by
  obtain ⟨hc, hm, hg, hl⟩ := hI
  have i0 := hc.is
  simp (disch := first | assumption | exact wn2_i | exact wn2_r | exact wn2_n | exact Nat.le_of_ble_eq_true rfl | omega | (refine nI_z ?_ ?_ <;> omega)) only [s134_270, s134_271, s134_272, s134_273, s134_274, s134_275, s134_276, wX_some, Option.toList_some, Option.toList_none, List.cons_append, List.nil_append, List.map_cons, List.map_nil, List.sum_cons, List.sum_nil, Value.category, wn2_i, wn2_r, wn2_n, Option.isSome_some, List.getElem?_cons_zero, List.getElem?_cons_succ, nI_add, nI_rem2, iat_n]
  refine c_pass hc hg (fun h1 hc1 ho1 => ?_)
  have hm1 := hm.off ho1
  have i1 := hm1.is
  simp (disch := first | assumption | exact wn2_i | exact wn2_r | exact wn2_n | exact Nat.le_of_ble_eq_true rfl | omega | (refine nI_z ?_ ?_ <;> omega)) only [s134_279, s134_280, s134_281, s134_282, s134_283, s134_284, s134_285, wX_some, Option.toList_some, Option.toList_none, List.cons_append, List.nil_append, List.map_cons, List.map_nil, List.sum_cons, List.sum_nil, Value.category, wn2_i, wn2_r, wn2_n, Option.isSome_some, List.getElem?_cons_zero, List.getElem?_cons_succ, nI_add, nI_rem2, iat_n]
  refine m_pass hm1 hg (fun h2 hm2 ho2 => ?_)
  simp (disch := first | assumption | exact wn2_i | exact wn2_r | exact wn2_n | exact Nat.le_of_ble_eq_true rfl | omega | (refine nI_z ?_ ?_ <;> omega)) only [s134_288, wX_some, Option.toList_some, Option.toList_none, List.cons_append, List.nil_append, List.map_cons, List.map_nil, List.sum_cons, List.sum_nil, Value.category, wn2_i, wn2_r, wn2_n, Option.isSome_some, List.getElem?_cons_zero, List.getElem?_cons_succ, nI_add, nI_rem2, if_true]
  exact next h2 _ ⟨hc1.off ho2, hm2, gi_pass hg, by rw [ho2.1, ho1.1]; exact hl⟩
theorem law_7 (hI : INV h S) (hi : i + 5 ≤ sc.length) (hn : sc.length ≤ 2560) (next : ∀ h1 S1, INV h1 S1 → WP sc 134 840 [some (.float 0), some (.ref 0), some (.ref 97), some (.int (nI i))] [] h1 Q) : WP sc 134 293 [some (.float 0), some (.ref 0), some (.ref 97), some (.int (nI i))] [] h Q := by
  obtain ⟨hc, hm, hg, hl⟩ := hI
  have i0 := hc.is
  simp (disch := first | assumption | exact wn2_i | exact wn2_r | exact wn2_n | exact Nat.le_of_ble_eq_true rfl | omega | (refine nI_z ?_ ?_ <;> omega)) only [s134_293, s134_294, s134_295, s134_296, s134_297, s134_298, s134_299, s134_300, s134_301, s134_302, s134_303, s134_304, wX_some, Option.toList_some, Option.toList_none, List.cons_append, List.nil_append, List.map_cons, List.map_nil, List.sum_cons, List.sum_nil, Value.category, wn2_i, wn2_r, wn2_n, Option.isSome_some, List.getElem?_cons_zero, List.getElem?_cons_succ, nI_add, nI_rem2, iat_n]
  refine c_mud hc hg (fun h1 hc1 ho1 => ?_)
  have hm1 := hm.off ho1
  have i1 := hm1.is
  simp (disch := first | assumption | exact wn2_i | exact wn2_r | exact wn2_n | exact Nat.le_of_ble_eq_true rfl | omega | (refine nI_z ?_ ?_ <;> omega)) only [s134_307, s134_308, s134_309, s134_310, s134_311, s134_312, s134_313, s134_314, s134_315, s134_316, s134_317, s134_318, wX_some, Option.toList_some, Option.toList_none, List.cons_append, List.nil_append, List.map_cons, List.map_nil, List.sum_cons, List.sum_nil, Value.category, wn2_i, wn2_r, wn2_n, Option.isSome_some, List.getElem?_cons_zero, List.getElem?_cons_succ, nI_add, nI_rem2, iat_n]
  refine m_mud hm1 hg (fun h2 hm2 ho2 => ?_)
  simp (disch := first | assumption | exact wn2_i | exact wn2_r | exact wn2_n | exact Nat.le_of_ble_eq_true rfl | omega | (refine nI_z ?_ ?_ <;> omega)) only [s134_321, wX_some, Option.toList_some, Option.toList_none, List.cons_append, List.nil_append, List.map_cons, List.map_nil, List.sum_cons, List.sum_nil, Value.category, wn2_i, wn2_r, wn2_n, Option.isSome_some, List.getElem?_cons_zero, List.getElem?_cons_succ, nI_add, nI_rem2, if_true]
  exact next h2 _ ⟨hc1.off ho2, hm2, gi_mud hg, by rw [ho2.1, ho1.1]; exact hl⟩
theorem law_8 (hI : INV h S) (hi : i + 5 ≤ sc.length) (hn : sc.length ≤ 2560) (next : ∀ h1 S1, INV h1 S1 → WP sc 134 840 [some (.float 0), some (.ref 0), some (.ref 97), some (.int (nI i))] [] h1 Q) : WP sc 134 326 [some (.float 0), some (.ref 0), some (.ref 97), some (.int (nI i))] [] h Q := by
  obtain ⟨hc, hm, hg, hl⟩ := hI
  have i0 := hc.is
  simp (disch := first | assumption | exact wn2_i | exact wn2_r | exact wn2_n | exact Nat.le_of_ble_eq_true rfl | omega | (refine nI_z ?_ ?_ <;> omega)) only [s134_326, s134_327, s134_328, s134_329, s134_330, s134_331, s134_332, s134_333, s134_334, s134_335, s134_336, s134_337, s134_338, s134_339, s134_340, s134_341, s134_342, wX_some, Option.toList_some, Option.toList_none, List.cons_append, List.nil_append, List.map_cons, List.map_nil, List.sum_cons, List.sum_nil, Value.category, wn2_i, wn2_r, wn2_n, Option.isSome_some, List.getElem?_cons_zero, List.getElem?_cons_succ, nI_add, nI_rem2, iat_n]
  refine c_give hc hg (fun h1 hc1 ho1 => ?_)
  have hm1 := hm.off ho1
  have i1 := hm1.is
  simp (disch := first | assumption | exact wn2_i | exact wn2_r | exact wn2_n | exact Nat.le_of_ble_eq_true rfl | omega | (refine nI_z ?_ ?_ <;> omega)) only [s134_345, s134_346, s134_347, s134_348, s134_349, s134_350, s134_351, s134_352, s134_353, s134_354, s134_355, s134_356, s134_357, s134_358, s134_359, s134_360, s134_361, wX_some, Option.toList_some, Option.toList_none, List.cons_append, List.nil_append, List.map_cons, List.map_nil, List.sum_cons, List.sum_nil, Value.category, wn2_i, wn2_r, wn2_n, Option.isSome_some, List.getElem?_cons_zero, List.getElem?_cons_succ, nI_add, nI_rem2, iat_n]
  refine m_give hm1 hg (fun h2 hm2 ho2 => ?_)
  simp (disch := first | assumption | exact wn2_i | exact wn2_r | exact wn2_n | exact Nat.le_of_ble_eq_true rfl | omega | (refine nI_z ?_ ?_ <;> omega)) only [s134_364, wX_some, Option.toList_some, Option.toList_none, List.cons_append, List.nil_append, List.map_cons, List.map_nil, List.sum_cons, List.sum_nil, Value.category, wn2_i, wn2_r, wn2_n, Option.isSome_some, List.getElem?_cons_zero, List.getElem?_cons_succ, nI_add, nI_rem2, if_true]
  exact next h2 _ ⟨hc1.off ho2, hm2, gi_give hg, by rw [ho2.1, ho1.1]; exact hl⟩
theorem law_9 (hI : INV h S) (hi : i + 5 ≤ sc.length) (hn : sc.length ≤ 2560) (next : ∀ h1 S1, INV h1 S1 → WP sc 134 840 [some (.float 0), some (.ref 0), some (.ref 97), some (.int (nI i))] [] h1 Q) : WP sc 134 369 [some (.float 0), some (.ref 0), some (.ref 97), some (.int (nI i))] [] h Q := by
  obtain ⟨hc, hm, hg, hl⟩ := hI
  have i0 := hc.is
  simp (disch := first | assumption | exact wn2_i | exact wn2_r | exact wn2_n | exact Nat.le_of_ble_eq_true rfl | omega | (refine nI_z ?_ ?_ <;> omega)) only [s134_369, s134_370, s134_371, s134_372, s134_373, s134_374, s134_375, s134_376, s134_377, s134_378, s134_379, s134_380, wX_some, Option.toList_some, Option.toList_none, List.cons_append, List.nil_append, List.map_cons, List.map_nil, List.sum_cons, List.sum_nil, Value.category, wn2_i, wn2_r, wn2_n, Option.isSome_some, List.getElem?_cons_zero, List.getElem?_cons_succ, nI_add, nI_rem2, iat_n]
  refine c_change hc hg (fun h1 hc1 ho1 => ?_)
  have hm1 := hm.off ho1
  have i1 := hm1.is
  simp (disch := first | assumption | exact wn2_i | exact wn2_r | exact wn2_n | exact Nat.le_of_ble_eq_true rfl | omega | (refine nI_z ?_ ?_ <;> omega)) only [s134_383, s134_384, s134_385, s134_386, s134_387, s134_388, s134_389, s134_390, s134_391, s134_392, s134_393, s134_394, wX_some, Option.toList_some, Option.toList_none, List.cons_append, List.nil_append, List.map_cons, List.map_nil, List.sum_cons, List.sum_nil, Value.category, wn2_i, wn2_r, wn2_n, Option.isSome_some, List.getElem?_cons_zero, List.getElem?_cons_succ, nI_add, nI_rem2, iat_n]
  refine m_change hm1 hg (fun h2 hm2 ho2 => ?_)
  simp (disch := first | assumption | exact wn2_i | exact wn2_r | exact wn2_n | exact Nat.le_of_ble_eq_true rfl | omega | (refine nI_z ?_ ?_ <;> omega)) only [s134_397, wX_some, Option.toList_some, Option.toList_none, List.cons_append, List.nil_append, List.map_cons, List.map_nil, List.sum_cons, List.sum_nil, Value.category, wn2_i, wn2_r, wn2_n, Option.isSome_some, List.getElem?_cons_zero, List.getElem?_cons_succ, nI_add, nI_rem2, if_true]
  exact next h2 _ ⟨hc1.off ho2, hm2, gi_change hg, by rw [ho2.1, ho1.1]; exact hl⟩
theorem law_10 (hI : INV h S) (hi : i + 5 ≤ sc.length) (hn : sc.length ≤ 2560) (next : ∀ h1 S1, INV h1 S1 → WP sc 134 840 [some (.float 0), some (.ref 0), some (.ref 97), some (.int (nI i))] [] h1 Q) : WP sc 134 402 [some (.float 0), some (.ref 0), some (.ref 97), some (.int (nI i))] [] h Q := by
  obtain ⟨hc, hm, hg, hl⟩ := hI
  have i0 := hc.is
  simp (disch := first | assumption | exact wn2_i | exact wn2_r | exact wn2_n | exact Nat.le_of_ble_eq_true rfl | omega | (refine nI_z ?_ ?_ <;> omega)) only [s134_402, s134_403, wX_some, Option.toList_some, Option.toList_none, List.cons_append, List.nil_append, List.map_cons, List.map_nil, List.sum_cons, List.sum_nil, Value.category, wn2_i, wn2_r, wn2_n, Option.isSome_some, List.getElem?_cons_zero, List.getElem?_cons_succ, nI_add, nI_rem2, iat_n]
  refine c_undo hc hg (fun h1 hc1 ho1 => ?_)
  have hm1 := hm.off ho1
  have i1 := hm1.is
  simp (disch := first | assumption | exact wn2_i | exact wn2_r | exact wn2_n | exact Nat.le_of_ble_eq_true rfl | omega | (refine nI_z ?_ ?_ <;> omega)) only [s134_406, s134_407, wX_some, Option.toList_some, Option.toList_none, List.cons_append, List.nil_append, List.map_cons, List.map_nil, List.sum_cons, List.sum_nil, Value.category, wn2_i, wn2_r, wn2_n, Option.isSome_some, List.getElem?_cons_zero, List.getElem?_cons_succ, nI_add, nI_rem2, iat_n]
  refine m_undo hm1 hg (fun h2 hm2 ho2 => ?_)
  simp (disch := first | assumption | exact wn2_i | exact wn2_r | exact wn2_n | exact Nat.le_of_ble_eq_true rfl | omega | (refine nI_z ?_ ?_ <;> omega)) only [s134_410, wX_some, Option.toList_some, Option.toList_none, List.cons_append, List.nil_append, List.map_cons, List.map_nil, List.sum_cons, List.sum_nil, Value.category, wn2_i, wn2_r, wn2_n, Option.isSome_some, List.getElem?_cons_zero, List.getElem?_cons_succ, nI_add, nI_rem2, if_true]
  exact next h2 _ ⟨hc1.off ho2, hm2, gi_undo hg, by rw [ho2.1, ho1.1]; exact hl⟩
theorem law_11 (hI : INV h S) (hi : i + 5 ≤ sc.length) (hn : sc.length ≤ 2560) (next : ∀ h1 S1, INV h1 S1 → WP sc 134 840 [some (.float 0), some (.ref 0), some (.ref 97), some (.int (nI i))] [] h1 Q) : WP sc 134 415 [some (.float 0), some (.ref 0), some (.ref 97), some (.int (nI i))] [] h Q := by
  obtain ⟨hc, hm, hg, hl⟩ := hI
  have i0 := hc.is
  simp (disch := first | assumption | exact wn2_i | exact wn2_r | exact wn2_n | exact Nat.le_of_ble_eq_true rfl | omega | (refine nI_z ?_ ?_ <;> omega)) only [s134_415, s134_416, s134_417, s134_418, s134_419, s134_420, s134_421, s134_422, s134_423, s134_424, s134_425, s134_426, s134_427, s134_428, s134_429, s134_430, s134_431, wX_some, Option.toList_some, Option.toList_none, List.cons_append, List.nil_append, List.map_cons, List.map_nil, List.sum_cons, List.sum_nil, Value.category, wn2_i, wn2_r, wn2_n, Option.isSome_some, List.getElem?_cons_zero, List.getElem?_cons_succ, nI_add, nI_rem2, iat_n]
  refine c_behind hc hg (fun h1 hc1 ho1 => ?_)
  have hm1 := hm.off ho1
  have i1 := hm1.is
  simp (disch := first | assumption | exact wn2_i | exact wn2_r | exact wn2_n | exact Nat.le_of_ble_eq_true rfl | omega | (refine nI_z ?_ ?_ <;> omega)) only [s134_434, s134_435, s134_436, s134_437, s134_438, s134_439, s134_440, s134_441, s134_442, s134_443, s134_444, s134_445, s134_446, s134_447, s134_448, s134_449, s134_450, wX_some, Option.toList_some, Option.toList_none, List.cons_append, List.nil_append, List.map_cons, List.map_nil, List.sum_cons, List.sum_nil, Value.category, wn2_i, wn2_r, wn2_n, Option.isSome_some, List.getElem?_cons_zero, List.getElem?_cons_succ, nI_add, nI_rem2, iat_n]
  refine m_behind hm1 hg (fun h2 hm2 ho2 => ?_)
  simp (disch := first | assumption | exact wn2_i | exact wn2_r | exact wn2_n | exact Nat.le_of_ble_eq_true rfl | omega | (refine nI_z ?_ ?_ <;> omega)) only [s134_453, wX_some, Option.toList_some, Option.toList_none, List.cons_append, List.nil_append, List.map_cons, List.map_nil, List.sum_cons, List.sum_nil, Value.category, wn2_i, wn2_r, wn2_n, Option.isSome_some, List.getElem?_cons_zero, List.getElem?_cons_succ, nI_add, nI_rem2, if_true]
  exact next h2 _ ⟨hc1.off ho2, hm2, gi_ro_behind hg, by rw [ho2.1, ho1.1]; exact hl⟩
theorem law_12 (hI : INV h S) (hi : i + 5 ≤ sc.length) (hn : sc.length ≤ 2560) (next : ∀ h1 S1, INV h1 S1 → WP sc 134 840 [some (.float 0), some (.ref 0), some (.ref 97), some (.int (nI i))] [] h1 Q) : WP sc 134 458 [some (.float 0), some (.ref 0), some (.ref 97), some (.int (nI i))] [] h Q := by
  obtain ⟨hc, hm, hg, hl⟩ := hI
  have i0 := hc.is
  simp (disch := first | assumption | exact wn2_i | exact wn2_r | exact wn2_n | exact Nat.le_of_ble_eq_true rfl | omega | (refine nI_z ?_ ?_ <;> omega)) only [s134_458, s134_459, s134_460, s134_461, s134_462, s134_463, s134_464, wX_some, Option.toList_some, Option.toList_none, List.cons_append, List.nil_append, List.map_cons, List.map_nil, List.sum_cons, List.sum_nil, Value.category, wn2_i, wn2_r, wn2_n, Option.isSome_some, List.getElem?_cons_zero, List.getElem?_cons_succ, nI_add, nI_rem2, iat_n]
  refine c_first hc hg (fun h1 hc1 ho1 => ?_)
  have hm1 := hm.off ho1
  have i1 := hm1.is
  simp (disch := first | assumption | exact wn2_i | exact wn2_r | exact wn2_n | exact Nat.le_of_ble_eq_true rfl | omega | (refine nI_z ?_ ?_ <;> omega)) only [s134_467, s134_468, s134_469, s134_470, s134_471, s134_472, s134_473, wX_some, Option.toList_some, Option.toList_none, List.cons_append, List.nil_append, List.map_cons, List.map_nil, List.sum_cons, List.sum_nil, Value.category, wn2_i, wn2_r, wn2_n, Option.isSome_some, List.getElem?_cons_zero, List.getElem?_cons_succ, nI_add, nI_rem2, iat_n]
  refine m_first hm1 hg (fun h2 hm2 ho2 => ?_)
  simp (disch := first | assumption | exact wn2_i | exact wn2_r | exact wn2_n | exact Nat.le_of_ble_eq_true rfl | omega | (refine nI_z ?_ ?_ <;> omega)) only [s134_476, wX_some, Option.toList_some, Option.toList_none, List.cons_append, List.nil_append, List.map_cons, List.map_nil, List.sum_cons, List.sum_nil, Value.category, wn2_i, wn2_r, wn2_n, Option.isSome_some, List.getElem?_cons_zero, List.getElem?_cons_succ, nI_add, nI_rem2, if_true]
  exact next h2 _ ⟨hc1.off ho2, hm2, gi_ro_first hg, by rw [ho2.1, ho1.1]; exact hl⟩
theorem law_13 (hI : INV h S) (hi : i + 5 ≤ sc.length) (hn : sc.length ≤ 2560) (next : ∀ h1 S1, INV h1 S1 → WP sc 134 840 [some (.float 0), some (.ref 0), some (.ref 97), some (.int (nI i))] [] h1 Q) : WP sc 134 481 [some (.float 0), some (.ref 0), some (.ref 97), some (.int (nI i))] [] h Q := by
  obtain ⟨hc, hm, hg, hl⟩ := hI
  have i0 := hc.is
  simp (disch := first | assumption | exact wn2_i | exact wn2_r | exact wn2_n | exact Nat.le_of_ble_eq_true rfl | omega | (refine nI_z ?_ ?_ <;> omega)) only [s134_481, s134_482, s134_483, s134_484, s134_485, s134_486, s134_487, wX_some, Option.toList_some, Option.toList_none, List.cons_append, List.nil_append, List.map_cons, List.map_nil, List.sum_cons, List.sum_nil, Value.category, wn2_i, wn2_r, wn2_n, Option.isSome_some, List.getElem?_cons_zero, List.getElem?_cons_succ, nI_add, nI_rem2, iat_n]
  refine c_even hc hg (fun h1 hc1 ho1 => ?_)
  have hm1 := hm.off ho1
  have i1 := hm1.is
  simp (disch := first | assumption | exact wn2_i | exact wn2_r | exact wn2_n | exact Nat.le_of_ble_eq_true rfl | omega | (refine nI_z ?_ ?_ <;> omega)) only [s134_490, s134_491, s134_492, s134_493, s134_494, s134_495, s134_496, wX_some, Option.toList_some, Option.toList_none, List.cons_append, List.nil_append, List.map_cons, List.map_nil, List.sum_cons, List.sum_nil, Value.category, wn2_i, wn2_r, wn2_n, Option.isSome_some, List.getElem?_cons_zero, List.getElem?_cons_succ, nI_add, nI_rem2, iat_n]
  refine m_even hm1 hg (fun h2 hm2 ho2 => ?_)
  simp (disch := first | assumption | exact wn2_i | exact wn2_r | exact wn2_n | exact Nat.le_of_ble_eq_true rfl | omega | (refine nI_z ?_ ?_ <;> omega)) only [s134_499, wX_some, Option.toList_some, Option.toList_none, List.cons_append, List.nil_append, List.map_cons, List.map_nil, List.sum_cons, List.sum_nil, Value.category, wn2_i, wn2_r, wn2_n, Option.isSome_some, List.getElem?_cons_zero, List.getElem?_cons_succ, nI_add, nI_rem2, if_true]
  exact next h2 _ ⟨hc1.off ho2, hm2, gi_ro_even hg, by rw [ho2.1, ho1.1]; exact hl⟩
theorem law_14 (hI : INV h S) (hi : i + 5 ≤ sc.length) (hn : sc.length ≤ 2560) (next : ∀ h1 S1, INV h1 S1 → WP sc 134 840 [some (.float 0), some (.ref 0), some (.ref 97), some (.int (nI i))] [] h1 Q) : WP sc 134 504 [some (.float 0), some (.ref 0), some (.ref 97), some (.int (nI i))] [] h Q := by
  obtain ⟨hc, hm, hg, hl⟩ := hI
  have i0 := hc.is
  simp (disch := first | assumption | exact wn2_i | exact wn2_r | exact wn2_n | exact Nat.le_of_ble_eq_true rfl | omega | (refine nI_z ?_ ?_ <;> omega)) only [s134_504, s134_505, s134_506, s134_507, s134_508, s134_509, s134_510, s134_511, s134_512, s134_513, s134_514, s134_515, wX_some, Option.toList_some, Option.toList_none, List.cons_append, List.nil_append, List.map_cons, List.map_nil, List.sum_cons, List.sum_nil, Value.category, wn2_i, wn2_r, wn2_n, Option.isSome_some, List.getElem?_cons_zero, List.getElem?_cons_succ, nI_add, nI_rem2, iat_n]
  refine c_order hc hg (fun h1 hc1 ho1 => ?_)
  have hm1 := hm.off ho1
  have i1 := hm1.is
  simp (disch := first | assumption | exact wn2_i | exact wn2_r | exact wn2_n | exact Nat.le_of_ble_eq_true rfl | omega | (refine nI_z ?_ ?_ <;> omega)) only [s134_518, s134_519, s134_520, s134_521, s134_522, s134_523, s134_524, s134_525, s134_526, s134_527, s134_528, s134_529, wX_some, Option.toList_some, Option.toList_none, List.cons_append, List.nil_append, List.map_cons, List.map_nil, List.sum_cons, List.sum_nil, Value.category, wn2_i, wn2_r, wn2_n, Option.isSome_some, List.getElem?_cons_zero, List.getElem?_cons_succ, nI_add, nI_rem2, iat_n]
  refine m_order hm1 hg (fun h2 hm2 ho2 => ?_)
  simp (disch := first | assumption | exact wn2_i | exact wn2_r | exact wn2_n | exact Nat.le_of_ble_eq_true rfl | omega | (refine nI_z ?_ ?_ <;> omega)) only [s134_532, wX_some, Option.toList_some, Option.toList_none, List.cons_append, List.nil_append, List.map_cons, List.map_nil, List.sum_cons, List.sum_nil, Value.category, wn2_i, wn2_r, wn2_n, Option.isSome_some, List.getElem?_cons_zero, List.getElem?_cons_succ, nI_add, nI_rem2, if_true]
  exact next h2 _ ⟨hc1.off ho2, hm2, gi_ro_order hg, by rw [ho2.1, ho1.1]; exact hl⟩
theorem law_15 (hI : INV h S) (hi : i + 5 ≤ sc.length) (hn : sc.length ≤ 2560) (next : ∀ h1 S1, INV h1 S1 → WP sc 134 840 [some (.float 0), some (.ref 0), some (.ref 97), some (.int (nI i))] [] h1 Q) : WP sc 134 537 [some (.float 0), some (.ref 0), some (.ref 97), some (.int (nI i))] [] h Q := by
  obtain ⟨hc, hm, hg, hl⟩ := hI
  have i0 := hc.is
  simp (disch := first | assumption | exact wn2_i | exact wn2_r | exact wn2_n | exact Nat.le_of_ble_eq_true rfl | omega | (refine nI_z ?_ ?_ <;> omega)) only [s134_537, s134_538, s134_539, s134_540, s134_541, s134_542, s134_543, wX_some, Option.toList_some, Option.toList_none, List.cons_append, List.nil_append, List.map_cons, List.map_nil, List.sum_cons, List.sum_nil, Value.category, wn2_i, wn2_r, wn2_n, Option.isSome_some, List.getElem?_cons_zero, List.getElem?_cons_succ, nI_add, nI_rem2, iat_n]
  refine c_paint hc hg (fun h1 hc1 ho1 => ?_)
  have hm1 := hm.off ho1
  have i1 := hm1.is
  simp (disch := first | assumption | exact wn2_i | exact wn2_r | exact wn2_n | exact Nat.le_of_ble_eq_true rfl | omega | (refine nI_z ?_ ?_ <;> omega)) only [s134_546, s134_547, s134_548, s134_549, s134_550, s134_551, s134_552, wX_some, Option.toList_some, Option.toList_none, List.cons_append, List.nil_append, List.map_cons, List.map_nil, List.sum_cons, List.sum_nil, Value.category, wn2_i, wn2_r, wn2_n, Option.isSome_some, List.getElem?_cons_zero, List.getElem?_cons_succ, nI_add, nI_rem2, iat_n]
  refine m_paint hm1 hg (fun h2 hm2 ho2 => ?_)
  simp (disch := first | assumption | exact wn2_i | exact wn2_r | exact wn2_n | exact Nat.le_of_ble_eq_true rfl | omega | (refine nI_z ?_ ?_ <;> omega)) only [s134_555, wX_some, Option.toList_some, Option.toList_none, List.cons_append, List.nil_append, List.map_cons, List.map_nil, List.sum_cons, List.sum_nil, Value.category, wn2_i, wn2_r, wn2_n, Option.isSome_some, List.getElem?_cons_zero, List.getElem?_cons_succ, nI_add, nI_rem2, if_true]
  exact next h2 _ ⟨hc1.off ho2, hm2, gi_ro_paint hg, by rw [ho2.1, ho1.1]; exact hl⟩
theorem law_16 (hI : INV h S) (hi : i + 5 ≤ sc.length) (hn : sc.length ≤ 2560) (next : ∀ h1 S1, INV h1 S1 → WP sc 134 840 [some (.float 0), some (.ref 0), some (.ref 97), some (.int (nI i))] [] h1 Q) : WP sc 134 560 [some (.float 0), some (.ref 0), some (.ref 97), some (.int (nI i))] [] h Q := by
  obtain ⟨hc, hm, hg, hl⟩ := hI
  have i0 := hc.is
  simp (disch := first | assumption | exact wn2_i | exact wn2_r | exact wn2_n | exact Nat.le_of_ble_eq_true rfl | omega | (refine nI_z ?_ ?_ <;> omega)) only [s134_560, s134_561, s134_562, s134_563, s134_564, s134_565, s134_566, s134_567, s134_568, s134_569, s134_570, s134_571, s134_572, s134_573, s134_574, s134_575, s134_576, wX_some, Option.toList_some, Option.toList_none, List.cons_append, List.nil_append, List.map_cons, List.map_nil, List.sum_cons, List.sum_nil, Value.category, wn2_i, wn2_r, wn2_n, Option.isSome_some, List.getElem?_cons_zero, List.getElem?_cons_succ, nI_add, nI_rem2, iat_n]
  refine c_help hc hg (fun h1 hc1 ho1 => ?_)
  have hm1 := hm.off ho1
  have i1 := hm1.is
  simp (disch := first | assumption | exact wn2_i | exact wn2_r | exact wn2_n | exact Nat.le_of_ble_eq_true rfl | omega | (refine nI_z ?_ ?_ <;> omega)) only [s134_579, s134_580, s134_581, s134_582, s134_583, s134_584, s134_585, s134_586, s134_587, s134_588, s134_589, s134_590, s134_591, s134_592, s134_593, s134_594, s134_595, wX_some, Option.toList_some, Option.toList_none, List.cons_append, List.nil_append, List.map_cons, List.map_nil, List.sum_cons, List.sum_nil, Value.category, wn2_i, wn2_r, wn2_n, Option.isSome_some, List.getElem?_cons_zero, List.getElem?_cons_succ, nI_add, nI_rem2, iat_n]
  refine m_help hm1 hg (fun h2 hm2 ho2 => ?_)
  simp (disch := first | assumption | exact wn2_i | exact wn2_r | exact wn2_n | exact Nat.le_of_ble_eq_true rfl | omega | (refine nI_z ?_ ?_ <;> omega)) only [s134_598, wX_some, Option.toList_some, Option.toList_none, List.cons_append, List.nil_append, List.map_cons, List.map_nil, List.sum_cons, List.sum_nil, Value.category, wn2_i, wn2_r, wn2_n, Option.isSome_some, List.getElem?_cons_zero, List.getElem?_cons_succ, nI_add, nI_rem2, if_true]
  exact next h2 _ ⟨hc1.off ho2, hm2, gi_ro_help hg, by rw [ho2.1, ho1.1]; exact hl⟩
theorem law_17 (hI : INV h S) (hi : i + 5 ≤ sc.length) (hn : sc.length ≤ 2560) (next : ∀ h1 S1, INV h1 S1 → WP sc 134 840 [some (.float 0), some (.ref 0), some (.ref 97), some (.int (nI i))] [] h1 Q) : WP sc 134 603 [some (.float 0), some (.ref 0), some (.ref 97), some (.int (nI i))] [] h Q := by
  obtain ⟨hc, hm, hg, hl⟩ := hI
  have i0 := hc.is
  simp (disch := first | assumption | exact wn2_i | exact wn2_r | exact wn2_n | exact Nat.le_of_ble_eq_true rfl | omega | (refine nI_z ?_ ?_ <;> omega)) only [s134_603, s134_604, s134_605, s134_606, s134_607, s134_608, s134_609, s134_610, s134_611, s134_612, s134_613, s134_614, wX_some, Option.toList_some, Option.toList_none, List.cons_append, List.nil_append, List.map_cons, List.map_nil, List.sum_cons, List.sum_nil, Value.category, wn2_i, wn2_r, wn2_n, Option.isSome_some, List.getElem?_cons_zero, List.getElem?_cons_succ, nI_add, nI_rem2, iat_n]
  refine c_seen hc hg (fun h1 hc1 ho1 => ?_)
  have hm1 := hm.off ho1
  have i1 := hm1.is
  simp (disch := first | assumption | exact wn2_i | exact wn2_r | exact wn2_n | exact Nat.le_of_ble_eq_true rfl | omega | (refine nI_z ?_ ?_ <;> omega)) only [s134_617, s134_618, s134_619, s134_620, s134_621, s134_622, s134_623, s134_624, s134_625, s134_626, s134_627, s134_628, wX_some, Option.toList_some, Option.toList_none, List.cons_append, List.nil_append, List.map_cons, List.map_nil, List.sum_cons, List.sum_nil, Value.category, wn2_i, wn2_r, wn2_n, Option.isSome_some, List.getElem?_cons_zero, List.getElem?_cons_succ, nI_add, nI_rem2, iat_n]
  refine m_seen hm1 hg (fun h2 hm2 ho2 => ?_)
  simp (disch := first | assumption | exact wn2_i | exact wn2_r | exact wn2_n | exact Nat.le_of_ble_eq_true rfl | omega | (refine nI_z ?_ ?_ <;> omega)) only [s134_631, wX_some, Option.toList_some, Option.toList_none, List.cons_append, List.nil_append, List.map_cons, List.map_nil, List.sum_cons, List.sum_nil, Value.category, wn2_i, wn2_r, wn2_n, Option.isSome_some, List.getElem?_cons_zero, List.getElem?_cons_succ, nI_add, nI_rem2, if_true]
  exact next h2 _ ⟨hc1.off ho2, hm2, gi_seen hg, by rw [ho2.1, ho1.1]; exact hl⟩
theorem law_18 (hI : INV h S) (hi : i + 5 ≤ sc.length) (hn : sc.length ≤ 2560) (next : ∀ h1 S1, INV h1 S1 → WP sc 134 840 [some (.float 0), some (.ref 0), some (.ref 97), some (.int (nI i))] [] h1 Q) : WP sc 134 636 [some (.float 0), some (.ref 0), some (.ref 97), some (.int (nI i))] [] h Q := by
  obtain ⟨hc, hm, hg, hl⟩ := hI
  have i0 := hc.is
  simp (disch := first | assumption | exact wn2_i | exact wn2_r | exact wn2_n | exact Nat.le_of_ble_eq_true rfl | omega | (refine nI_z ?_ ?_ <;> omega)) only [s134_636, s134_637, wX_some, Option.toList_some, Option.toList_none, List.cons_append, List.nil_append, List.map_cons, List.map_nil, List.sum_cons, List.sum_nil, Value.category, wn2_i, wn2_r, wn2_n, Option.isSome_some, List.getElem?_cons_zero, List.getElem?_cons_succ, nI_add, nI_rem2, iat_n]
  refine c_forget hc (fun h1 hc1 ho1 => ?_)
  have hm1 := hm.off ho1
  have i1 := hm1.is
  simp (disch := first | assumption | exact wn2_i | exact wn2_r | exact wn2_n | exact Nat.le_of_ble_eq_true rfl | omega | (refine nI_z ?_ ?_ <;> omega)) only [s134_640, s134_641, wX_some, Option.toList_some, Option.toList_none, List.cons_append, List.nil_append, List.map_cons, List.map_nil, List.sum_cons, List.sum_nil, Value.category, wn2_i, wn2_r, wn2_n, Option.isSome_some, List.getElem?_cons_zero, List.getElem?_cons_succ, nI_add, nI_rem2, iat_n]
  refine m_forget hm1 (fun h2 hm2 ho2 => ?_)
  simp (disch := first | assumption | exact wn2_i | exact wn2_r | exact wn2_n | exact Nat.le_of_ble_eq_true rfl | omega | (refine nI_z ?_ ?_ <;> omega)) only [s134_644, wX_some, Option.toList_some, Option.toList_none, List.cons_append, List.nil_append, List.map_cons, List.map_nil, List.sum_cons, List.sum_nil, Value.category, wn2_i, wn2_r, wn2_n, Option.isSome_some, List.getElem?_cons_zero, List.getElem?_cons_succ, nI_add, nI_rem2, if_true]
  exact next h2 _ ⟨hc1.off ho2, hm2, gi_forget hg, by rw [ho2.1, ho1.1]; exact hl⟩
theorem law_19 (hI : INV h S) (hi : i + 5 ≤ sc.length) (hn : sc.length ≤ 2560) (next : ∀ h1 S1, INV h1 S1 → WP sc 134 840 [some (.float 0), some (.ref 0), some (.ref 97), some (.int (nI i))] [] h1 Q) : WP sc 134 649 [some (.float 0), some (.ref 0), some (.ref 97), some (.int (nI i))] [] h Q := by
  obtain ⟨hc, hm, hg, hl⟩ := hI
  have i0 := hc.is
  simp (disch := first | assumption | exact wn2_i | exact wn2_r | exact wn2_n | exact Nat.le_of_ble_eq_true rfl | omega | (refine nI_z ?_ ?_ <;> omega)) only [s134_649, s134_650, s134_651, s134_652, s134_653, s134_654, s134_655, wX_some, Option.toList_some, Option.toList_none, List.cons_append, List.nil_append, List.map_cons, List.map_nil, List.sum_cons, List.sum_nil, Value.category, wn2_i, wn2_r, wn2_n, Option.isSome_some, List.getElem?_cons_zero, List.getElem?_cons_succ, nI_add, nI_rem2, iat_n]
  refine c_kinds hc hg (fun h1 hc1 ho1 => ?_)
  have hm1 := hm.off ho1
  have i1 := hm1.is
  simp (disch := first | assumption | exact wn2_i | exact wn2_r | exact wn2_n | exact Nat.le_of_ble_eq_true rfl | omega | (refine nI_z ?_ ?_ <;> omega)) only [s134_658, s134_659, s134_660, s134_661, s134_662, s134_663, s134_664, wX_some, Option.toList_some, Option.toList_none, List.cons_append, List.nil_append, List.map_cons, List.map_nil, List.sum_cons, List.sum_nil, Value.category, wn2_i, wn2_r, wn2_n, Option.isSome_some, List.getElem?_cons_zero, List.getElem?_cons_succ, nI_add, nI_rem2, iat_n]
  refine m_kinds hm1 hg (fun h2 hm2 ho2 => ?_)
  simp (disch := first | assumption | exact wn2_i | exact wn2_r | exact wn2_n | exact Nat.le_of_ble_eq_true rfl | omega | (refine nI_z ?_ ?_ <;> omega)) only [s134_667, wX_some, Option.toList_some, Option.toList_none, List.cons_append, List.nil_append, List.map_cons, List.map_nil, List.sum_cons, List.sum_nil, Value.category, wn2_i, wn2_r, wn2_n, Option.isSome_some, List.getElem?_cons_zero, List.getElem?_cons_succ, nI_add, nI_rem2, if_true]
  exact next h2 _ ⟨hc1.off ho2, hm2, gi_ro_kinds hg, by rw [ho2.1, ho1.1]; exact hl⟩
theorem law_20 (hI : INV h S) (hi : i + 5 ≤ sc.length) (hn : sc.length ≤ 2560) (next : ∀ h1 S1, INV h1 S1 → WP sc 134 840 [some (.float 0), some (.ref 0), some (.ref 97), some (.int (nI i))] [] h1 Q) : WP sc 134 672 [some (.float 0), some (.ref 0), some (.ref 97), some (.int (nI i))] [] h Q := by
  obtain ⟨hc, hm, hg, hl⟩ := hI
  have i0 := hc.is
  simp (disch := first | assumption | exact wn2_i | exact wn2_r | exact wn2_n | exact Nat.le_of_ble_eq_true rfl | omega | (refine nI_z ?_ ?_ <;> omega)) only [s134_672, s134_673, s134_674, s134_675, s134_676, s134_677, s134_678, wX_some, Option.toList_some, Option.toList_none, List.cons_append, List.nil_append, List.map_cons, List.map_nil, List.sum_cons, List.sum_nil, Value.category, wn2_i, wn2_r, wn2_n, Option.isSome_some, List.getElem?_cons_zero, List.getElem?_cons_succ, nI_add, nI_rem2, iat_n]
  refine c_uses hc hg (fun h1 hc1 ho1 => ?_)
  have hm1 := hm.off ho1
  have i1 := hm1.is
  simp (disch := first | assumption | exact wn2_i | exact wn2_r | exact wn2_n | exact Nat.le_of_ble_eq_true rfl | omega | (refine nI_z ?_ ?_ <;> omega)) only [s134_681, s134_682, s134_683, s134_684, s134_685, s134_686, s134_687, wX_some, Option.toList_some, Option.toList_none, List.cons_append, List.nil_append, List.map_cons, List.map_nil, List.sum_cons, List.sum_nil, Value.category, wn2_i, wn2_r, wn2_n, Option.isSome_some, List.getElem?_cons_zero, List.getElem?_cons_succ, nI_add, nI_rem2, iat_n]
  refine m_uses hm1 hg (fun h2 hm2 ho2 => ?_)
  simp (disch := first | assumption | exact wn2_i | exact wn2_r | exact wn2_n | exact Nat.le_of_ble_eq_true rfl | omega | (refine nI_z ?_ ?_ <;> omega)) only [s134_690, wX_some, Option.toList_some, Option.toList_none, List.cons_append, List.nil_append, List.map_cons, List.map_nil, List.sum_cons, List.sum_nil, Value.category, wn2_i, wn2_r, wn2_n, Option.isSome_some, List.getElem?_cons_zero, List.getElem?_cons_succ, nI_add, nI_rem2, if_true]
  exact next h2 _ ⟨hc1.off ho2, hm2, gi_ro_uses hg, by rw [ho2.1, ho1.1]; exact hl⟩
theorem law_21 (hI : INV h S) (hi : i + 5 ≤ sc.length) (hn : sc.length ≤ 2560) (next : ∀ h1 S1, INV h1 S1 → WP sc 134 840 [some (.float 0), some (.ref 0), some (.ref 97), some (.int (nI i))] [] h1 Q) : WP sc 134 695 [some (.float 0), some (.ref 0), some (.ref 97), some (.int (nI i))] [] h Q := by
  obtain ⟨hc, hm, hg, hl⟩ := hI
  have i0 := hc.is
  simp (disch := first | assumption | exact wn2_i | exact wn2_r | exact wn2_n | exact Nat.le_of_ble_eq_true rfl | omega | (refine nI_z ?_ ?_ <;> omega)) only [s134_695, s134_696, s134_697, s134_698, s134_699, s134_700, s134_701, s134_702, s134_703, s134_704, s134_705, s134_706, s134_707, s134_708, s134_709, s134_710, s134_711, s134_712, s134_713, s134_714, s134_715, s134_716, wX_some, Option.toList_some, Option.toList_none, List.cons_append, List.nil_append, List.map_cons, List.map_nil, List.sum_cons, List.sum_nil, Value.category, wn2_i, wn2_r, wn2_n, Option.isSome_some, List.getElem?_cons_zero, List.getElem?_cons_succ, nI_add, nI_rem2, iat_n]
  refine c_likely hc hg (fun h1 hc1 ho1 => ?_)
  have hm1 := hm.off ho1
  have i1 := hm1.is
  simp (disch := first | assumption | exact wn2_i | exact wn2_r | exact wn2_n | exact Nat.le_of_ble_eq_true rfl | omega | (refine nI_z ?_ ?_ <;> omega)) only [s134_719, s134_720, s134_721, s134_722, s134_723, s134_724, s134_725, s134_726, s134_727, s134_728, s134_729, s134_730, s134_731, s134_732, s134_733, s134_734, s134_735, s134_736, s134_737, s134_738, s134_739, s134_740, wX_some, Option.toList_some, Option.toList_none, List.cons_append, List.nil_append, List.map_cons, List.map_nil, List.sum_cons, List.sum_nil, Value.category, wn2_i, wn2_r, wn2_n, Option.isSome_some, List.getElem?_cons_zero, List.getElem?_cons_succ, nI_add, nI_rem2, iat_n]
  refine m_likely hm1 hg (fun h2 hm2 ho2 => ?_)
  simp (disch := first | assumption | exact wn2_i | exact wn2_r | exact wn2_n | exact Nat.le_of_ble_eq_true rfl | omega | (refine nI_z ?_ ?_ <;> omega)) only [s134_743, wX_some, Option.toList_some, Option.toList_none, List.cons_append, List.nil_append, List.map_cons, List.map_nil, List.sum_cons, List.sum_nil, Value.category, wn2_i, wn2_r, wn2_n, Option.isSome_some, List.getElem?_cons_zero, List.getElem?_cons_succ, nI_add, nI_rem2, if_true]
  exact next h2 _ ⟨hc1.off ho2, hm2, gi_ro_likely hg, by rw [ho2.1, ho1.1]; exact hl⟩
theorem law_22 (hI : INV h S) (hi : i + 5 ≤ sc.length) (hn : sc.length ≤ 2560) (next : ∀ h1 S1, INV h1 S1 → WP sc 134 840 [some (.float 0), some (.ref 0), some (.ref 97), some (.int (nI i))] [] h1 Q) : WP sc 134 748 [some (.float 0), some (.ref 0), some (.ref 97), some (.int (nI i))] [] h Q := by
  obtain ⟨hc, hm, hg, hl⟩ := hI
  have i0 := hc.is
  simp (disch := first | assumption | exact wn2_i | exact wn2_r | exact wn2_n | exact Nat.le_of_ble_eq_true rfl | omega | (refine nI_z ?_ ?_ <;> omega)) only [s134_748, s134_749, s134_750, s134_751, s134_752, s134_753, s134_754, s134_755, s134_756, s134_757, s134_758, s134_759, s134_760, s134_761, s134_762, s134_763, s134_764, wX_some, Option.toList_some, Option.toList_none, List.cons_append, List.nil_append, List.map_cons, List.map_nil, List.sum_cons, List.sum_nil, Value.category, wn2_i, wn2_r, wn2_n, Option.isSome_some, List.getElem?_cons_zero, List.getElem?_cons_succ, nI_add, nI_rem2, iat_n]
  refine c_decade hc hg (fun h1 hc1 ho1 => ?_)
  have hm1 := hm.off ho1
  have i1 := hm1.is
  simp (disch := first | assumption | exact wn2_i | exact wn2_r | exact wn2_n | exact Nat.le_of_ble_eq_true rfl | omega | (refine nI_z ?_ ?_ <;> omega)) only [s134_767, s134_768, s134_769, s134_770, s134_771, s134_772, s134_773, s134_774, s134_775, s134_776, s134_777, s134_778, s134_779, s134_780, s134_781, s134_782, s134_783, wX_some, Option.toList_some, Option.toList_none, List.cons_append, List.nil_append, List.map_cons, List.map_nil, List.sum_cons, List.sum_nil, Value.category, wn2_i, wn2_r, wn2_n, Option.isSome_some, List.getElem?_cons_zero, List.getElem?_cons_succ, nI_add, nI_rem2, iat_n]
  refine m_decade hm1 hg (fun h2 hm2 ho2 => ?_)
  simp (disch := first | assumption | exact wn2_i | exact wn2_r | exact wn2_n | exact Nat.le_of_ble_eq_true rfl | omega | (refine nI_z ?_ ?_ <;> omega)) only [s134_786, wX_some, Option.toList_some, Option.toList_none, List.cons_append, List.nil_append, List.map_cons, List.map_nil, List.sum_cons, List.sum_nil, Value.category, wn2_i, wn2_r, wn2_n, Option.isSome_some, List.getElem?_cons_zero, List.getElem?_cons_succ, nI_add, nI_rem2, if_true]
  exact next h2 _ ⟨hc1.off ho2, hm2, gi_ro_decade hg, by rw [ho2.1, ho1.1]; exact hl⟩
theorem law_23 (hI : INV h S) (hi : i + 5 ≤ sc.length) (hn : sc.length ≤ 2560) (next : ∀ h1 S1, INV h1 S1 → WP sc 134 840 [some (.float 0), some (.ref 0), some (.ref 97), some (.int (nI i))] [] h1 Q) : WP sc 134 791 [some (.float 0), some (.ref 0), some (.ref 97), some (.int (nI i))] [] h Q := by
  obtain ⟨hc, hm, hg, hl⟩ := hI
  have i0 := hc.is
  simp (disch := first | assumption | exact wn2_i | exact wn2_r | exact wn2_n | exact Nat.le_of_ble_eq_true rfl | omega | (refine nI_z ?_ ?_ <;> omega)) only [s134_791, s134_792, wX_some, Option.toList_some, Option.toList_none, List.cons_append, List.nil_append, List.map_cons, List.map_nil, List.sum_cons, List.sum_nil, Value.category, wn2_i, wn2_r, wn2_n, Option.isSome_some, List.getElem?_cons_zero, List.getElem?_cons_succ, nI_add, nI_rem2, iat_n]
  refine c_keep hc hg (fun h1 hc1 ho1 => ?_)
  have hm1 := hm.off ho1
  have i1 := hm1.is
  simp (disch := first | assumption | exact wn2_i | exact wn2_r | exact wn2_n | exact Nat.le_of_ble_eq_true rfl | omega | (refine nI_z ?_ ?_ <;> omega)) only [s134_795, s134_796, wX_some, Option.toList_some, Option.toList_none, List.cons_append, List.nil_append, List.map_cons, List.map_nil, List.sum_cons, List.sum_nil, Value.category, wn2_i, wn2_r, wn2_n, Option.isSome_some, List.getElem?_cons_zero, List.getElem?_cons_succ, nI_add, nI_rem2, iat_n]
  refine m_keep hm1 hg (fun h2 hm2 ho2 => ?_)
  simp (disch := first | assumption | exact wn2_i | exact wn2_r | exact wn2_n | exact Nat.le_of_ble_eq_true rfl | omega | (refine nI_z ?_ ?_ <;> omega)) only [s134_799, wX_some, Option.toList_some, Option.toList_none, List.cons_append, List.nil_append, List.map_cons, List.map_nil, List.sum_cons, List.sum_nil, Value.category, wn2_i, wn2_r, wn2_n, Option.isSome_some, List.getElem?_cons_zero, List.getElem?_cons_succ, nI_add, nI_rem2, if_true]
  exact next h2 _ ⟨hc1.off ho2, hm2, gi_keep hg, by rw [ho2.1, ho1.1]; exact hl⟩
theorem law_24 (hI : INV h S) (hi : i + 5 ≤ sc.length) (hn : sc.length ≤ 2560) (next : ∀ h1 S1, INV h1 S1 → WP sc 134 840 [some (.float 0), some (.ref 0), some (.ref 97), some (.int (nI i))] [] h1 Q) : WP sc 134 804 [some (.float 0), some (.ref 0), some (.ref 97), some (.int (nI i))] [] h Q := by
  obtain ⟨hc, hm, hg, hl⟩ := hI
  have i0 := hc.is
  simp (disch := first | assumption | exact wn2_i | exact wn2_r | exact wn2_n | exact Nat.le_of_ble_eq_true rfl | omega | (refine nI_z ?_ ?_ <;> omega)) only [s134_804, s134_805, wX_some, Option.toList_some, Option.toList_none, List.cons_append, List.nil_append, List.map_cons, List.map_nil, List.sum_cons, List.sum_nil, Value.category, wn2_i, wn2_r, wn2_n, Option.isSome_some, List.getElem?_cons_zero, List.getElem?_cons_succ, nI_add, nI_rem2, iat_n]
  refine c_back hc hg (fun h1 hc1 ho1 => ?_)
  have hm1 := hm.off ho1
  have i1 := hm1.is
  simp (disch := first | assumption | exact wn2_i | exact wn2_r | exact wn2_n | exact Nat.le_of_ble_eq_true rfl | omega | (refine nI_z ?_ ?_ <;> omega)) only [s134_808, s134_809, wX_some, Option.toList_some, Option.toList_none, List.cons_append, List.nil_append, List.map_cons, List.map_nil, List.sum_cons, List.sum_nil, Value.category, wn2_i, wn2_r, wn2_n, Option.isSome_some, List.getElem?_cons_zero, List.getElem?_cons_succ, nI_add, nI_rem2, iat_n]
  refine m_back hm1 hg (fun h2 hm2 ho2 => ?_)
  simp (disch := first | assumption | exact wn2_i | exact wn2_r | exact wn2_n | exact Nat.le_of_ble_eq_true rfl | omega | (refine nI_z ?_ ?_ <;> omega)) only [s134_812, wX_some, Option.toList_some, Option.toList_none, List.cons_append, List.nil_append, List.map_cons, List.map_nil, List.sum_cons, List.sum_nil, Value.category, wn2_i, wn2_r, wn2_n, Option.isSome_some, List.getElem?_cons_zero, List.getElem?_cons_succ, nI_add, nI_rem2, if_true]
  exact next h2 _ ⟨hc1.off ho2, hm2, gi_back hg, by rw [ho2.1, ho1.1]; exact hl⟩
theorem law_25 (hI : INV h S) (hi : i + 5 ≤ sc.length) (hn : sc.length ≤ 2560) (next : ∀ h1 S1, INV h1 S1 → WP sc 134 840 [some (.float 0), some (.ref 0), some (.ref 97), some (.int (nI i))] [] h1 Q) : WP sc 134 817 [some (.float 0), some (.ref 0), some (.ref 97), some (.int (nI i))] [] h Q := by
  obtain ⟨hc, hm, hg, hl⟩ := hI
  have i0 := hc.is
  simp (disch := first | assumption | exact wn2_i | exact wn2_r | exact wn2_n | exact Nat.le_of_ble_eq_true rfl | omega | (refine nI_z ?_ ?_ <;> omega)) only [s134_817, s134_818, s134_819, s134_820, s134_821, s134_822, s134_823, wX_some, Option.toList_some, Option.toList_none, List.cons_append, List.nil_append, List.map_cons, List.map_nil, List.sum_cons, List.sum_nil, Value.category, wn2_i, wn2_r, wn2_n, Option.isSome_some, List.getElem?_cons_zero, List.getElem?_cons_succ, nI_add, nI_rem2, iat_n]
  refine c_count hc hg (fun h1 hc1 ho1 => ?_)
  have hm1 := hm.off ho1
  have i1 := hm1.is
  simp (disch := first | assumption | exact wn2_i | exact wn2_r | exact wn2_n | exact Nat.le_of_ble_eq_true rfl | omega | (refine nI_z ?_ ?_ <;> omega)) only [s134_826, s134_827, s134_828, s134_829, s134_830, s134_831, s134_832, wX_some, Option.toList_some, Option.toList_none, List.cons_append, List.nil_append, List.map_cons, List.map_nil, List.sum_cons, List.sum_nil, Value.category, wn2_i, wn2_r, wn2_n, Option.isSome_some, List.getElem?_cons_zero, List.getElem?_cons_succ, nI_add, nI_rem2, iat_n]
  refine m_count hm1 hg (fun h2 hm2 ho2 => ?_)
  simp (disch := first | assumption | exact wn2_i | exact wn2_r | exact wn2_n | exact Nat.le_of_ble_eq_true rfl | omega | (refine nI_z ?_ ?_ <;> omega)) only [s134_835, wX_some, Option.toList_some, Option.toList_none, List.cons_append, List.nil_append, List.map_cons, List.map_nil, List.sum_cons, List.sum_nil, Value.category, wn2_i, wn2_r, wn2_n, Option.isSome_some, List.getElem?_cons_zero, List.getElem?_cons_succ, nI_add, nI_rem2, if_true]
  exact next h2 _ ⟨hc1.off ho2, hm2, gi_ro_count hg, by rw [ho2.1, ho1.1]; exact hl⟩
end LAWC

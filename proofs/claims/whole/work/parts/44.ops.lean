-- MayorsChair's calls: lay, pass, mud
section CLAY
variable {sc : List Int32} {h : List ms_C} {Q : Option Value → List ms_C → Prop} {S : GS}
theorem c_lay (hc : CIS h S) (hg : GIS S) (k : ∀ h1, CIS h1 (op_lay S).2 → Off h h1 0 97 → Q (some (.int (op_lay S).1)) h1) : WP sc 47 0 [some (.ref 0)] [] h Q := by
  obtain ⟨⟨T, m⟩, A, U, K, L⟩ := S
  have lay := cLay
  have hc : CI h T m A U K L := hc
  have hg : GI m A U K L := hg
  have hm200 : m ≤ 200 := hg.1
  have hc0 := hc
  obtain ⟨g5, i0, iS, iT, iR, iP, iK, iG, iO⟩ := CI.facts hc
  obtain ⟨h0, ⟨p, hs⟩, hT, hR, hP, hK, hG, ⟨t, be, htb, hO⟩⟩ := hc
  unfold op_lay at k
  dsimp only at k
  have hrg := rdF_rg (T := T) (m := m) 200 emA 0 RG.em
  have hlt : ∀ v, (rdF T m 200 emA 0).1 = some v → v < 2 ^ 31 := fun v hv => by have := rdF_lt 200 emA 0 v hv; omega
  simp (disch := first | assumption | exact wn2_i | exact wn2_r | exact wn2_n | exact Nat.le_of_ble_eq_true rfl | omega | (refine nI_z ?_ ?_ <;> omega)) only [s47_0, s47_1, s47_4, s47_5, s47_8, wX_some, Option.toList_some, Option.toList_none, List.cons_append, List.nil_append, List.map_cons, List.map_nil, List.sum_cons, List.sum_nil, Value.category, wn2_i, wn2_r, wn2_n, Option.isSome_some, List.getElem?_cons_zero, List.getElem?_cons_succ, nI_add, nI_rem2, g5]
  refine readInto_wp hs hR (by omega) (fun h1 p1 hs1 hR1 hx => ?_)
  have hc1 := CI.scroll hc0 hs1 hR1 hx
  have ho1 : Off h h1 0 97 := hx.off (fun i hi => by omega)
  revert hR1 hrg hlt k
  generalize rdF T m 200 emA 0 = R
  intro k hrg hlt hR1
  obtain ⟨o, E⟩ := R
  dsimp only at k hrg hlt hR1
  obtain ⟨g5, i0, iS, iT, iR, iP, iK, iG, iO⟩ := CI.facts hc1
  obtain ⟨r1, r2, r3, r4, r5, r6, r7⟩ := hrg
  obtain ⟨kd, we, us, di, st, wo, hgR, hi, hI, -⟩ := hR1.facts
  have hfo := fO_eq hlt
  by_cases hn : o = none ∧ 2 ≤ E 7 0 ∧ 1 ≤ E 7 1
  · obtain ⟨n1, n2, n3⟩ := hn
    rw [if_pos ⟨n1, n2, n3⟩] at k
    have e1 : (fO o = -4) ↔ True := ⟨fun _ => trivial, fun _ => hfo.mpr n1⟩
    have e2 : ¬ nI (E 7 0) < nI 2 := nI_nlt n2 (by omega)
    have e3 : nI 1 ≤ nI (E 7 1) := nI_le n3 (by omega)
    simp (disch := first | assumption | exact wn2_i | exact wn2_r | exact wn2_n | exact Nat.le_of_ble_eq_true rfl | omega | (refine nI_z ?_ ?_ <;> omega)) only [s47_11, s47_13, s47_16, s47_17, s47_20, s47_23, s47_24, s47_27, s47_28, s47_31, s47_34, s47_35, s47_38, s47_40, s47_41, s47_42, s47_45, s47_46, s47_49, wX_some, Option.toList_some, Option.toList_none, List.cons_append, List.nil_append, List.map_cons, List.map_nil, List.sum_cons, List.sum_nil, Value.category, wn2_i, wn2_r, wn2_n, Option.isSome_some, List.getElem?_cons_zero, List.getElem?_cons_succ, nI_add, nI_rem2, e1, e2, e3, if_true, if_false, g5, hgR]
    have hT1 := hc1.2.2.1
    refine become_wp hT1 hR1 (by omega) r1 r2 (fun h2 hT2 ho2 => ?_)
    obtain ⟨x0, ⟨x1p, x1⟩, x2, x3, x4, x5, x6, ⟨x7t, x7b, x7, x8⟩⟩ := hc1
    have hx2 : OffX h1 h2 (fun i => cT ≤ i ∧ i < cT + 7) := ho2.x (fun i x1 x2 => ⟨x1, x2⟩)
    have y0 : h2[0]? = some (ms_obj 5 MC0) := (ho2.2 0 (by omega)).trans x0
    have y1 := x1.offX hx2 (fun i x1 x2 => by omega)
    have y3 := hR1.off ho2 (by omega)
    have y4 := x4.offX hx2 (fun i x1 x2 => by omega)
    have y5 := x5.offX hx2 (fun i x1 x2 => by omega)
    have y6 := x6.offX hx2 (fun i x1 x2 => by omega)
    have y8 := x8.offX hx2 (fun i x1 x2 => by omega)
    have ip := i_obj y4.obj
    have ik := i_obj y5.obj
    have y6' := y6
    obtain ⟨qs, ps, s0, -⟩ := y6'
    have ig := i_obj s0
    have gg := g_obj y0
    obtain ⟨_, _, _, _, _, _, hgT, -⟩ := hT2.facts
    have a1 : ¬ cP = 0 := by omega
    have a2 : ¬ cK = 0 := by omega
    have a3 : ¬ cG = 0 := by omega
    have a4 : ¬ cP = cK := by omega
    have a5 : ¬ cP = cG := by omega
    have a6 : ¬ cK = cG := by omega
    have a7 : ¬ cP = cT := by omega
    have a8 : ¬ cK = cT := by omega
    have a9 : ¬ cG = cT := by omega
    simp (disch := first | assumption | exact wn2_i | exact wn2_r | exact wn2_n | exact Nat.le_of_ble_eq_true rfl | omega | (refine nI_z ?_ ?_ <;> omega)) only [s47_52, s47_53, s47_56, s47_57, s47_60, s47_61, s47_64, s47_65, s47_68, s47_69, s47_72, s47_73, s47_76, s47_77, s47_80, s47_83, wX_some, Option.toList_some, Option.toList_none, List.cons_append, List.nil_append, List.map_cons, List.map_nil, List.sum_cons, List.sum_nil, Value.category, wn2_i, wn2_r, wn2_n, Option.isSome_some, List.getElem?_cons_zero, List.getElem?_cons_succ, nI_add, nI_rem2, gg, ip, ik, ig, g_ne, i_ne, ne_eq, a1, a2, a3, a4, a5, a6, a7, a8, a9, not_false_eq_true, hgT, List.set_cons_succ, List.set_cons_zero, List.length_cons, List.length_nil, Nat.reduceAdd, Nat.reduceLT, true_and]
    have z4 := y4.zero
    have oA : OffX h2 (h2.set cP (ms_obj 1 [.ref (cP + 1), .int (nI 0)])) (fun i => i = cP ∨ i = cK ∨ i = cG) := OffX.rf.st (Or.inl rfl)
    have oB : OffX (h2.set cP (ms_obj 1 [.ref (cP + 1), .int (nI 0)])) ((h2.set cP (ms_obj 1 [.ref (cP + 1), .int (nI 0)])).set cK (ms_obj 1 [.ref (cK + 1), .int (nI 0)])) (fun i => i = cK ∨ i = cG) := OffX.rf.st (Or.inl rfl)
    have oC : OffX ((h2.set cP (ms_obj 1 [.ref (cP + 1), .int (nI 0)])).set cK (ms_obj 1 [.ref (cK + 1), .int (nI 0)])) (((h2.set cP (ms_obj 1 [.ref (cP + 1), .int (nI 0)])).set cK (ms_obj 1 [.ref (cK + 1), .int (nI 0)])).set cG (ms_obj 3 [.ref (cG + 1), .ref (cG + 2), .int (nI 0)])) (fun i => i = cG) := OffX.rf.st rfl
    have w5 : PA (h2.set cP (ms_obj 1 [.ref (cP + 1), .int (nI 0)])) cK 2 K := y5.offX (P := fun i => i = cP) (OffX.rf.st rfl) (fun i x1 x2 => by omega)
    have z5 := w5.zero
    have w6 : GA ((h2.set cP (ms_obj 1 [.ref (cP + 1), .int (nI 0)])).set cK (ms_obj 1 [.ref (cK + 1), .int (nI 0)])) cG L := y6.offX (P := fun i => i = cP ∨ i = cK) ((OffX.rf.st (Or.inl rfl)).st (Or.inr rfl)) (fun i x1 x2 => by omega)
    have z6 := w6.zero
    have oBC := oB.tr ⟨oC.1, fun i hi => oC.2 i (fun e => hi (Or.inr e))⟩
    have oAll : OffX h2 (((h2.set cP (ms_obj 1 [.ref (cP + 1), .int (nI 0)])).set cK (ms_obj 1 [.ref (cK + 1), .int (nI 0)])).set cG (ms_obj 3 [.ref (cG + 1), .ref (cG + 2), .int (nI 0)])) (fun i => i = cP ∨ i = cK ∨ i = cG) := oA.tr ⟨oBC.1, fun i hi => oBC.2 i (fun e => hi (Or.inr e))⟩
    refine k _ ⟨(oAll.2 0 (by omega)).trans y0, ⟨x1p, y1.offX oAll (fun i x1 x2 => by omega)⟩, hT2.offX oAll (fun i x1 x2 => by omega), ⟨_, y3.offX oAll (fun i x1 x2 => by omega)⟩, z4.offX oBC (fun i x1 x2 => by omega), z5.offX oC (fun i x1 x2 => by omega), z6, ⟨x7t, x7b, x7, y8.offX oAll (fun i x1 x2 => by omega)⟩⟩ ?_
    exact (ho1.tr (ho2.wide (by omega) (by omega))).tr (oAll.off (fun i hi => by omega))
  · rw [if_neg hn] at k
    by_cases e1 : fO o = -4
    · have n1 := hfo.mp e1
      by_cases n2 : E 7 0 < 2
      · have e2 : nI (E 7 0) < nI 2 := nI_lt n2 (by omega)
        have e1' : (fO o = -4) ↔ True := ⟨fun _ => trivial, fun _ => e1⟩
        simp (disch := first | assumption | exact wn2_i | exact wn2_r | exact wn2_n | exact Nat.le_of_ble_eq_true rfl | omega | (refine nI_z ?_ ?_ <;> omega)) only [s47_11, s47_13, s47_16, s47_17, s47_20, s47_23, s47_24, s47_27, s47_28, s47_31, s47_34, s47_35, s47_38, s47_40, wX_some, Option.toList_some, Option.toList_none, List.cons_append, List.nil_append, List.map_cons, List.map_nil, List.sum_cons, List.sum_nil, Value.category, wn2_i, wn2_r, wn2_n, Option.isSome_some, List.getElem?_cons_zero, List.getElem?_cons_succ, nI_add, nI_rem2, e1', e2, if_true, g5, hgR]
        exact k h1 hc1 ho1
      · have e2 : ¬ nI (E 7 0) < nI 2 := nI_nlt (by omega) (by omega)
        have n3 : E 7 1 = 0 := by
          by_cases h3 : 1 ≤ E 7 1
          · exact absurd ⟨n1, by omega, h3⟩ hn
          · omega
        have e3 : ¬ nI 1 ≤ nI (E 7 1) := nI_ge (by omega) (by omega)
        have e1' : (fO o = -4) ↔ True := ⟨fun _ => trivial, fun _ => e1⟩
        simp (disch := first | assumption | exact wn2_i | exact wn2_r | exact wn2_n | exact Nat.le_of_ble_eq_true rfl | omega | (refine nI_z ?_ ?_ <;> omega)) only [s47_11, s47_13, s47_16, s47_17, s47_20, s47_23, s47_24, s47_27, s47_28, s47_31, s47_34, s47_35, s47_38, s47_40, wX_some, Option.toList_some, Option.toList_none, List.cons_append, List.nil_append, List.map_cons, List.map_nil, List.sum_cons, List.sum_nil, Value.category, wn2_i, wn2_r, wn2_n, Option.isSome_some, List.getElem?_cons_zero, List.getElem?_cons_succ, nI_add, nI_rem2, e1', e2, e3, if_true, if_false, g5, hgR]
        exact k h1 hc1 ho1
    · simp (disch := first | assumption | exact wn2_i | exact wn2_r | exact wn2_n | exact Nat.le_of_ble_eq_true rfl | omega | (refine nI_z ?_ ?_ <;> omega)) only [s47_11, s47_13, s47_16, s47_17, s47_20, s47_23, s47_24, s47_27, s47_28, s47_31, s47_34, s47_35, s47_38, s47_40, wX_some, Option.toList_some, Option.toList_none, List.cons_append, List.nil_append, List.map_cons, List.map_nil, List.sum_cons, List.sum_nil, Value.category, wn2_i, wn2_r, wn2_n, Option.isSome_some, List.getElem?_cons_zero, List.getElem?_cons_succ, nI_add, nI_rem2, e1, if_false]
      exact k h1 hc1 ho1
end CLAY

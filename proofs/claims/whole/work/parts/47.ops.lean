-- MayorsChair's calls: change, keep, back
def op_keep (S : GS) : OPR := if S.2.2.2.1.length < 2 then (nI (S.2.2.2.1.length + 1), (S.1, S.2.1, S.2.2.1, S.2.2.2.1 ++ [S.2.1], S.2.2.2.2)) else (-3, S)
def op_back (S : GS) : OPR := match S.2.2.2.1.getLast? with
  | none => (-2, S)
  | some B => (nI (S.2.2.2.1.length - 1), (S.1, B, [], S.2.2.2.1.dropLast, S.2.2.2.2))
section CACT3
variable {sc : List Int32} {h : List ms_C} {Q : Option Value → List ms_C → Prop} {S : GS}
theorem c_change (hc : CIS h S) (hg : GIS S) {a b : Int32} {l3 : Option Value} (k : ∀ h1, CIS h1 (op_change a b S).2 → Off h h1 0 97 → Q (some (.int (op_change a b S).1)) h1) : WP sc 53 0 [some (.ref 0), some (.int a), some (.int b), l3] [] h Q := by
  obtain ⟨⟨T, m⟩, A, U, K, L⟩ := S
  have lay := cLay
  have hc : CI h T m A U K L := hc
  have hg : GI m A U K L := hg
  have hc0 := hc
  obtain ⟨g5, i0, iS, iT, iR, iP, iK, iG, iO⟩ := CI.facts hc
  obtain ⟨-, hAG, hq, -⟩ := hg
  obtain ⟨⟨G1, G2⟩, ⟨G3, G4⟩, G5, G6, G7⟩ := hAG
  have hw := fun Q x => hasWork_rng (sc := sc) (Q := Q) hc.2.2.1 G3 G4 (x := x)
  unfold op_change inW at k
  dsimp only at k
  cases hr : rng 0 (A 7 1 - 1) a with
  | false =>
    rw [hr, Bool.false_and, Bool.false_and, if_neg (by decide)] at k
    simp (disch := first | assumption | exact wn2_i | exact wn2_r | exact wn2_n | exact Nat.le_of_ble_eq_true rfl | omega | (refine nI_z ?_ ?_ <;> omega)) only [s53_0, s53_1, s53_4, s53_5, s53_8, s53_11, s53_12, s53_15, s53_16, s53_19, s53_22, s53_23, s53_24, s53_27, s53_28, s53_29, s53_30, s53_33, s53_34, s53_37, s53_40, s53_41, s53_44, s53_47, s53_48, s53_49, s53_50, s53_51, s53_54, s53_57, s53_58, s53_59, s53_62, s53_65, s53_66, s53_67, s53_68, s53_69, s53_72, s53_75, s53_76, s53_77, s53_78, s53_79, s53_82, s53_85, wX_some, Option.toList_some, Option.toList_none, List.cons_append, List.nil_append, List.map_cons, List.map_nil, List.sum_cons, List.sum_nil, Value.category, wn2_i, wn2_r, wn2_n, Option.isSome_some, List.getElem?_cons_zero, List.getElem?_cons_succ, nI_add, nI_rem2, g5, hw, hr, Bool.false_eq_true, if_false, nI_eq0, if_true]
    exact k h hc0 Off.rf
  | true =>
    cases hr2 : rng 0 (A 7 1 - 1) b with
    | false =>
      rw [hr, hr2, Bool.and_false, Bool.false_and, if_neg (by decide)] at k
      simp (disch := first | assumption | exact wn2_i | exact wn2_r | exact wn2_n | exact Nat.le_of_ble_eq_true rfl | omega | (refine nI_z ?_ ?_ <;> omega)) only [s53_0, s53_1, s53_4, s53_5, s53_8, s53_11, s53_12, s53_15, s53_16, s53_19, s53_22, s53_23, s53_24, s53_27, s53_28, s53_29, s53_30, s53_33, s53_34, s53_37, s53_40, s53_41, s53_44, s53_47, s53_48, s53_49, s53_50, s53_51, s53_54, s53_57, s53_58, s53_59, s53_62, s53_65, s53_66, s53_67, s53_68, s53_69, s53_72, s53_75, s53_76, s53_77, s53_78, s53_79, s53_82, s53_85, wX_some, Option.toList_some, Option.toList_none, List.cons_append, List.nil_append, List.map_cons, List.map_nil, List.sum_cons, List.sum_nil, Value.category, wn2_i, wn2_r, wn2_n, Option.isSome_some, List.getElem?_cons_zero, List.getElem?_cons_succ, nI_add, nI_rem2, g5, hw, hr, hr2, Bool.false_eq_true, if_false, nI_eq0, if_true, Nat.reduceEqDiff]
      exact k h hc0 Off.rf
    | true =>
      by_cases hst : a = b
      · rw [hr, hr2, decide_eq_true hst, Bool.not_true, Bool.and_false, if_neg (by decide)] at k
        subst hst
        simp (disch := first | assumption | exact wn2_i | exact wn2_r | exact wn2_n | exact Nat.le_of_ble_eq_true rfl | omega | (refine nI_z ?_ ?_ <;> omega)) only [s53_0, s53_1, s53_4, s53_5, s53_8, s53_11, s53_12, s53_15, s53_16, s53_19, s53_22, s53_23, s53_24, s53_27, s53_28, s53_29, s53_30, s53_33, s53_34, s53_37, s53_40, s53_41, s53_44, s53_47, s53_48, s53_49, s53_50, s53_51, s53_54, s53_57, s53_58, s53_59, s53_62, s53_65, s53_66, s53_67, s53_68, s53_69, s53_72, s53_75, s53_76, s53_77, s53_78, s53_79, s53_82, s53_85, wX_some, Option.toList_some, Option.toList_none, List.cons_append, List.nil_append, List.map_cons, List.map_nil, List.sum_cons, List.sum_nil, Value.category, wn2_i, wn2_r, wn2_n, Option.isSome_some, List.getElem?_cons_zero, List.getElem?_cons_succ, nI_add, nI_rem2, g5, hw, hr, if_false, nI_eq0, if_true, Nat.reduceEqDiff]
        exact k h hc0 Off.rf
      · rw [hr, hr2, decide_eq_false hst, Bool.not_false, Bool.and_true, Bool.and_true, if_pos rfl] at k
        obtain ⟨i, i1, i2, rfl⟩ := rng_nI (by omega) hr
        obtain ⟨j, j1, j2, rfl⟩ := rng_nI (by omega) hr2
        rw [nat_nI (by omega), nat_nI (by omega)] at k
        have hi : i < A 7 1 := by omega
        have hj : j < A 7 1 := by omega
        simp (disch := first | assumption | exact wn2_i | exact wn2_r | exact wn2_n | exact Nat.le_of_ble_eq_true rfl | omega | (refine nI_z ?_ ?_ <;> omega)) only [s53_0, s53_1, s53_4, s53_5, s53_8, s53_11, s53_12, s53_15, s53_16, s53_19, s53_22, s53_23, s53_24, s53_27, s53_28, s53_29, s53_30, s53_33, s53_34, s53_37, wX_some, Option.toList_some, Option.toList_none, List.cons_append, List.nil_append, List.map_cons, List.map_nil, List.sum_cons, List.sum_nil, Value.category, wn2_i, wn2_r, wn2_n, Option.isSome_some, List.getElem?_cons_zero, List.getElem?_cons_succ, nI_add, nI_rem2, g5, hw, hr, hr2, hst, if_false, nI_eq0, if_true, Nat.reduceEqDiff]
        refine put_wp hc.2.2.2.2.1 (by omega) hc.2.2.1 G2 G4 (by omega) (fun h1 hP1 ho1 => ?_)
        have hc1 := CI.put hc hP1 ho1
        obtain ⟨g5, i0, iS, iT, iR, iP, iK, iG, iO⟩ := CI.facts hc1
        obtain ⟨kd, we, us, di, st, wo, hgT, hi', hI, a1, a2, a3, a4, a5, a6, g1, g2, g3, g4, g5', g6, k1, k2, k3, k4, k5, k6, hlen⟩ := hc1.2.2.1.facts
        have v1 := k6.2 i hi
        have v2 := k6.2 j hj
        have n1 : ¬ cT + 6 = 0 := by omega
        have n2 : ¬ cT + 6 = cT := by omega
        have n3 : cT + 6 < h1.length := by omega
        simp (disch := first | assumption | exact wn2_i | exact wn2_r | exact wn2_n | exact Nat.le_of_ble_eq_true rfl | omega | (refine nI_z ?_ ?_ <;> omega)) only [s53_40, s53_41, s53_44, s53_47, s53_48, s53_49, s53_50, s53_51, s53_54, s53_57, s53_58, s53_59, s53_62, s53_65, s53_66, s53_67, s53_68, s53_69, s53_72, s53_75, s53_76, s53_77, wX_some, Option.toList_some, Option.toList_none, List.cons_append, List.nil_append, List.map_cons, List.map_nil, List.sum_cons, List.sum_nil, Value.category, wn2_i, wn2_r, wn2_n, Option.isSome_some, List.getElem?_cons_zero, List.getElem?_cons_succ, nI_add, nI_rem2, g5, hgT, a6, g6, iat_n, v1, v2, g_ne, a_eq, ne_eq, n1, n2, n3, not_false_eq_true, List.length_set]
        have hT' : TA (h1.set (cT + 6) (ms_ia (wo.set i (nI (A 3 j))))) cT (up2 A 3 i (A 3 j)) := TA.arr (d := 5) hc1.2.2.1 (by omega) (k6.put (by omega))
        have hT2 : TA ((h1.set (cT + 6) (ms_ia (wo.set i (nI (A 3 j))))).set (cT + 6) (ms_ia ((wo.set i (nI (A 3 j))).set j (nI (A 3 i))))) cT (chgA A i j) := TA.arr (d := 5) hT' (by omega) ((k6.put (by omega)).put (by omega))
        have ho2 : Off h1 ((h1.set (cT + 6) (ms_ia (wo.set i (nI (A 3 j))))).set (cT + 6) (ms_ia ((wo.set i (nI (A 3 j))).set j (nI (A 3 i))))) cT 7 := (Off.rf.st (by omega) (by omega)).st (by omega) (by omega)
        generalize (h1.set (cT + 6) (ms_ia (wo.set i (nI (A 3 j))))).set (cT + 6) (ms_ia ((wo.set i (nI (A 3 j))).set j (nI (A 3 i)))) = h2 at hT2 ho2 ⊢
        have hc2 : CI h2 T m (chgA A i j) (psh 8 U A) K L := CI.act hc1 (hP1.offX (ho2.x (P := fun i => cT ≤ i ∧ i < cT + 7) (fun i x1 x2 => ⟨x1, x2⟩)) (fun i x1 x2 => by omega)) hT2 (ho2.x (fun i x1 x2 => Or.inl ⟨x1, x2⟩))
        obtain ⟨g5, i0, iS, iT, iR, iP, iK, iG, iO⟩ := CI.facts hc2
        have hwn := fun Q => worthNow_wp (sc := sc) (Q := Q) (l1 := none) hT2 (show 1 ≤ A 7 1 from G3) (show A 7 1 ≤ 6 from G4) (show A 4 0 ≤ 200000 by omega)
        simp (disch := first | assumption | exact wn2_i | exact wn2_r | exact wn2_n | exact Nat.le_of_ble_eq_true rfl | omega | (refine nI_z ?_ ?_ <;> omega)) only [s53_78, s53_79, s53_82, s53_85, wX_some, Option.toList_some, Option.toList_none, List.cons_append, List.nil_append, List.map_cons, List.map_nil, List.sum_cons, List.sum_nil, Value.category, wn2_i, wn2_r, wn2_n, Option.isSome_some, List.getElem?_cons_zero, List.getElem?_cons_succ, nI_add, nI_rem2, g5, hwn]
        exact k h2 hc2 ((ho1.wide (by omega) (by omega)).tr (ho2.wide (by omega) (by omega)))
theorem c_keep (hc : CIS h S) (hg : GIS S) (k : ∀ h1, CIS h1 (op_keep S).2 → Off h h1 0 97 → Q (some (.int (op_keep S).1)) h1) : WP sc 72 0 [some (.ref 0)] [] h Q := by
  obtain ⟨⟨T, m⟩, A, U, K, L⟩ := S
  have lay := cLay
  have hc : CI h T m A U K L := hc
  have hg : GI m A U K L := hg
  have hc0 := hc
  obtain ⟨g5, i0, iS, iT, iR, iP, iK, iG, iO⟩ := CI.facts hc
  obtain ⟨-, hAG, hq, hU, hK, hUl, hKl, -⟩ := hg
  obtain ⟨⟨G1, G2⟩, ⟨G3, G4⟩, G5, G6, G7⟩ := hAG
  have hgp := g_obj hc.2.2.2.2.2.1.obj
  unfold op_keep at k
  dsimp only at k
  by_cases hl : K.length < 2
  · rw [if_pos hl] at k
    have e1 : nI K.length < nI 2 := nI_lt hl (by omega)
    simp (disch := first | assumption | exact wn2_i | exact wn2_r | exact wn2_n | exact Nat.le_of_ble_eq_true rfl | omega | (refine nI_z ?_ ?_ <;> omega)) only [s72_0, s72_1, s72_4, s72_7, s72_8, s72_11, s72_13, s72_14, s72_15, s72_18, s72_19, s72_22, wX_some, Option.toList_some, Option.toList_none, List.cons_append, List.nil_append, List.map_cons, List.map_nil, List.sum_cons, List.sum_nil, Value.category, wn2_i, wn2_r, wn2_n, Option.isSome_some, List.getElem?_cons_zero, List.getElem?_cons_succ, nI_add, nI_rem2, g5, hgp, e1, if_true]
    refine put_wp hc.2.2.2.2.2.1 (by omega) hc.2.2.1 G2 G4 (by omega) (fun h1 hK1 ho1 => ?_)
    have e2 : psh 2 K A = K ++ [A] := by unfold psh; rw [if_pos hl]
    rw [e2] at hK1
    have hx : OffX h h1 (fun i => cK ≤ i ∧ i < cK + 16) := ho1.x (fun i x1 x2 => ⟨x1, by omega⟩)
    obtain ⟨h0, ⟨p', hs⟩, hT, ⟨B', hR⟩, hP, hK', hG, ⟨t, be, htb, hO⟩⟩ := hc
    have hc1 : CI h1 T m A U (K ++ [A]) L := ⟨(hx.2 0 (by omega)).trans h0, ⟨p', hs.offX hx (fun i x1 x2 => by omega)⟩, hT.offX hx (fun i x1 x2 => by omega), ⟨B', hR.offX hx (fun i x1 x2 => by omega)⟩, hP.offX hx (fun i x1 x2 => by omega), hK1, hG.offX hx (fun i x1 x2 => by omega), ⟨t, be, htb, hO.offX hx (fun i x1 x2 => by omega)⟩⟩
    obtain ⟨g5, -⟩ := CI.facts hc1
    have hgp := g_obj hK1.obj
    have hll : (K ++ [A]).length = K.length + 1 := by simp
    rw [hll] at hgp
    simp (disch := first | assumption | exact wn2_i | exact wn2_r | exact wn2_n | exact Nat.le_of_ble_eq_true rfl | omega | (refine nI_z ?_ ?_ <;> omega)) only [s72_25, s72_26, s72_29, s72_32, wX_some, Option.toList_some, Option.toList_none, List.cons_append, List.nil_append, List.map_cons, List.map_nil, List.sum_cons, List.sum_nil, Value.category, wn2_i, wn2_r, wn2_n, Option.isSome_some, List.getElem?_cons_zero, List.getElem?_cons_succ, nI_add, nI_rem2, g5, hgp]
    exact k h1 hc1 (ho1.wide (by omega) (by omega))
  · rw [if_neg hl] at k
    have e1 : ¬ nI K.length < nI 2 := nI_nlt (by omega) (by omega)
    simp (disch := first | assumption | exact wn2_i | exact wn2_r | exact wn2_n | exact Nat.le_of_ble_eq_true rfl | omega | (refine nI_z ?_ ?_ <;> omega)) only [s72_0, s72_1, s72_4, s72_7, s72_8, s72_11, s72_13, wX_some, Option.toList_some, Option.toList_none, List.cons_append, List.nil_append, List.map_cons, List.map_nil, List.sum_cons, List.sum_nil, Value.category, wn2_i, wn2_r, wn2_n, Option.isSome_some, List.getElem?_cons_zero, List.getElem?_cons_succ, nI_add, nI_rem2, g5, hgp, e1, if_false]
    exact k h hc0 Off.rf
theorem c_back (hc : CIS h S) (hg : GIS S) (k : ∀ h1, CIS h1 (op_back S).2 → Off h h1 0 97 → Q (some (.int (op_back S).1)) h1) : WP sc 73 0 [some (.ref 0)] [] h Q := by
  obtain ⟨⟨T, m⟩, A, U, K, L⟩ := S
  have lay := cLay
  have hc : CI h T m A U K L := hc
  have hg : GI m A U K L := hg
  have hc0 := hc
  obtain ⟨g5, i0, iS, iT, iR, iP, iK, iG, iO⟩ := CI.facts hc
  obtain ⟨-, hAG, hq, hU, hK, -⟩ := hg
  unfold op_back at k
  dsimp only at k
  simp (disch := first | assumption | exact wn2_i | exact wn2_r | exact wn2_n | exact Nat.le_of_ble_eq_true rfl | omega | (refine nI_z ?_ ?_ <;> omega)) only [s73_0, s73_1, s73_4, s73_5, s73_8, wX_some, Option.toList_some, Option.toList_none, List.cons_append, List.nil_append, List.map_cons, List.map_nil, List.sum_cons, List.sum_nil, Value.category, wn2_i, wn2_r, wn2_n, Option.isSome_some, List.getElem?_cons_zero, List.getElem?_cons_succ, nI_add, nI_rem2, g5]
  refine takeInto_wp hc.2.2.2.2.2.1 (by omega) ⟨A, hc.2.2.1⟩ (by omega) (fun B hB => by have := (hK B hB).1; exact ⟨this.1.2, this.2.1.2⟩) (fun he => ?_) (fun h1 B hB hT1 hK1 hx => ?_)
  · subst he
    simp (disch := first | assumption | exact wn2_i | exact wn2_r | exact wn2_n | exact Nat.le_of_ble_eq_true rfl | omega | (refine nI_z ?_ ?_ <;> omega)) only [s73_11, s73_14, s73_16, wX_some, Option.toList_some, Option.toList_none, List.cons_append, List.nil_append, List.map_cons, List.map_nil, List.sum_cons, List.sum_nil, Value.category, wn2_i, wn2_r, wn2_n, Option.isSome_some, List.getElem?_cons_zero, List.getElem?_cons_succ, nI_add, nI_rem2, nI_eq0, if_true]
    exact k h hc0 Off.rf
  · rw [hB] at k
    obtain ⟨h0, ⟨p', hs⟩, hT, ⟨B', hR⟩, hP, hK', hG, ⟨t, be, htb, hO⟩⟩ := hc
    have hc1 : CI h1 T m B U K.dropLast L := ⟨(hx.2 0 (by omega)).trans h0, ⟨p', hs.offX hx (fun i x1 x2 => by omega)⟩, hT1, ⟨B', hR.offX hx (fun i x1 x2 => by omega)⟩, hP.offX hx (fun i x1 x2 => by omega), hK1, hG.offX hx (fun i x1 x2 => by omega), ⟨t, be, htb, hO.offX hx (fun i x1 x2 => by omega)⟩⟩
    obtain ⟨g5, -⟩ := CI.facts hc1
    obtain ⟨y0, ⟨p2, ys⟩, yT, ⟨B2, yR⟩, yP, yK, yG, ⟨t2, be2, ytb, yO⟩⟩ := hc1
    have ip := i_obj yP.obj
    have hgp := g_obj hK1.obj
    have hl : K.dropLast.length = K.length - 1 := List.length_dropLast
    rw [hl] at hgp
    have a1 : ¬ cP = 0 := by omega
    have a2 : ¬ cP = cK := by omega
    simp (disch := first | assumption | exact wn2_i | exact wn2_r | exact wn2_n | exact Nat.le_of_ble_eq_true rfl | omega | (refine nI_z ?_ ?_ <;> omega)) only [s73_11, s73_14, s73_16, s73_17, s73_18, s73_21, s73_22, s73_25, s73_26, s73_29, s73_32, wX_some, Option.toList_some, Option.toList_none, List.cons_append, List.nil_append, List.map_cons, List.map_nil, List.sum_cons, List.sum_nil, Value.category, wn2_i, wn2_r, wn2_n, Option.isSome_some, List.getElem?_cons_zero, List.getElem?_cons_succ, nI_add, nI_rem2, nI_eq0, if_false, Nat.reduceEqDiff, g5, ip, g_ne, ne_eq, a1, a2, not_false_eq_true, hgp, List.set_cons_succ, List.set_cons_zero, List.length_cons, List.length_nil, Nat.reduceAdd, Nat.reduceLT, true_and]
    have z4 := yP.zero
    have oA : OffX h1 (h1.set cP (ms_obj 1 [.ref (cP + 1), .int (nI 0)])) (fun i => i = cP) := OffX.rf.st rfl
    refine k _ ⟨(oA.2 0 (by omega)).trans y0, ⟨p2, ys.offX oA (fun i x1 x2 => by omega)⟩, yT.offX oA (fun i x1 x2 => by omega), ⟨B2, yR.offX oA (fun i x1 x2 => by omega)⟩, z4, yK.offX oA (fun i x1 x2 => by omega), yG.offX oA (fun i x1 x2 => by omega), ⟨t2, be2, ytb, yO.offX oA (fun i x1 x2 => by omega)⟩⟩ ?_
    exact (hx.off (fun i hi => by omega)).tr (oA.off (fun i hi => by omega))
end CACT3

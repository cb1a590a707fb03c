-- MayorsChair's calls: give, change, undo, keep, back, seen, forget
section CACT2
variable {sc : List Int32} {h : List ms_C} {Q : Option Value → List ms_C → Prop} {S : GS}
theorem c_give (hc : CIS h S) (hg : GIS S) {s t g : Int32} (k : ∀ h1, CIS h1 (op_give s t g S).2 → Off h h1 0 97 → Q (some (.int (op_give s t g S).1)) h1) : WP sc 52 0 [some (.ref 0), some (.int s), some (.int t), some (.int g)] [] h Q := by
  obtain ⟨⟨T, m⟩, A, U, K, L⟩ := S
  have lay := cLay
  have hc : CI h T m A U K L := hc
  have hg : GI m A U K L := hg
  have hc0 := hc
  obtain ⟨g5, i0, iS, iT, iR, iP, iK, iG, iO⟩ := CI.facts hc
  obtain ⟨-, hAG, hq, -⟩ := hg
  obtain ⟨⟨G1, G2⟩, ⟨G3, G4⟩, G5, G6, G7⟩ := hAG
  have hw := fun Q x => hasStreet_rng (sc := sc) (Q := Q) hc.2.2.1 (by omega) G2 (x := x)
  have hb : ∀ s, s < A 7 0 → A 0 s ≤ 2000 := fun s hs => by have := (G5 s hs).1; omega
  unfold op_give inS at k
  dsimp only at k
  cases hr : rng 0 (A 7 0 - 1) s with
  | false =>
    rw [hr, Bool.false_and, Bool.false_and, Bool.false_and, if_neg (by decide)] at k
    simp (disch := first | assumption | exact wn2_i | exact wn2_r | exact wn2_n | exact Nat.le_of_ble_eq_true rfl | omega | (refine nI_z ?_ ?_ <;> omega)) only [s52_0, s52_1, s52_4, s52_5, s52_8, s52_11, s52_12, s52_15, s52_16, s52_19, s52_22, s52_23, s52_24, s52_27, s52_28, s52_29, s52_31, s52_34, s52_37, s52_38, s52_39, s52_40, s52_43, s52_44, s52_45, s52_46, s52_49, s52_52, s52_54, s52_55, s52_56, s52_59, s52_60, s52_63, s52_66, s52_67, s52_70, s52_71, s52_72, s52_73, s52_76, s52_77, s52_80, s52_83, s52_84, s52_85, wX_some, Option.toList_some, Option.toList_none, List.cons_append, List.nil_append, List.map_cons, List.map_nil, List.sum_cons, List.sum_nil, Value.category, wn2_i, wn2_r, wn2_n, Option.isSome_some, List.getElem?_cons_zero, List.getElem?_cons_succ, nI_add, nI_rem2, g5, hw, hr, Bool.false_eq_true, if_false, nI_eq0, if_true]
    exact k h hc0 Off.rf
  | true =>
    cases hr2 : rng 0 (A 7 0 - 1) t with
    | false =>
      rw [hr, hr2, Bool.and_false, Bool.false_and, Bool.false_and, if_neg (by decide)] at k
      simp (disch := first | assumption | exact wn2_i | exact wn2_r | exact wn2_n | exact Nat.le_of_ble_eq_true rfl | omega | (refine nI_z ?_ ?_ <;> omega)) only [s52_0, s52_1, s52_4, s52_5, s52_8, s52_11, s52_12, s52_15, s52_16, s52_19, s52_22, s52_23, s52_24, s52_27, s52_28, s52_29, s52_31, s52_34, s52_37, s52_38, s52_39, s52_40, s52_43, s52_44, s52_45, s52_46, s52_49, s52_52, s52_54, s52_55, s52_56, s52_59, s52_60, s52_63, s52_66, s52_67, s52_70, s52_71, s52_72, s52_73, s52_76, s52_77, s52_80, s52_83, s52_84, s52_85, wX_some, Option.toList_some, Option.toList_none, List.cons_append, List.nil_append, List.map_cons, List.map_nil, List.sum_cons, List.sum_nil, Value.category, wn2_i, wn2_r, wn2_n, Option.isSome_some, List.getElem?_cons_zero, List.getElem?_cons_succ, nI_add, nI_rem2, g5, hw, hr, hr2, Bool.false_eq_true, if_false, nI_eq0, if_true, Nat.reduceEqDiff]
      exact k h hc0 Off.rf
    | true =>
      by_cases hst : s = t
      · rw [hr, hr2, decide_eq_true hst, Bool.not_true, Bool.and_false, Bool.false_and, if_neg (by decide)] at k
        subst hst
        simp (disch := first | assumption | exact wn2_i | exact wn2_r | exact wn2_n | exact Nat.le_of_ble_eq_true rfl | omega | (refine nI_z ?_ ?_ <;> omega)) only [s52_0, s52_1, s52_4, s52_5, s52_8, s52_11, s52_12, s52_15, s52_16, s52_19, s52_22, s52_23, s52_24, s52_27, s52_28, s52_29, s52_31, s52_34, s52_37, s52_38, s52_39, s52_40, s52_43, s52_44, s52_45, s52_46, s52_49, s52_52, s52_54, s52_55, s52_56, s52_59, s52_60, s52_63, s52_66, s52_67, s52_70, s52_71, s52_72, s52_73, s52_76, s52_77, s52_80, s52_83, s52_84, s52_85, wX_some, Option.toList_some, Option.toList_none, List.cons_append, List.nil_append, List.map_cons, List.map_nil, List.sum_cons, List.sum_nil, Value.category, wn2_i, wn2_r, wn2_n, Option.isSome_some, List.getElem?_cons_zero, List.getElem?_cons_succ, nI_add, nI_rem2, g5, hw, hr, if_false, nI_eq0, if_true, Nat.reduceEqDiff]
        exact k h hc0 Off.rf
      · cases hr3 : rng 1 40 g with
        | false =>
          rw [hr3, Bool.and_false, if_neg (by decide)] at k
          simp (disch := first | assumption | exact wn2_i | exact wn2_r | exact wn2_n | exact Nat.le_of_ble_eq_true rfl | omega | (refine nI_z ?_ ?_ <;> omega)) only [s52_0, s52_1, s52_4, s52_5, s52_8, s52_11, s52_12, s52_15, s52_16, s52_19, s52_22, s52_23, s52_24, s52_27, s52_28, s52_29, s52_31, s52_34, s52_37, s52_38, s52_39, s52_40, s52_43, s52_44, s52_45, s52_46, s52_49, s52_52, s52_54, s52_55, s52_56, s52_59, s52_60, s52_63, s52_66, s52_67, s52_70, s52_71, s52_72, s52_73, s52_76, s52_77, s52_80, s52_83, s52_84, s52_85, wX_some, Option.toList_some, Option.toList_none, List.cons_append, List.nil_append, List.map_cons, List.map_nil, List.sum_cons, List.sum_nil, Value.category, wn2_i, wn2_r, wn2_n, Option.isSome_some, List.getElem?_cons_zero, List.getElem?_cons_succ, nI_add, nI_rem2, g5, hw, hr, hr2, hr3, hst, within_rng, Bool.false_eq_true, if_false, nI_eq0, if_true, Nat.reduceEqDiff]
          exact k h hc0 Off.rf
        | true =>
          rw [hr, hr2, hr3, decide_eq_false hst, Bool.not_false, Bool.and_true, Bool.and_true, Bool.and_true, if_pos rfl] at k
          obtain ⟨i, i1, i2, rfl⟩ := rng_nI (by omega) hr
          obtain ⟨j, j1, j2, rfl⟩ := rng_nI (by omega) hr2
          obtain ⟨n, n1, n2, rfl⟩ := rng_nI (by omega) hr3
          rw [nat_nI (by omega), nat_nI (by omega), nat_nI (by omega)] at k
          have hi : i < A 7 0 := by omega
          have hj : j < A 7 0 := by omega
          have hne : i ≠ j := fun e => hst (by rw [e])
          have hch := fun Q => canHand_wp (sc := sc) (Q := Q) hc.2.2.1 hi hj n2 G2 hb
          by_cases hcan : n ≤ A 0 i ∧ A 0 j < 960
          · rw [if_pos hcan] at k
            have hcc : i ≠ j ∧ n ≤ A 0 i ∧ A 0 j < 960 := ⟨hne, hcan⟩
            simp only [if_pos hcc] at hch
            simp (disch := first | assumption | exact wn2_i | exact wn2_r | exact wn2_n | exact Nat.le_of_ble_eq_true rfl | omega | (refine nI_z ?_ ?_ <;> omega)) only [s52_0, s52_1, s52_4, s52_5, s52_8, s52_11, s52_12, s52_15, s52_16, s52_19, s52_22, s52_23, s52_24, s52_27, s52_28, s52_29, s52_31, s52_34, s52_37, s52_38, s52_39, s52_40, s52_43, s52_44, s52_45, s52_46, s52_49, s52_52, s52_54, s52_55, s52_56, s52_59, s52_60, s52_63, wX_some, Option.toList_some, Option.toList_none, List.cons_append, List.nil_append, List.map_cons, List.map_nil, List.sum_cons, List.sum_nil, Value.category, wn2_i, wn2_r, wn2_n, Option.isSome_some, List.getElem?_cons_zero, List.getElem?_cons_succ, nI_add, nI_rem2, g5, hw, hr, hr2, hr3, hst, within_rng, if_false, nI_eq0, if_true, Nat.reduceEqDiff, hch]
            refine put_wp hc.2.2.2.2.1 (by omega) hc.2.2.1 G2 G4 (by omega) (fun h1 hP1 ho1 => ?_)
            have hc1 := CI.put hc hP1 ho1
            obtain ⟨g5, i0, iS, iT, iR, iP, iK, iG, iO⟩ := CI.facts hc1
            simp (disch := first | assumption | exact wn2_i | exact wn2_r | exact wn2_n | exact Nat.le_of_ble_eq_true rfl | omega | (refine nI_z ?_ ?_ <;> omega)) only [s52_66, s52_67, s52_70, s52_71, s52_72, s52_73, wX_some, Option.toList_some, Option.toList_none, List.cons_append, List.nil_append, List.map_cons, List.map_nil, List.sum_cons, List.sum_nil, Value.category, wn2_i, wn2_r, wn2_n, Option.isSome_some, List.getElem?_cons_zero, List.getElem?_cons_succ, nI_add, nI_rem2, g5]
            refine hand_wp hc1.2.2.1 hi hj hne G2 hb hcan.1 (fun h2 hT2 ho2 => ?_)
            have hc2 : CI h2 T m (giveA A i j n) (psh 8 U A) K L := CI.act hc1 (hP1.offX (ho2.x (P := fun i => cT ≤ i ∧ i < cT + 7) (fun i x1 x2 => ⟨x1, x2⟩)) (fun i x1 x2 => by omega)) hT2 (ho2.x (fun i x1 x2 => Or.inl ⟨x1, x2⟩))
            obtain ⟨g5, -⟩ := CI.facts hc2
            obtain ⟨kd, we, us, di, st, wo, hgT, hi', hI, a1, a2, a3, a4, a5, a6, g1, g2, g3, g4, g5', g6, k1, k2, k3, k4, k5, k6, hlen⟩ := hT2.facts
            have v2 := k2.2 i hi
            have e2 : giveA A i j n 0 i = A 0 i - n := by
              show up1 (up1 (A 0) i (A 0 i - n)) j (A 0 j + n) i = _
              rw [up1_ne hne, up1_eq]
            rw [e2] at v2
            simp (disch := first | assumption | exact wn2_i | exact wn2_r | exact wn2_n | exact Nat.le_of_ble_eq_true rfl | omega | (refine nI_z ?_ ?_ <;> omega)) only [s52_76, s52_77, s52_80, s52_83, s52_84, s52_85, wX_some, Option.toList_some, Option.toList_none, List.cons_append, List.nil_append, List.map_cons, List.map_nil, List.sum_cons, List.sum_nil, Value.category, wn2_i, wn2_r, wn2_n, Option.isSome_some, List.getElem?_cons_zero, List.getElem?_cons_succ, nI_add, nI_rem2, g5, hgT, a2, g2, iat_n, v2]
            exact k h2 hc2 ((ho1.wide (by omega) (by omega)).tr (ho2.wide (by omega) (by omega)))
          · rw [if_neg hcan] at k
            have hcc : ¬ (i ≠ j ∧ n ≤ A 0 i ∧ A 0 j < 960) := fun e => hcan e.2
            simp only [if_neg hcc] at hch
            simp (disch := first | assumption | exact wn2_i | exact wn2_r | exact wn2_n | exact Nat.le_of_ble_eq_true rfl | omega | (refine nI_z ?_ ?_ <;> omega)) only [s52_0, s52_1, s52_4, s52_5, s52_8, s52_11, s52_12, s52_15, s52_16, s52_19, s52_22, s52_23, s52_24, s52_27, s52_28, s52_29, s52_31, s52_34, s52_37, s52_38, s52_39, s52_40, s52_43, s52_44, s52_45, s52_46, s52_49, s52_52, s52_54, s52_55, s52_56, s52_59, s52_60, s52_63, s52_66, s52_67, s52_70, s52_71, s52_72, s52_73, s52_76, s52_77, s52_80, s52_83, s52_84, s52_85, wX_some, Option.toList_some, Option.toList_none, List.cons_append, List.nil_append, List.map_cons, List.map_nil, List.sum_cons, List.sum_nil, Value.category, wn2_i, wn2_r, wn2_n, Option.isSome_some, List.getElem?_cons_zero, List.getElem?_cons_succ, nI_add, nI_rem2, g5, hw, hr, hr2, hr3, hst, within_rng, if_false, nI_eq0, if_true, Nat.reduceEqDiff, hch]
            exact k h hc0 Off.rf
theorem c_undo (hc : CIS h S) (hg : GIS S) (k : ∀ h1, CIS h1 (op_undo S).2 → Off h h1 0 97 → Q (some (.int (op_undo S).1)) h1) : WP sc 54 0 [some (.ref 0)] [] h Q := by
  obtain ⟨⟨T, m⟩, A, U, K, L⟩ := S
  have lay := cLay
  have hc : CI h T m A U K L := hc
  have hg : GI m A U K L := hg
  have hc0 := hc
  obtain ⟨g5, i0, iS, iT, iR, iP, iK, iG, iO⟩ := CI.facts hc
  obtain ⟨-, hAG, hq, hU, -⟩ := hg
  unfold op_undo at k
  dsimp only at k
  simp (disch := first | assumption | exact wn2_i | exact wn2_r | exact wn2_n | exact Nat.le_of_ble_eq_true rfl | omega | (refine nI_z ?_ ?_ <;> omega)) only [s54_0, s54_1, s54_4, s54_5, s54_8, wX_some, Option.toList_some, Option.toList_none, List.cons_append, List.nil_append, List.map_cons, List.map_nil, List.sum_cons, List.sum_nil, Value.category, wn2_i, wn2_r, wn2_n, Option.isSome_some, List.getElem?_cons_zero, List.getElem?_cons_succ, nI_add, nI_rem2, g5]
  refine takeInto_wp hc.2.2.2.2.1 (by omega) ⟨A, hc.2.2.1⟩ (by omega) (fun B hB => by have := (hU B hB).1; exact ⟨this.1.2, this.2.1.2⟩) (fun he => ?_) (fun h1 B hB hT1 hP1 hx => ?_)
  · subst he
    simp (disch := first | assumption | exact wn2_i | exact wn2_r | exact wn2_n | exact Nat.le_of_ble_eq_true rfl | omega | (refine nI_z ?_ ?_ <;> omega)) only [s54_11, s54_14, s54_15, s54_18, s54_21, s54_24, s54_26, wX_some, Option.toList_some, Option.toList_none, List.cons_append, List.nil_append, List.map_cons, List.map_nil, List.sum_cons, List.sum_nil, Value.category, wn2_i, wn2_r, wn2_n, Option.isSome_some, List.getElem?_cons_zero, List.getElem?_cons_succ, nI_add, nI_rem2, nI_eq0, if_true]
    exact k h hc0 Off.rf
  · rw [hB] at k
    have hc1 : CI h1 T m B U.dropLast K L := CI.act hc hP1 hT1 ⟨hx.1, fun i hi => hx.2 i (fun e => hi (by rcases e with e | e <;> omega))⟩
    obtain ⟨g5, -⟩ := CI.facts hc1
    have hgp := g_obj hP1.obj
    have hl : U.dropLast.length = U.length - 1 := List.length_dropLast
    rw [hl] at hgp
    simp (disch := first | assumption | exact wn2_i | exact wn2_r | exact wn2_n | exact Nat.le_of_ble_eq_true rfl | omega | (refine nI_z ?_ ?_ <;> omega)) only [s54_11, s54_14, s54_15, s54_18, s54_21, s54_24, s54_26, wX_some, Option.toList_some, Option.toList_none, List.cons_append, List.nil_append, List.map_cons, List.map_nil, List.sum_cons, List.sum_nil, Value.category, wn2_i, wn2_r, wn2_n, Option.isSome_some, List.getElem?_cons_zero, List.getElem?_cons_succ, nI_add, nI_rem2, nI_eq0, if_false, Nat.reduceEqDiff, g5, hgp]
    exact k h1 hc1 (hx.off (fun i hi => by omega))
end CACT2

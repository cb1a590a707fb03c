-- the model's calls: give, change, undo, keep, back
section M66
variable {sc : List Int32} {h : List ms_C} {Q : Option Value → List ms_C → Prop} {o1 k1 o2 u2 : Int32} {T : Nat → Nat} {m : Nat} {A B : AS} {U K : List AS} {L : List (Nat × Nat)} {S : GS}
theorem MS.ar (hS : MS h o1 k1 o2 u2 B) : AR h 103 27 (fun l => RA (fun i => l.getD i 0) B) := by
  obtain ⟨_, _, _, _, _, _, sd, _, _, s1, _, s2, _, _, _, s3⟩ := hS
  exact ⟨sd, s1, s2, s3⟩
theorem MJ.ms1 (hM : MJ h (-4) k1 (-4) u2 T m A U K L) (h6 : A 7 0 ≤ 6) (hs : AR h 103 27 (fun l => RA (fun i => l.getD i 0) B)) (e7 : B 7 = A 7) (e5 : B 5 = A 5) (e6 : B 6 = A 6) : MS h (-4) k1 (-4) u2 B :=
  hM.ms hs e7 (fun s hs => by
    have : ¬ nI s = -4 := fun q => by rw [m4_ne (by omega)] at q; exact q
    rw [if_neg this, if_neg this, e5, e6]
    exact ⟨rfl, rfl⟩)
theorem m_give (hM : MIS h S) (hg : GIS S) {s t g : Int32} (k : ∀ h1, MIS h1 (op_give s t g S).2 → Off h h1 97 13 → Q (some (.int (op_give s t g S).1)) h1) : WP sc 104 0 [some (.ref 97), some (.int s), some (.int t), some (.int g)] [] h Q := by
  obtain ⟨⟨T, m⟩, A, U, K, L⟩ := S
  have hM0 := hM
  obtain ⟨k1, u2, hM⟩ := hM
  have hg : GI m A U K L := hg
  have hM : MJ h (-4) k1 (-4) u2 T m A U K L := hM
  obtain ⟨sp, td, nw, sd, hgo, his, hI, at1, an, as1, lt1, ln, ls1, hK, hR, b97, b102, b103⟩ := hM.facts
  obtain ⟨-, hAG, hq, hU, hKK, hUl, -⟩ := hg
  have hAG0 := hAG
  obtain ⟨⟨G1, G2⟩, ⟨G3, G4⟩, G5, G6, G7⟩ := hAG
  have hw := fun Q x => isStreet_wp (sc := sc) (Q := Q) hM (by omega) G2 (x := x)
  unfold op_give inS at k
  dsimp only at k
  cases hr : rng 0 (A 7 0 - 1) s with
  | false =>
    rw [hr, Bool.false_and, Bool.false_and, Bool.false_and, if_neg (by decide)] at k
    simp (disch := first | assumption | exact wn2_i | exact wn2_r | exact wn2_n | exact Nat.le_of_ble_eq_true rfl | omega | (refine nI_z ?_ ?_ <;> omega)) only [s104_0, s104_1, s104_2, s104_5, s104_8, s104_9, s104_10, s104_13, s104_16, s104_17, s104_18, s104_21, s104_22, s104_23, s104_24, s104_27, s104_30, s104_33, s104_34, wX_some, Option.toList_some, Option.toList_none, List.cons_append, List.nil_append, List.map_cons, List.map_nil, List.sum_cons, List.sum_nil, Value.category, wn2_i, wn2_r, wn2_n, Option.isSome_some, List.getElem?_cons_zero, List.getElem?_cons_succ, nI_add, nI_rem2, hw, hr, Bool.false_eq_true, if_false, nI_eq0, if_true]
    exact k h hM0 Off.rf
  | true =>
    cases hr2 : rng 0 (A 7 0 - 1) t with
    | false =>
      rw [hr, hr2, Bool.and_false, Bool.false_and, Bool.false_and, if_neg (by decide)] at k
      simp (disch := first | assumption | exact wn2_i | exact wn2_r | exact wn2_n | exact Nat.le_of_ble_eq_true rfl | omega | (refine nI_z ?_ ?_ <;> omega)) only [s104_0, s104_1, s104_2, s104_5, s104_8, s104_9, s104_10, s104_13, s104_16, s104_17, s104_18, s104_21, s104_22, s104_23, s104_24, s104_27, s104_30, s104_33, s104_34, wX_some, Option.toList_some, Option.toList_none, List.cons_append, List.nil_append, List.map_cons, List.map_nil, List.sum_cons, List.sum_nil, Value.category, wn2_i, wn2_r, wn2_n, Option.isSome_some, List.getElem?_cons_zero, List.getElem?_cons_succ, nI_add, nI_rem2, hw, hr, hr2, Bool.false_eq_true, if_false, nI_eq0, if_true, Nat.reduceEqDiff]
      exact k h hM0 Off.rf
    | true =>
      by_cases hst : s = t
      · rw [hr, hr2, decide_eq_true hst, Bool.not_true, Bool.and_false, Bool.false_and, if_neg (by decide)] at k
        subst hst
        simp (disch := first | assumption | exact wn2_i | exact wn2_r | exact wn2_n | exact Nat.le_of_ble_eq_true rfl | omega | (refine nI_z ?_ ?_ <;> omega)) only [s104_0, s104_1, s104_2, s104_5, s104_8, s104_9, s104_10, s104_13, s104_16, s104_17, s104_18, s104_21, s104_22, s104_23, s104_24, s104_27, s104_30, s104_33, s104_34, wX_some, Option.toList_some, Option.toList_none, List.cons_append, List.nil_append, List.map_cons, List.map_nil, List.sum_cons, List.sum_nil, Value.category, wn2_i, wn2_r, wn2_n, Option.isSome_some, List.getElem?_cons_zero, List.getElem?_cons_succ, nI_add, nI_rem2, hw, hr, if_false, nI_eq0, if_true, Nat.reduceEqDiff]
        exact k h hM0 Off.rf
      · cases hr3 : rng 1 40 g with
        | false =>
          rw [hr3, Bool.and_false, if_neg (by decide)] at k
          simp (disch := first | assumption | exact wn2_i | exact wn2_r | exact wn2_n | exact Nat.le_of_ble_eq_true rfl | omega | (refine nI_z ?_ ?_ <;> omega)) only [s104_0, s104_1, s104_2, s104_5, s104_8, s104_9, s104_10, s104_13, s104_16, s104_17, s104_18, s104_21, s104_22, s104_23, s104_24, s104_27, s104_30, s104_33, s104_34, wX_some, Option.toList_some, Option.toList_none, List.cons_append, List.nil_append, List.map_cons, List.map_nil, List.sum_cons, List.sum_nil, Value.category, wn2_i, wn2_r, wn2_n, Option.isSome_some, List.getElem?_cons_zero, List.getElem?_cons_succ, nI_add, nI_rem2, hw, hr, hr2, hr3, hst, in_rng, Bool.false_eq_true, if_false, nI_eq0, if_true, Nat.reduceEqDiff]
          exact k h hM0 Off.rf
        | true =>
          rw [hr, hr2, hr3, decide_eq_false hst, Bool.not_false, Bool.and_true, Bool.and_true, Bool.and_true, if_pos rfl] at k
          obtain ⟨i, i1, i2, rfl⟩ := rng_nI (by omega) hr
          obtain ⟨j, j1, j2, rfl⟩ := rng_nI (by omega) hr2
          obtain ⟨n, n1, n2, rfl⟩ := rng_nI (by omega) hr3
          rw [nat_nI (by omega), nat_nI (by omega), nat_nI (by omega)] at k
          have hi : i < A 7 0 := by omega
          have hj : j < A 7 0 := by omega
          have hne : i ≠ j := fun e => hst (by rw [e])
          have hb : ∀ s, s < A 7 0 → A 0 s ≤ 2000 := fun s hs => by have := (G5 s hs).1; omega
          simp (disch := first | assumption | exact wn2_i | exact wn2_r | exact wn2_n | exact Nat.le_of_ble_eq_true rfl | omega | (refine nI_z ?_ ?_ <;> omega)) only [s104_0, s104_1, s104_2, s104_5, s104_8, s104_9, s104_10, s104_13, s104_16, s104_17, s104_18, s104_21, s104_22, s104_23, s104_24, s104_27, s104_30, s104_33, s104_34, s104_35, s104_36, wX_some, Option.toList_some, Option.toList_none, List.cons_append, List.nil_append, List.map_cons, List.map_nil, List.sum_cons, List.sum_nil, Value.category, wn2_i, wn2_r, wn2_n, Option.isSome_some, List.getElem?_cons_zero, List.getElem?_cons_succ, nI_add, nI_rem2, hw, hr, hr2, hr3, hst, in_rng, if_false, nI_eq0, if_true, Nat.reduceEqDiff]
          refine aside_wp hM hAG0 (fun h1 hM1 hs1 ho1 => ?_)
          have hMS := hM1.ms0 G2 hs1
          obtain ⟨_, _, _, _, _, _, hI, -⟩ := hM1.facts
          simp (disch := first | assumption | exact wn2_i | exact wn2_r | exact wn2_n | exact Nat.le_of_ble_eq_true rfl | omega | (refine nI_z ?_ ?_ <;> omega)) only [s104_39, s104_40, s104_41, s104_42, s104_43, wX_some, Option.toList_some, Option.toList_none, List.cons_append, List.nil_append, List.map_cons, List.map_nil, List.sum_cons, List.sum_nil, Value.category, wn2_i, wn2_r, wn2_n, Option.isSome_some, List.getElem?_cons_zero, List.getElem?_cons_succ, nI_add, nI_rem2]
          refine goGive_wp hMS hi hj G2 G4 n2 hb (fun hc h2 hMS2 ho2 => ?_) (fun hc => ?_)
          · rw [if_pos hc.2] at k
            have hM2 := hM1.side hMS2 ho2
            obtain ⟨_, _, _, _, _, _, hI, -⟩ := hM2.facts
            simp (disch := first | assumption | exact wn2_i | exact wn2_r | exact wn2_n | exact Nat.le_of_ble_eq_true rfl | omega | (refine nI_z ?_ ?_ <;> omega)) only [s104_46, s104_49, s104_51, s104_52, s104_53, wX_some, Option.toList_some, Option.toList_none, List.cons_append, List.nil_append, List.map_cons, List.map_nil, List.sum_cons, List.sum_nil, Value.category, wn2_i, wn2_r, wn2_n, Option.isSome_some, List.getElem?_cons_zero, List.getElem?_cons_succ, nI_add, nI_rem2, nI_eq0, if_false, Nat.reduceEqDiff]
            refine note_wp hM2 hAG0 (fun B hB => by have := (hU B hB).1; exact ⟨this.1.2, this.2.1.2⟩) hUl (fun h3 hM3 hx3 => ?_)
            have hMS3 : MS h3 (-4) k1 (-4) u2 (giveA A i j n) := hM3.ms1 G2 (hMS2.ar.off (hx3.2 103 (by omega))) rfl rfl rfl
            obtain ⟨_, _, _, _, _, _, hI, -⟩ := hM3.facts
            simp (disch := first | assumption | exact wn2_i | exact wn2_r | exact wn2_n | exact Nat.le_of_ble_eq_true rfl | omega | (refine nI_z ?_ ?_ <;> omega)) only [s104_56, s104_57, wX_some, Option.toList_some, Option.toList_none, List.cons_append, List.nil_append, List.map_cons, List.map_nil, List.sum_cons, List.sum_nil, Value.category, wn2_i, wn2_r, wn2_n, Option.isSome_some, List.getElem?_cons_zero, List.getElem?_cons_succ, nI_add, nI_rem2]
            refine take_wp hM3 hMS3 G2 G4 rfl rfl rfl (fun h4 hM4 ho4 => ?_)
            obtain ⟨sp, td, nw, sd, hgo, his, hI, at1, an, as1, lt1, ln, ls1, hK, hR, b97, b102, b103⟩ := hM4.facts
            have v : nw.getD i 0 = nI (A 0 i - n) := by
              have := (hR.1 i hi).1
              dsimp only at this
              rw [this]
              show nI (up1 (up1 (A 0) i (A 0 i - n)) j (A 0 j + n) i) = _
              rw [up1_ne hne, up1_eq]
            simp (disch := first | assumption | exact wn2_i | exact wn2_r | exact wn2_n | exact Nat.le_of_ble_eq_true rfl | omega | (refine nI_z ?_ ?_ <;> omega)) only [s104_60, s104_61, s104_64, s104_65, s104_66, s104_67, s104_68, wX_some, Option.toList_some, Option.toList_none, List.cons_append, List.nil_append, List.map_cons, List.map_nil, List.sum_cons, List.sum_nil, Value.category, wn2_i, wn2_r, wn2_n, Option.isSome_some, List.getElem?_cons_zero, List.getElem?_cons_succ, nI_add, nI_rem2, hgo, an, ln, iat_n, Nat.zero_add, v]
            exact k h4 ⟨k1, u2, hM4⟩ ((((ho1.wide (by omega) (by omega)).tr (ho2.wide (by omega) (by omega))).tr (hx3.off (fun i hi => by omega))).tr ho4)
          · have hcc : ¬ (n ≤ A 0 i ∧ A 0 j < 960) := fun e => hc ⟨hne, e⟩
            rw [if_neg hcc] at k
            simp (disch := first | assumption | exact wn2_i | exact wn2_r | exact wn2_n | exact Nat.le_of_ble_eq_true rfl | omega | (refine nI_z ?_ ?_ <;> omega)) only [s104_46, s104_49, s104_51, wX_some, Option.toList_some, Option.toList_none, List.cons_append, List.nil_append, List.map_cons, List.map_nil, List.sum_cons, List.sum_nil, Value.category, wn2_i, wn2_r, wn2_n, Option.isSome_some, List.getElem?_cons_zero, List.getElem?_cons_succ, nI_add, nI_rem2, nI_eq0, if_true]
            exact k h1 ⟨k1, u2, hM1⟩ (ho1.wide (by omega) (by omega))
theorem m_change (hM : MIS h S) (hg : GIS S) {a b : Int32} {l3 : Option Value} (k : ∀ h1, MIS h1 (op_change a b S).2 → Off h h1 97 13 → Q (some (.int (op_change a b S).1)) h1) : WP sc 106 0 [some (.ref 97), some (.int a), some (.int b), l3] [] h Q := by
  obtain ⟨⟨T, m⟩, A, U, K, L⟩ := S
  have hM0 := hM
  obtain ⟨k1, u2, hM⟩ := hM
  have hg : GI m A U K L := hg
  have hM : MJ h (-4) k1 (-4) u2 T m A U K L := hM
  obtain ⟨sp, td, nw, sd, hgo, his, hI, at1, an, as1, lt1, ln, ls1, hK, hR, b97, b102, b103⟩ := hM.facts
  obtain ⟨-, hAG, hq, hU, hKK, hUl, -⟩ := hg
  have hAG0 := hAG
  obtain ⟨⟨G1, G2⟩, ⟨G3, G4⟩, G5, G6, G7⟩ := hAG
  have hw := fun Q x => isWork_wp (sc := sc) (Q := Q) hM G3 G4 (x := x)
  unfold op_change inW at k
  dsimp only at k
  cases hr : rng 0 (A 7 1 - 1) a with
  | false =>
    rw [hr, Bool.false_and, Bool.false_and, if_neg (by decide)] at k
    simp (disch := first | assumption | exact wn2_i | exact wn2_r | exact wn2_n | exact Nat.le_of_ble_eq_true rfl | omega | (refine nI_z ?_ ?_ <;> omega)) only [s106_0, s106_1, s106_2, s106_5, s106_8, s106_9, s106_10, s106_13, s106_16, s106_17, s106_18, s106_21, s106_22, wX_some, Option.toList_some, Option.toList_none, List.cons_append, List.nil_append, List.map_cons, List.map_nil, List.sum_cons, List.sum_nil, Value.category, wn2_i, wn2_r, wn2_n, Option.isSome_some, List.getElem?_cons_zero, List.getElem?_cons_succ, nI_add, nI_rem2, hw, hr, Bool.false_eq_true, if_false, nI_eq0, if_true]
    exact k h hM0 Off.rf
  | true =>
    cases hr2 : rng 0 (A 7 1 - 1) b with
    | false =>
      rw [hr, hr2, Bool.and_false, Bool.false_and, if_neg (by decide)] at k
      simp (disch := first | assumption | exact wn2_i | exact wn2_r | exact wn2_n | exact Nat.le_of_ble_eq_true rfl | omega | (refine nI_z ?_ ?_ <;> omega)) only [s106_0, s106_1, s106_2, s106_5, s106_8, s106_9, s106_10, s106_13, s106_16, s106_17, s106_18, s106_21, s106_22, wX_some, Option.toList_some, Option.toList_none, List.cons_append, List.nil_append, List.map_cons, List.map_nil, List.sum_cons, List.sum_nil, Value.category, wn2_i, wn2_r, wn2_n, Option.isSome_some, List.getElem?_cons_zero, List.getElem?_cons_succ, nI_add, nI_rem2, hw, hr, hr2, Bool.false_eq_true, if_false, nI_eq0, if_true, Nat.reduceEqDiff]
      exact k h hM0 Off.rf
    | true =>
      by_cases hst : a = b
      · rw [hr, hr2, decide_eq_true hst, Bool.not_true, Bool.and_false, if_neg (by decide)] at k
        subst hst
        simp (disch := first | assumption | exact wn2_i | exact wn2_r | exact wn2_n | exact Nat.le_of_ble_eq_true rfl | omega | (refine nI_z ?_ ?_ <;> omega)) only [s106_0, s106_1, s106_2, s106_5, s106_8, s106_9, s106_10, s106_13, s106_16, s106_17, s106_18, s106_21, s106_22, wX_some, Option.toList_some, Option.toList_none, List.cons_append, List.nil_append, List.map_cons, List.map_nil, List.sum_cons, List.sum_nil, Value.category, wn2_i, wn2_r, wn2_n, Option.isSome_some, List.getElem?_cons_zero, List.getElem?_cons_succ, nI_add, nI_rem2, hw, hr, if_false, nI_eq0, if_true, Nat.reduceEqDiff]
        exact k h hM0 Off.rf
      · rw [hr, hr2, decide_eq_false hst, Bool.not_false, Bool.and_true, Bool.and_true, if_pos rfl] at k
        obtain ⟨i, i1, i2, rfl⟩ := rng_nI (by omega) hr
        obtain ⟨j, j1, j2, rfl⟩ := rng_nI (by omega) hr2
        rw [nat_nI (by omega), nat_nI (by omega)] at k
        have hi : i < A 7 1 := by omega
        have hj : j < A 7 1 := by omega
        simp (disch := first | assumption | exact wn2_i | exact wn2_r | exact wn2_n | exact Nat.le_of_ble_eq_true rfl | omega | (refine nI_z ?_ ?_ <;> omega)) only [s106_0, s106_1, s106_2, s106_5, s106_8, s106_9, s106_10, s106_13, s106_16, s106_17, s106_18, s106_21, s106_22, s106_23, s106_24, wX_some, Option.toList_some, Option.toList_none, List.cons_append, List.nil_append, List.map_cons, List.map_nil, List.sum_cons, List.sum_nil, Value.category, wn2_i, wn2_r, wn2_n, Option.isSome_some, List.getElem?_cons_zero, List.getElem?_cons_succ, nI_add, nI_rem2, hw, hr, hr2, hst, if_false, nI_eq0, if_true, Nat.reduceEqDiff]
        refine note_wp hM hAG0 (fun B hB => by have := (hU B hB).1; exact ⟨this.1.2, this.2.1.2⟩) hUl (fun h1 hM1 hx1 => ?_)
        obtain ⟨sp, td, nw, sd, hgo, his, hI, at1, an, as1, lt1, ln, ls1, hK, hR, b97, b102, b103⟩ := hM1.facts
        have v1 : nw.getD (18 + i) 0 = nI (A 3 i) := hR.2.1 i hi
        have v2 : nw.getD (18 + j) 0 = nI (A 3 j) := hR.2.1 j hj
        simp (disch := first | assumption | exact wn2_i | exact wn2_r | exact wn2_n | exact Nat.le_of_ble_eq_true rfl | omega | (refine nI_z ?_ ?_ <;> omega)) only [s106_27, s106_28, s106_31, s106_33, s106_34, s106_35, s106_36, s106_37, s106_38, s106_41, s106_43, s106_44, s106_45, s106_46, s106_49, s106_51, s106_52, s106_53, s106_54, wX_some, Option.toList_some, Option.toList_none, List.cons_append, List.nil_append, List.map_cons, List.map_nil, List.sum_cons, List.sum_nil, Value.category, wn2_i, wn2_r, wn2_n, Option.isSome_some, List.getElem?_cons_zero, List.getElem?_cons_succ, nI_add, nI_rem2, hgo, an, ln, iat_n, v1, v2]
        have ho2 : Off h1 (h1.set 102 (ms_ia (nw.set (18 + i) (nI (A 3 j))))) 102 1 := Off.rf.st (by omega) (by omega)
        have hM2 : MJ (h1.set 102 (ms_ia (nw.set (18 + i) (nI (A 3 j))))) (-4) k1 (-4) u2 T m (up2 A 3 i (A 3 j)) (psh 8 U A) K L := hM1.now ⟨nw.set (18 + i) (nI (A 3 j)), s_eq b102, by rw [List.length_set]; exact ln, RA.wk hR ln G2 G4 (by omega)⟩ ho2 rfl rfl rfl
        generalize h1.set 102 (ms_ia (nw.set (18 + i) (nI (A 3 j)))) = h2 at hM2 ho2 ⊢
        obtain ⟨sp, td, nw, sd, hgo, his, hI, at1, an, as1, lt1, ln, ls1, hK, hR, b97, b102, b103⟩ := hM2.facts
        simp (disch := first | assumption | exact wn2_i | exact wn2_r | exact wn2_n | exact Nat.le_of_ble_eq_true rfl | omega | (refine nI_z ?_ ?_ <;> omega)) only [s106_55, s106_56, s106_59, s106_61, s106_62, s106_63, s106_64, wX_some, Option.toList_some, Option.toList_none, List.cons_append, List.nil_append, List.map_cons, List.map_nil, List.sum_cons, List.sum_nil, Value.category, wn2_i, wn2_r, wn2_n, Option.isSome_some, List.getElem?_cons_zero, List.getElem?_cons_succ, nI_add, nI_rem2, hgo, an, ln, iat_n]
        have ho3 : Off h2 (h2.set 102 (ms_ia (nw.set (18 + j) (nI (A 3 i))))) 102 1 := Off.rf.st (by omega) (by omega)
        have hM3 : MJ (h2.set 102 (ms_ia (nw.set (18 + j) (nI (A 3 i))))) (-4) k1 (-4) u2 T m (chgA A i j) (psh 8 U A) K L := hM2.now ⟨nw.set (18 + j) (nI (A 3 i)), s_eq b102, by rw [List.length_set]; exact ln, RA.wk hR ln G2 G4 (by omega)⟩ ho3 rfl rfl rfl
        generalize h2.set 102 (ms_ia (nw.set (18 + j) (nI (A 3 i)))) = h3 at hM3 ho3 ⊢
        obtain ⟨sp, td, nw, sd, hgo, his, hI, at1, an, as1, lt1, ln, ls1, hK, hR, b97, b102, b103⟩ := hM3.facts
        have hlt : A 4 0 % A 7 1 < A 7 1 := Nat.mod_lt _ (by omega)
        have vq : nw.getD 24 0 = nI (A 4 0) := hR.2.2.1
        have vt : td.getD 1 0 = nI (A 7 1) := hK.2.1
        have vw : nw.getD (18 + A 4 0 % A 7 1) 0 = nI (chgA A i j 3 (A 4 0 % A 7 1)) := hR.2.1 _ hlt
        have hrm : nI (A 4 0) - nI (A 4 0) / nI (A 7 1) * nI (A 7 1) = nI (A 4 0 % A 7 1) := nI_rem (by omega) (by omega) (by omega)
        have z2 : ¬ nI (A 7 1) = 0 := nI_z (by omega) (by omega)
        have hl27 : 18 + A 4 0 % A 7 1 < 27 := by omega
        simp (disch := first | assumption | exact wn2_i | exact wn2_r | exact wn2_n | exact Nat.le_of_ble_eq_true rfl | omega | (refine nI_z ?_ ?_ <;> omega)) only [s106_65, s106_66, s106_69, s106_71, s106_72, s106_75, s106_77, s106_78, s106_79, s106_82, s106_83, s106_84, s106_85, s106_86, s106_87, wX_some, Option.toList_some, Option.toList_none, List.cons_append, List.nil_append, List.map_cons, List.map_nil, List.sum_cons, List.sum_nil, Value.category, wn2_i, wn2_r, wn2_n, Option.isSome_some, List.getElem?_cons_zero, List.getElem?_cons_succ, nI_add, nI_rem2, hgo, an, ln, at1, lt1, iat_n, vq, vt, hrm, vw]
        exact k h3 ⟨k1, u2, hM3⟩ (((hx1.off (fun i hi => by omega)).tr (ho2.wide (by omega) (by omega))).tr (ho3.wide (by omega) (by omega)))
theorem last_get {U : List AS} (h : U ≠ []) : ∃ B, U.getLast? = some B ∧ U[U.length - 1]? = some B ∧ B ∈ U := by
  rw [List.getLast?_eq_getElem?]
  have := List.length_pos_iff.mpr h
  have e := List.getElem?_eq_getElem (l := U) (i := U.length - 1) (by omega)
  exact ⟨_, e, e, List.mem_of_getElem? e⟩
theorem rowU.drop {l : List Int32} (h : rowU U l) : rowU U.dropLast l := by
  intro i B hi
  rw [List.getElem?_dropLast] at hi
  split at hi
  · exact h i B hi
  · cases hi
theorem m_undo (hM : MIS h S) (hg : GIS S) {l1 : Option Value} (k : ∀ h1, MIS h1 (op_undo S).2 → Off h h1 97 13 → Q (some (.int (op_undo S).1)) h1) : WP sc 107 0 [some (.ref 97), l1] [] h Q := by
  obtain ⟨⟨T, m⟩, A, U, K, L⟩ := S
  have hM0 := hM
  obtain ⟨k1, u2, hM⟩ := hM
  have hg : GI m A U K L := hg
  have hM : MJ h (-4) k1 (-4) u2 T m A U K L := hM
  obtain ⟨sp, td, nw, sd, hgo, his, hI, at1, an, as1, lt1, ln, ls1, hK, hR, b97, b102, b103⟩ := hM.facts
  obtain ⟨-, hAG, hq, hU, hKK, hUl, -⟩ := hg
  unfold op_undo at k
  dsimp only at k
  by_cases he : U = []
  · subst he
    simp (disch := first | assumption | exact wn2_i | exact wn2_r | exact wn2_n | exact Nat.le_of_ble_eq_true rfl | omega | (refine nI_z ?_ ?_ <;> omega)) only [s107_0, s107_1, s107_4, s107_7, s107_9, wX_some, Option.toList_some, Option.toList_none, List.cons_append, List.nil_append, List.map_cons, List.map_nil, List.sum_cons, List.sum_nil, Value.category, wn2_i, wn2_r, wn2_n, Option.isSome_some, List.getElem?_cons_zero, List.getElem?_cons_succ, nI_add, nI_rem2, hgo, List.length_nil, nI_eq0, if_true]
    exact k h hM0 Off.rf
  · obtain ⟨B, hl1, hl2, hB⟩ := last_get he
    rw [hl1] at k
    have hpos := List.length_pos_iff.mpr he
    obtain ⟨hBG, hB4, hB5, hB6, hB7⟩ := hU B hB
    have e1 : (nI U.length = 0) ↔ False := ⟨fun q => by have := (nI_eq0 (by omega)).mp q; omega, False.elim⟩
    have e2 : nI U.length - nI 1 = nI (U.length - 1) := nI_sub (by omega)
    obtain ⟨⟨sp, z1⟩, ⟨a98, a99, a100, a101, a102, a104, a105, a106, a107, a108, a109⟩, a103⟩ := hM
    obtain ⟨bf, f1, f2, f3⟩ := a104
    obtain ⟨nw, n1, n2, n3⟩ := a102
    have hgo := fun k => g_obj (k := k) z1
    have his := i_obj z1
    simp (disch := first | assumption | exact wn2_i | exact wn2_r | exact wn2_n | exact Nat.le_of_ble_eq_true rfl | omega | (refine nI_z ?_ ?_ <;> omega)) only [s107_0, s107_1, s107_4, s107_7, s107_9, s107_10, s107_11, s107_12, s107_15, s107_16, s107_17, wX_some, Option.toList_some, Option.toList_none, List.cons_append, List.nil_append, List.map_cons, List.map_nil, List.sum_cons, List.sum_nil, Value.category, wn2_i, wn2_r, wn2_n, Option.isSome_some, List.getElem?_cons_zero, List.getElem?_cons_succ, nI_add, nI_rem2, hgo, his, e1, if_false, e2, List.set_cons_succ, List.set_cons_zero, List.length_cons, List.length_nil, Nat.reduceAdd, Nat.reduceLT, true_and]
    have hx0 : OffX h (h.set 97 (ms_obj 6 (MO (nI m) (nI (U.length - 1)) (nI K.length) (nI L.length) sp (-4) k1 (-4) u2))) (fun i => i = 97 ∨ i = 102) := OffX.rf.st (Or.inl rfl)
    have y0 : (h.set 97 (ms_obj 6 (MO (nI m) (nI (U.length - 1)) (nI K.length) (nI L.length) sp (-4) k1 (-4) u2)))[97]? = some (ms_obj 6 (MO (nI m) (nI (U.length - 1)) (nI K.length) (nI L.length) sp (-4) k1 (-4) u2)) := s_eq b97
    have key : ∀ i, i ≤ 27 → ∀ h1 w1, h1[97]? = some (ms_obj 6 (MO (nI m) (nI (U.length - 1)) (nI K.length) (nI L.length) sp (-4) k1 (-4) u2)) → h1[102]? = some (ms_ia w1) → CPY nw w1 bf 0 (27 * (U.length - 1)) i → OffX h h1 (fun i => i = 97 ∨ i = 102) → WP sc 107 22 [some (.ref 97), some (.int (nI i))] [] h1 Q := by
      refine loop_up ?_ ?_
      · intro h1 w1 y1 x1 hc ho
        have hge : nI 27 ≤ nI 27 := nI_le (Nat.le_refl _) (by omega)
        have hg := fun k => g_obj (k := k) y1
        rw [s107_22]
        simp (disch := first | assumption | exact wn2_i | exact wn2_r | exact wn2_n | exact Nat.le_of_ble_eq_true rfl | omega | (refine nI_z ?_ ?_ <;> omega)) only [s107_23, s107_25, s107_54, s107_55, s107_58, wX_some, Option.toList_some, Option.toList_none, List.cons_append, List.nil_append, List.map_cons, List.map_nil, List.sum_cons, List.sum_nil, Value.category, wn2_i, wn2_r, wn2_n, Option.isSome_some, List.getElem?_cons_zero, List.getElem?_cons_succ, nI_add, nI_rem2, hge, if_true, hg]
        have hl : w1.length = 27 := hc.1.trans n2
        have a99b : AR h1 99 14 (fun l => KA (fun i => l.getD i 0) B) := by
          obtain ⟨td, t1, t2, t3⟩ := a99.off (ho.2 99 (by omega))
          refine ⟨td, t1, t2, ?_⟩
          unfold KA at t3 ⊢
          rw [hB7, hB5, hB6]; exact t3
        refine k h1 ⟨k1, u2, ⟨sp, ?_⟩, ⟨a98.off (ho.2 98 (by omega)), a99b, a100.off (ho.2 100 (by omega)), a101.off (ho.2 101 (by omega)), ⟨w1, x1, hl, ?_⟩, ⟨bf, (ho.2 104 (by omega)).trans f1, f2, f3.drop⟩, a105.off (ho.2 105 (by omega)), a106.off (ho.2 106 (by omega)), a107.off (ho.2 107 (by omega)), a108.off (ho.2 108 (by omega)), a109.off (ho.2 109 (by omega))⟩, a103.off (ho.2 103 (by omega))⟩ (ho.off (fun i hi => by omega))
        · rw [List.length_dropLast]; exact y1
        · refine (f3 _ B hl2).cong hBG.1.2 hBG.2.1.2 (fun i hi => ?_)
          have := hc.2.1 i hi
          rw [Nat.zero_add] at this
          exact this
      · intro i hi ih h1 w1 y1 x1 hc ho
        have hge : ¬ nI 27 ≤ nI i := nI_ge hi (by omega)
        have hg := fun k => g_obj (k := k) y1
        have av1 := a_arr x1
        have av2 := a_arr ((ho.2 104 (by omega)).trans f1)
        have hl : w1.length = 27 := hc.1.trans n2
        have hcn := hc.nx (x := bf.getD (27 * (U.length - 1) + i) 0) (by omega) rfl
        rw [Nat.zero_add] at hcn
        have hlt : 27 * (U.length - 1) + i < 216 := by omega
        rw [s107_22]
        simp (disch := first | assumption | exact wn2_i | exact wn2_r | exact wn2_n | exact Nat.le_of_ble_eq_true rfl | omega | (refine nI_z ?_ ?_ <;> omega)) only [s107_23, s107_25, s107_28, s107_29, s107_32, s107_33, s107_34, s107_37, s107_39, s107_40, s107_43, s107_44, s107_45, s107_46, s107_47, s107_48, s107_51, wX_some, Option.toList_some, Option.toList_none, List.cons_append, List.nil_append, List.map_cons, List.map_nil, List.sum_cons, List.sum_nil, Value.category, wn2_i, wn2_r, wn2_n, Option.isSome_some, List.getElem?_cons_zero, List.getElem?_cons_succ, nI_add, nI_rem2, hge, if_false, hg, av1, av2, f2, hl, iat_n, pk_mul]
        exact ih _ _ (s_ne (by omega) y1) (s_eq (lt_of_some x1)) hcn (ho.st (Or.inr rfl))
    simp (disch := first | assumption | exact wn2_i | exact wn2_r | exact wn2_n | exact Nat.le_of_ble_eq_true rfl | omega | (refine nI_z ?_ ?_ <;> omega)) only [s107_20, s107_21, wX_some, Option.toList_some, Option.toList_none, List.cons_append, List.nil_append, List.map_cons, List.map_nil, List.sum_cons, List.sum_nil, Value.category, wn2_i, wn2_r, wn2_n, Option.isSome_some, List.getElem?_cons_zero, List.getElem?_cons_succ, nI_add, nI_rem2]
    exact key 0 (by omega) _ nw y0 (s_ne (by omega) n1) CPY.z hx0
theorem m_back (hM : MIS h S) (hg : GIS S) {l1 : Option Value} (k : ∀ h1, MIS h1 (op_back S).2 → Off h h1 97 13 → Q (some (.int (op_back S).1)) h1) : WP sc 129 0 [some (.ref 97), l1] [] h Q := by
  obtain ⟨⟨T, m⟩, A, U, K, L⟩ := S
  have hM0 := hM
  obtain ⟨k1, u2, hM⟩ := hM
  have hg : GI m A U K L := hg
  have hM : MJ h (-4) k1 (-4) u2 T m A U K L := hM
  obtain ⟨sp, td, nw, sd, hgo, his, hI, at1, an, as1, lt1, ln, ls1, hK, hR, b97, b102, b103⟩ := hM.facts
  obtain ⟨-, hAG, hq, hU, hKK, hUl, hKl, -⟩ := hg
  unfold op_back at k
  dsimp only at k
  by_cases he : K = []
  · subst he
    simp (disch := first | assumption | exact wn2_i | exact wn2_r | exact wn2_n | exact Nat.le_of_ble_eq_true rfl | omega | (refine nI_z ?_ ?_ <;> omega)) only [s129_0, s129_1, s129_4, s129_7, s129_9, wX_some, Option.toList_some, Option.toList_none, List.cons_append, List.nil_append, List.map_cons, List.map_nil, List.sum_cons, List.sum_nil, Value.category, wn2_i, wn2_r, wn2_n, Option.isSome_some, List.getElem?_cons_zero, List.getElem?_cons_succ, nI_add, nI_rem2, hgo, List.length_nil, nI_eq0, if_true]
    exact k h hM0 Off.rf
  · obtain ⟨B, hl1, hl2, hB⟩ := last_get he
    rw [hl1] at k
    have hpos := List.length_pos_iff.mpr he
    obtain ⟨hBG, hB4, hB5, hB6, hB7⟩ := hKK B hB
    have e1 : (nI K.length = 0) ↔ False := ⟨fun q => by have := (nI_eq0 (by omega)).mp q; omega, False.elim⟩
    have e2 : nI K.length - nI 1 = nI (K.length - 1) := nI_sub (by omega)
    obtain ⟨⟨sp, z1⟩, ⟨a98, a99, a100, a101, a102, a104, a105, a106, a107, a108, a109⟩, a103⟩ := hM
    obtain ⟨bf, f1, f2, f3⟩ := a105
    obtain ⟨nw, n1, n2, n3⟩ := a102
    have hgo := fun k => g_obj (k := k) z1
    have his := i_obj z1
    simp (disch := first | assumption | exact wn2_i | exact wn2_r | exact wn2_n | exact Nat.le_of_ble_eq_true rfl | omega | (refine nI_z ?_ ?_ <;> omega)) only [s129_0, s129_1, s129_4, s129_7, s129_9, s129_10, s129_11, s129_12, s129_15, s129_16, s129_17, wX_some, Option.toList_some, Option.toList_none, List.cons_append, List.nil_append, List.map_cons, List.map_nil, List.sum_cons, List.sum_nil, Value.category, wn2_i, wn2_r, wn2_n, Option.isSome_some, List.getElem?_cons_zero, List.getElem?_cons_succ, nI_add, nI_rem2, hgo, his, e1, if_false, e2, List.set_cons_succ, List.set_cons_zero, List.length_cons, List.length_nil, Nat.reduceAdd, Nat.reduceLT, true_and]
    have hx0 : OffX h (h.set 97 (ms_obj 6 (MO (nI m) (nI U.length) (nI (K.length - 1)) (nI L.length) sp (-4) k1 (-4) u2))) (fun i => i = 97 ∨ i = 102) := OffX.rf.st (Or.inl rfl)
    have y0 : (h.set 97 (ms_obj 6 (MO (nI m) (nI U.length) (nI (K.length - 1)) (nI L.length) sp (-4) k1 (-4) u2)))[97]? = some (ms_obj 6 (MO (nI m) (nI U.length) (nI (K.length - 1)) (nI L.length) sp (-4) k1 (-4) u2)) := s_eq b97
    have key : ∀ i, i ≤ 27 → ∀ h1 w1, h1[97]? = some (ms_obj 6 (MO (nI m) (nI U.length) (nI (K.length - 1)) (nI L.length) sp (-4) k1 (-4) u2)) → h1[102]? = some (ms_ia w1) → CPY nw w1 bf 0 (27 * (K.length - 1)) i → OffX h h1 (fun i => i = 97 ∨ i = 102) → WP sc 129 22 [some (.ref 97), some (.int (nI i))] [] h1 Q := by
      refine loop_up ?_ ?_
      · intro h1 w1 y1 x1 hc ho
        have hge : nI 27 ≤ nI 27 := nI_le (Nat.le_refl _) (by omega)
        have hg := fun k => g_obj (k := k) y1
        have hi := i_obj y1
        have hl97 := lt_of_some y1
        have y2 := s_eq (c := ms_obj 6 (MO (nI m) (nI 0) (nI (K.length - 1)) (nI L.length) sp (-4) k1 (-4) u2)) hl97
        have hg2 := fun k => g_obj (k := k) y2
        rw [s129_22]
        simp (disch := first | assumption | exact wn2_i | exact wn2_r | exact wn2_n | exact Nat.le_of_ble_eq_true rfl | omega | (refine nI_z ?_ ?_ <;> omega)) only [s129_23, s129_25, s129_54, s129_55, s129_56, wX_some, Option.toList_some, Option.toList_none, List.cons_append, List.nil_append, List.map_cons, List.map_nil, List.sum_cons, List.sum_nil, Value.category, wn2_i, wn2_r, wn2_n, Option.isSome_some, List.getElem?_cons_zero, List.getElem?_cons_succ, nI_add, nI_rem2, hge, if_true, hg, hi, List.set_cons_succ, List.set_cons_zero, List.length_cons, List.length_nil, Nat.reduceAdd, Nat.reduceLT, true_and]
        simp (disch := first | assumption | exact wn2_i | exact wn2_r | exact wn2_n | exact Nat.le_of_ble_eq_true rfl | omega | (refine nI_z ?_ ?_ <;> omega)) only [s129_59, s129_60, s129_63, wX_some, Option.toList_some, Option.toList_none, List.cons_append, List.nil_append, List.map_cons, List.map_nil, List.sum_cons, List.sum_nil, Value.category, wn2_i, wn2_r, wn2_n, Option.isSome_some, List.getElem?_cons_zero, List.getElem?_cons_succ, nI_add, nI_rem2, hg2]
        have hl : w1.length = 27 := hc.1.trans n2
        have ho2 : OffX h (h1.set 97 (ms_obj 6 (MO (nI m) (nI 0) (nI (K.length - 1)) (nI L.length) sp (-4) k1 (-4) u2))) (fun i => i = 97 ∨ i = 102) := ho.st (Or.inl rfl)
        have a99b : AR (h1.set 97 (ms_obj 6 (MO (nI m) (nI 0) (nI (K.length - 1)) (nI L.length) sp (-4) k1 (-4) u2))) 99 14 (fun l => KA (fun i => l.getD i 0) B) := by
          obtain ⟨td, t1, t2, t3⟩ := a99.off (ho2.2 99 (by omega))
          refine ⟨td, t1, t2, ?_⟩
          unfold KA at t3 ⊢
          rw [hB7, hB5, hB6]; exact t3
        have a104b : AR (h1.set 97 (ms_obj 6 (MO (nI m) (nI 0) (nI (K.length - 1)) (nI L.length) sp (-4) k1 (-4) u2))) 104 216 (rowU []) := by
          obtain ⟨td, t1, t2, t3⟩ := a104.off (ho2.2 104 (by omega))
          exact ⟨td, t1, t2, fun i B hi => by simp at hi⟩
        refine k _ ⟨k1, u2, ⟨sp, ?_⟩, ⟨a98.off (ho2.2 98 (by omega)), a99b, a100.off (ho2.2 100 (by omega)), a101.off (ho2.2 101 (by omega)), ⟨w1, s_ne (by omega) x1, hl, ?_⟩, a104b, ⟨bf, (ho2.2 105 (by omega)).trans f1, f2, f3.drop⟩, a106.off (ho2.2 106 (by omega)), a107.off (ho2.2 107 (by omega)), a108.off (ho2.2 108 (by omega)), a109.off (ho2.2 109 (by omega))⟩, a103.off (ho2.2 103 (by omega))⟩ (ho2.off (fun i hi => by omega))
        · rw [List.length_dropLast]; exact y2
        · refine (f3 _ B hl2).cong hBG.1.2 hBG.2.1.2 (fun i hi => ?_)
          have := hc.2.1 i hi
          rw [Nat.zero_add] at this
          exact this
      · intro i hi ih h1 w1 y1 x1 hc ho
        have hge : ¬ nI 27 ≤ nI i := nI_ge hi (by omega)
        have hg := fun k => g_obj (k := k) y1
        have av1 := a_arr x1
        have av2 := a_arr ((ho.2 105 (by omega)).trans f1)
        have hl : w1.length = 27 := hc.1.trans n2
        have hcn := hc.nx (x := bf.getD (27 * (K.length - 1) + i) 0) (by omega) rfl
        rw [Nat.zero_add] at hcn
        have hlt : 27 * (K.length - 1) + i < 54 := by omega
        rw [s129_22]
        simp (disch := first | assumption | exact wn2_i | exact wn2_r | exact wn2_n | exact Nat.le_of_ble_eq_true rfl | omega | (refine nI_z ?_ ?_ <;> omega)) only [s129_23, s129_25, s129_28, s129_29, s129_32, s129_33, s129_34, s129_37, s129_39, s129_40, s129_43, s129_44, s129_45, s129_46, s129_47, s129_48, s129_51, wX_some, Option.toList_some, Option.toList_none, List.cons_append, List.nil_append, List.map_cons, List.map_nil, List.sum_cons, List.sum_nil, Value.category, wn2_i, wn2_r, wn2_n, Option.isSome_some, List.getElem?_cons_zero, List.getElem?_cons_succ, nI_add, nI_rem2, hge, if_false, hg, av1, av2, f2, hl, iat_n, pk_mul]
        exact ih _ _ (s_ne (by omega) y1) (s_eq (lt_of_some x1)) hcn (ho.st (Or.inr rfl))
    simp (disch := first | assumption | exact wn2_i | exact wn2_r | exact wn2_n | exact Nat.le_of_ble_eq_true rfl | omega | (refine nI_z ?_ ?_ <;> omega)) only [s129_20, s129_21, wX_some, Option.toList_some, Option.toList_none, List.cons_append, List.nil_append, List.map_cons, List.map_nil, List.sum_cons, List.sum_nil, Value.category, wn2_i, wn2_r, wn2_n, Option.isSome_some, List.getElem?_cons_zero, List.getElem?_cons_succ, nI_add, nI_rem2]
    exact key 0 (by omega) _ nw y0 (s_ne (by omega) n1) CPY.z hx0
end M66

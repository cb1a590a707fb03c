-- MayorsChair's calls: kinds, uses, decade
def kin (A : AS) (L : List (Nat × Nat)) (s : Nat) : Nat → Int32
  | 0 => nI 0
  | k + 1 => if tru (up2 A 5 s k) L then kin A L s k ||| (nI 1 <<< (nI k &&& 31)) else kin A L s k
def usn (A : AS) (L : List (Nat × Nat)) (s : Nat) : Nat → Int32
  | 0 => nI 0
  | k + 1 => if tru (up2 A 6 s k) L then usn A L s k ||| (nI 1 <<< (nI k &&& 31)) else usn A L s k
def drw (z i : Nat) : Nat := (7919 * z + 6151 * i + 1) * (7919 * z + 6151 * i + 1) % 65521 / 2
def dcd (A : AS) (z : Nat) : Nat → AS
  | 0 => A
  | i + 1 => nqA (sufA (dcd A z i) (drw z i)) false
def op_kinds (s : Int32) (S : GS) : OPR := if inS S.2.1 s then (kin S.2.1 S.2.2.2.2 (nat s) 4, S) else (-1, S)
def op_uses (s : Int32) (S : GS) : OPR := if inS S.2.1 s then (usn S.2.1 S.2.2.2.2 (nat s) 10, S) else (-1, S)
def op_decade (z n w : Int32) (S : GS) : OPR := if rng 0 9999 z && rng 1 60 n && rng 0 2 w then (if nat w = 0 then nI (smW (dcd (up2 S.2.1 4 1 0) (nat z) (nat n)) (S.2.1 7 0)) else if nat w = 1 then chI (dcd (up2 S.2.1 4 1 0) (nat z) (nat n) 4 2) else nI (dcd (up2 S.2.1 4 1 0) (nat z) (nat n) 4 1), S) else (-1, S)
theorem upA_ag5 {A : AS} {i v : Nat} (h : AG A) (hv : v ≤ 3) : AG (up2 A 5 i v) := by
  obtain ⟨h1, h2, h3, h4, h5⟩ := h
  refine ⟨h1, h2, fun j hj => ⟨(h3 j hj).1, (h3 j hj).2.1, ?_, (h3 j hj).2.2.2⟩, h4, h5⟩
  show up1 (A 5) i v j ≤ 3
  unfold up1
  split
  · exact hv
  · exact (h3 j hj).2.2.1
theorem upA_ag6 {A : AS} {i v : Nat} (h : AG A) (hv : v ≤ 9) : AG (up2 A 6 i v) := by
  obtain ⟨h1, h2, h3, h4, h5⟩ := h
  refine ⟨h1, h2, fun j hj => ⟨(h3 j hj).1, (h3 j hj).2.1, (h3 j hj).2.2.1, ?_⟩, h4, h5⟩
  show up1 (A 6) i v j ≤ 9
  unfold up1
  split
  · exact hv
  · exact (h3 j hj).2.2.2
theorem upA_ag4 {A : AS} {v : Nat} (h : AG A) : AG (up2 A 4 1 v) := by
  obtain ⟨h1, h2, h3, h4, h5⟩ := h
  exact ⟨h1, h2, h3, h4, h5⟩
theorem dcd_ag {A : AS} {z : Nat} (h : AG A) : ∀ i, AG (dcd A z i) ∧ dcd A z i 7 = A 7 ∧ dcd A z i 4 0 = A 4 0 + i := by
  intro i
  induction i with
  | zero => exact ⟨h, rfl, rfl⟩
  | succ i ih =>
    obtain ⟨i1, i2, i3⟩ := ih
    have h1 := sufA_s (A := dcd A z i) (d := drw z i)
    have h2 := nqA_s (A := sufA (dcd A z i) (drw z i)) (l := false)
    refine ⟨nqA_ag (sufA_ag i1), ?_, ?_⟩
    · show nqA (sufA (dcd A z i) (drw z i)) false 7 = _
      rw [h2.1, h1.1, i2]
    · show nqA (sufA (dcd A z i) (drw z i)) false 4 0 = _
      rw [h2.2.2.2.2, h1.2, i3]; omega
section CQ4
variable {sc : List Int32} {h : List ms_C} {Q : Option Value → List ms_C → Prop} {S : GS}
theorem draw_wp {z i : Nat} (hz : z ≤ 9999) (hi : i ≤ 60) {l2 l3 : Option Value} : WP sc 71 0 [some (.int (nI z)), some (.int (nI i)), l2, l3] [] h Q ↔ Q (some (.int (nI (drw z i)))) h := by
  have e1 : (nI z).toInt64 = lN z := nI_l (by omega)
  have e2 : (nI i).toInt64 = lN i := nI_l (by omega)
  have hx : (7919 * z + 6151 * i + 1) * (7919 * z + 6151 * i + 1) ≤ 80000000 * 80000000 := Nat.mul_le_mul (by omega) (by omega)
  have n1 : ¬ lN 65521 = 0 := by decide +kernel
  have n2 : ¬ lN 2 = 0 := by decide +kernel
  have hr : lN ((7919 * z + 6151 * i + 1) * (7919 * z + 6151 * i + 1)) - lN ((7919 * z + 6151 * i + 1) * (7919 * z + 6151 * i + 1)) / lN 65521 * lN 65521 = lN ((7919 * z + 6151 * i + 1) * (7919 * z + 6151 * i + 1) % 65521) := pk_lRem (by omega) (by omega) (by omega)
  have hd : lN ((7919 * z + 6151 * i + 1) * (7919 * z + 6151 * i + 1) % 65521) / lN 2 = lN (drw z i) := pk_lDiv (by omega) (by omega) (by omega)
  simp (disch := first | assumption | exact wn2_i | exact wn2_r | exact wn2_n | exact Nat.le_of_ble_eq_true rfl | omega | (refine nI_z ?_ ?_ <;> omega)) only [s71_0, s71_3, s71_4, s71_5, s71_6, s71_9, s71_10, s71_11, s71_12, s71_13, s71_14, s71_15, s71_16, s71_17, s71_18, s71_19, s71_22, s71_23, s71_26, s71_27, s71_28, wX_some, Option.toList_some, Option.toList_none, List.cons_append, List.nil_append, List.map_cons, List.map_nil, List.sum_cons, List.sum_nil, Value.category, wn2_i, wn2_r, wn2_n, Option.isSome_some, List.getElem?_cons_zero, List.getElem?_cons_succ, nI_add, nI_rem2, e1, e2, lN_mul, lN_add, n1, n2, not_false_eq_true]
  simp only [← lN_mul] at hr hd ⊢
  rw [hr, hd, lN_i]
theorem c_kinds (hc : CIS h S) (hg : GIS S) {s : Int32} {l2 l3 : Option Value} (k : ∀ h1, CIS h1 (op_kinds s S).2 → Off h h1 0 97 → Q (some (.int (op_kinds s S).1)) h1) : WP sc 64 0 [some (.ref 0), some (.int s), l2, l3] [] h Q := by
  obtain ⟨⟨T, m⟩, A, U, K, L⟩ := S
  have lay := cLay
  have hc : CI h T m A U K L := hc
  have hg : GI m A U K L := hg
  have hc0 := hc
  obtain ⟨g5, i0, iS, iT, iR, iP, iK, iG, iO⟩ := CI.facts hc
  obtain ⟨-, hAG, hq, hU, hK, hUl, hKl, hLl, hL⟩ := hg
  have hAG0 := hAG
  obtain ⟨⟨G1, G2⟩, ⟨G3, G4⟩, G5, G6, G7⟩ := hAG
  have hw := fun Q x => hasStreet_rng (sc := sc) (Q := Q) hc.2.2.1 (by omega) G2 (x := x)
  unfold op_kinds inS at k
  dsimp only at k
  cases hr : rng 0 (A 7 0 - 1) s with
  | false =>
    rw [hr, if_neg (by decide)] at k
    simp (disch := first | assumption | exact wn2_i | exact wn2_r | exact wn2_n | exact Nat.le_of_ble_eq_true rfl | omega | (refine nI_z ?_ ?_ <;> omega)) only [s64_0, s64_1, s64_4, s64_5, s64_8, s64_11, s64_12, s64_13, s64_14, s64_15, s64_16, s64_17, s64_18, s64_19, s64_22, s64_23, s64_26, s64_27, s64_30, s64_33, s64_34, s64_37, s64_40, s64_41, s64_42, s64_43, s64_44, s64_47, s64_48, s64_51, s64_54, s64_57, s64_58, s64_59, s64_60, s64_61, s64_62, s64_63, s64_66, s64_69, s64_70, wX_some, Option.toList_some, Option.toList_none, List.cons_append, List.nil_append, List.map_cons, List.map_nil, List.sum_cons, List.sum_nil, Value.category, wn2_i, wn2_r, wn2_n, Option.isSome_some, List.getElem?_cons_zero, List.getElem?_cons_succ, nI_add, nI_rem2, g5, hw, hr, Bool.false_eq_true, if_false, nI_eq0, if_true]
    exact k h hc0 Off.rf
  | true =>
    rw [hr, if_pos rfl] at k
    obtain ⟨j, j1, j2, rfl⟩ := rng_nI (by omega) hr
    rw [nat_nI (by omega)] at k
    have hj : j < A 7 0 := by omega
    have key : ∀ n, n ≤ 4 → ∀ h1, CI h1 T m A U K L → Off h h1 0 97 → WP sc 64 17 [some (.ref 0), some (.int (nI j)), some (.int (kin A L j n)), some (.int (nI n))] [] h1 Q := by
      refine loop_up ?_ ?_
      · intro h1 hc1 ho1
        have hge : nI 4 ≤ nI 4 := nI_le (Nat.le_refl _) (by omega)
        rw [s64_17]
        simp (disch := first | assumption | exact wn2_i | exact wn2_r | exact wn2_n | exact Nat.le_of_ble_eq_true rfl | omega | (refine nI_z ?_ ?_ <;> omega)) only [s64_18, s64_19, s64_22, s64_23, s64_26, s64_27, s64_30, s64_33, s64_34, s64_37, s64_40, s64_41, s64_42, s64_43, s64_44, s64_47, s64_48, s64_51, s64_54, s64_57, s64_58, s64_59, s64_60, s64_61, s64_62, s64_63, s64_66, s64_69, s64_70, wX_some, Option.toList_some, Option.toList_none, List.cons_append, List.nil_append, List.map_cons, List.map_nil, List.sum_cons, List.sum_nil, Value.category, wn2_i, wn2_r, wn2_n, Option.isSome_some, List.getElem?_cons_zero, List.getElem?_cons_succ, nI_add, nI_rem2, hge, if_true]
        exact k h1 hc1 ho1
      · intro n hn ih h1 hc1 ho1
        have hge : ¬ nI 4 ≤ nI n := nI_ge hn (by omega)
        obtain ⟨g5, i0, iS, iT, iR, iP, iK, iG, iO⟩ := CI.facts hc1
        rw [s64_17]
        simp (disch := first | assumption | exact wn2_i | exact wn2_r | exact wn2_n | exact Nat.le_of_ble_eq_true rfl | omega | (refine nI_z ?_ ?_ <;> omega)) only [s64_18, s64_19, s64_22, s64_23, s64_26, s64_27, s64_30, wX_some, Option.toList_some, Option.toList_none, List.cons_append, List.nil_append, List.map_cons, List.map_nil, List.sum_cons, List.sum_nil, Value.category, wn2_i, wn2_r, wn2_n, Option.isSome_some, List.getElem?_cons_zero, List.getElem?_cons_succ, nI_add, nI_rem2, hge, if_false, g5]
        refine c_cop hc1 hAG0 (fun h2 hc2 hT2 ho2 => ?_)
        obtain ⟨g5, i0, iS, iT, iR, iP, iK, iG, iO⟩ := CI.facts hc2
        obtain ⟨kd, we, us, di, st, wo, hgT, hi', hI, a1, a2, a3, a4, a5, a6, g1, g2, g3, g4, g5', g6, k1, k2, k3, k4, k5, k6, hlen⟩ := hT2.facts
        simp (disch := first | assumption | exact wn2_i | exact wn2_r | exact wn2_n | exact Nat.le_of_ble_eq_true rfl | omega | (refine nI_z ?_ ?_ <;> omega)) only [s64_33, s64_34, s64_37, s64_40, s64_41, s64_42, wX_some, Option.toList_some, Option.toList_none, List.cons_append, List.nil_append, List.map_cons, List.map_nil, List.sum_cons, List.sum_nil, Value.category, wn2_i, wn2_r, wn2_n, Option.isSome_some, List.getElem?_cons_zero, List.getElem?_cons_succ, nI_add, nI_rem2, g5, hgT, a1, g1, iat_n]
        obtain ⟨hc3, hT3, ho3⟩ : CI (h2.set (cR + 1) (ms_ia (kd.set j (nI n)))) T m A U K L ∧ TA (h2.set (cR + 1) (ms_ia (kd.set j (nI n)))) cR (up2 A 5 j n) ∧ Off h2 (h2.set (cR + 1) (ms_ia (kd.set j (nI n)))) 0 97 := CI.up (d := 0) hc2 hT2 (by omega) (k1.put (by omega))
        generalize h2.set (cR + 1) (ms_ia (kd.set j (nI n))) = h3 at hc3 hT3 ho3 ⊢
        obtain ⟨g5, i0, iS, iT, iR, iP, iK, iG, iO⟩ := CI.facts hc3
        simp (disch := first | assumption | exact wn2_i | exact wn2_r | exact wn2_n | exact Nat.le_of_ble_eq_true rfl | omega | (refine nI_z ?_ ?_ <;> omega)) only [s64_43, s64_44, s64_47, s64_48, s64_51, wX_some, Option.toList_some, Option.toList_none, List.cons_append, List.nil_append, List.map_cons, List.map_nil, List.sum_cons, List.sum_nil, Value.category, wn2_i, wn2_r, wn2_n, Option.isSome_some, List.getElem?_cons_zero, List.getElem?_cons_succ, nI_add, nI_rem2, g5]
        have hAG1 := upA_ag5 (i := j) hAG0 (show n ≤ 3 by omega)
        refine comeTrueIn_wp hc3.2.2.2.2.2.2.1 (fun q hq => ⟨(hL q hq).1, by have := (hL q hq).2; omega⟩) hT3 hAG1 (show A 4 0 ≤ 100000 by omega) (by omega) (fun h4 A' hT4 ho4 => ?_)
        have hc4 := CI.trial hc3 ho4 hT4
        have ho5 := ((ho1.tr ho2).tr ho3).tr (ho4.wide (by omega) (by omega))
        have e9 : kin A L j (n + 1) = if tru (up2 A 5 j n) L then kin A L j n ||| (nI 1 <<< (nI n &&& 31)) else kin A L j n := rfl
        rw [e9] at ih
        cases ht : tru (up2 A 5 j n) L with
        | true =>
          rw [ht, if_pos rfl] at ih
          simp (disch := first | assumption | exact wn2_i | exact wn2_r | exact wn2_n | exact Nat.le_of_ble_eq_true rfl | omega | (refine nI_z ?_ ?_ <;> omega)) only [s64_54, s64_57, s64_58, s64_59, s64_60, s64_61, s64_62, s64_63, s64_66, wX_some, Option.toList_some, Option.toList_none, List.cons_append, List.nil_append, List.map_cons, List.map_nil, List.sum_cons, List.sum_nil, Value.category, wn2_i, wn2_r, wn2_n, Option.isSome_some, List.getElem?_cons_zero, List.getElem?_cons_succ, nI_add, nI_rem2, if_true, nI_eq0, Nat.reduceEqDiff, if_false]
          exact ih h4 hc4 ho5
        | false =>
          rw [ht, if_neg (by decide)] at ih
          simp (disch := first | assumption | exact wn2_i | exact wn2_r | exact wn2_n | exact Nat.le_of_ble_eq_true rfl | omega | (refine nI_z ?_ ?_ <;> omega)) only [s64_54, s64_57, s64_58, s64_59, s64_60, s64_61, s64_62, s64_63, s64_66, wX_some, Option.toList_some, Option.toList_none, List.cons_append, List.nil_append, List.map_cons, List.map_nil, List.sum_cons, List.sum_nil, Value.category, wn2_i, wn2_r, wn2_n, Option.isSome_some, List.getElem?_cons_zero, List.getElem?_cons_succ, nI_add, nI_rem2, Bool.false_eq_true, if_true, nI_eq0, if_false]
          exact ih h4 hc4 ho5
    simp (disch := first | assumption | exact wn2_i | exact wn2_r | exact wn2_n | exact Nat.le_of_ble_eq_true rfl | omega | (refine nI_z ?_ ?_ <;> omega)) only [s64_0, s64_1, s64_4, s64_5, s64_8, s64_11, s64_12, s64_13, s64_14, s64_15, s64_16, wX_some, Option.toList_some, Option.toList_none, List.cons_append, List.nil_append, List.map_cons, List.map_nil, List.sum_cons, List.sum_nil, Value.category, wn2_i, wn2_r, wn2_n, Option.isSome_some, List.getElem?_cons_zero, List.getElem?_cons_succ, nI_add, nI_rem2, g5, hw, hr, if_false, nI_eq0, if_true, Nat.reduceEqDiff]
    exact key 0 (by omega) h hc0 Off.rf
theorem c_uses (hc : CIS h S) (hg : GIS S) {s : Int32} {l2 l3 : Option Value} (k : ∀ h1, CIS h1 (op_uses s S).2 → Off h h1 0 97 → Q (some (.int (op_uses s S).1)) h1) : WP sc 65 0 [some (.ref 0), some (.int s), l2, l3] [] h Q := by
  obtain ⟨⟨T, m⟩, A, U, K, L⟩ := S
  have lay := cLay
  have hc : CI h T m A U K L := hc
  have hg : GI m A U K L := hg
  have hc0 := hc
  obtain ⟨g5, i0, iS, iT, iR, iP, iK, iG, iO⟩ := CI.facts hc
  obtain ⟨-, hAG, hq, hU, hK, hUl, hKl, hLl, hL⟩ := hg
  have hAG0 := hAG
  obtain ⟨⟨G1, G2⟩, ⟨G3, G4⟩, G5, G6, G7⟩ := hAG
  have hw := fun Q x => hasStreet_rng (sc := sc) (Q := Q) hc.2.2.1 (by omega) G2 (x := x)
  unfold op_uses inS at k
  dsimp only at k
  cases hr : rng 0 (A 7 0 - 1) s with
  | false =>
    rw [hr, if_neg (by decide)] at k
    simp (disch := first | assumption | exact wn2_i | exact wn2_r | exact wn2_n | exact Nat.le_of_ble_eq_true rfl | omega | (refine nI_z ?_ ?_ <;> omega)) only [s65_0, s65_1, s65_4, s65_5, s65_8, s65_11, s65_12, s65_13, s65_14, s65_15, s65_16, s65_17, s65_18, s65_20, s65_23, s65_24, s65_27, s65_28, s65_31, s65_34, s65_35, s65_38, s65_41, s65_42, s65_43, s65_44, s65_45, s65_48, s65_49, s65_52, s65_55, s65_58, s65_59, s65_60, s65_61, s65_62, s65_63, s65_64, s65_67, s65_70, s65_71, wX_some, Option.toList_some, Option.toList_none, List.cons_append, List.nil_append, List.map_cons, List.map_nil, List.sum_cons, List.sum_nil, Value.category, wn2_i, wn2_r, wn2_n, Option.isSome_some, List.getElem?_cons_zero, List.getElem?_cons_succ, nI_add, nI_rem2, g5, hw, hr, Bool.false_eq_true, if_false, nI_eq0, if_true]
    exact k h hc0 Off.rf
  | true =>
    rw [hr, if_pos rfl] at k
    obtain ⟨j, j1, j2, rfl⟩ := rng_nI (by omega) hr
    rw [nat_nI (by omega)] at k
    have hj : j < A 7 0 := by omega
    have key : ∀ n, n ≤ 10 → ∀ h1, CI h1 T m A U K L → Off h h1 0 97 → WP sc 65 17 [some (.ref 0), some (.int (nI j)), some (.int (usn A L j n)), some (.int (nI n))] [] h1 Q := by
      refine loop_up ?_ ?_
      · intro h1 hc1 ho1
        have hge : nI 9 < nI 10 := nI_lt (by omega) (by omega)
        rw [s65_17]
        simp (disch := first | assumption | exact wn2_i | exact wn2_r | exact wn2_n | exact Nat.le_of_ble_eq_true rfl | omega | (refine nI_z ?_ ?_ <;> omega)) only [s65_18, s65_20, s65_23, s65_24, s65_27, s65_28, s65_31, s65_34, s65_35, s65_38, s65_41, s65_42, s65_43, s65_44, s65_45, s65_48, s65_49, s65_52, s65_55, s65_58, s65_59, s65_60, s65_61, s65_62, s65_63, s65_64, s65_67, s65_70, s65_71, wX_some, Option.toList_some, Option.toList_none, List.cons_append, List.nil_append, List.map_cons, List.map_nil, List.sum_cons, List.sum_nil, Value.category, wn2_i, wn2_r, wn2_n, Option.isSome_some, List.getElem?_cons_zero, List.getElem?_cons_succ, nI_add, nI_rem2, hge, if_true]
        exact k h1 hc1 ho1
      · intro n hn ih h1 hc1 ho1
        have hge : ¬ nI 9 < nI n := nI_nlt (by omega) (by omega)
        obtain ⟨g5, i0, iS, iT, iR, iP, iK, iG, iO⟩ := CI.facts hc1
        rw [s65_17]
        simp (disch := first | assumption | exact wn2_i | exact wn2_r | exact wn2_n | exact Nat.le_of_ble_eq_true rfl | omega | (refine nI_z ?_ ?_ <;> omega)) only [s65_18, s65_20, s65_23, s65_24, s65_27, s65_28, s65_31, wX_some, Option.toList_some, Option.toList_none, List.cons_append, List.nil_append, List.map_cons, List.map_nil, List.sum_cons, List.sum_nil, Value.category, wn2_i, wn2_r, wn2_n, Option.isSome_some, List.getElem?_cons_zero, List.getElem?_cons_succ, nI_add, nI_rem2, hge, if_false, g5]
        refine c_cop hc1 hAG0 (fun h2 hc2 hT2 ho2 => ?_)
        obtain ⟨g5, i0, iS, iT, iR, iP, iK, iG, iO⟩ := CI.facts hc2
        obtain ⟨kd, we, us, di, st, wo, hgT, hi', hI, a1, a2, a3, a4, a5, a6, g1, g2, g3, g4, g5', g6, k1, k2, k3, k4, k5, k6, hlen⟩ := hT2.facts
        simp (disch := first | assumption | exact wn2_i | exact wn2_r | exact wn2_n | exact Nat.le_of_ble_eq_true rfl | omega | (refine nI_z ?_ ?_ <;> omega)) only [s65_34, s65_35, s65_38, s65_41, s65_42, s65_43, wX_some, Option.toList_some, Option.toList_none, List.cons_append, List.nil_append, List.map_cons, List.map_nil, List.sum_cons, List.sum_nil, Value.category, wn2_i, wn2_r, wn2_n, Option.isSome_some, List.getElem?_cons_zero, List.getElem?_cons_succ, nI_add, nI_rem2, g5, hgT, a3, g3, iat_n]
        obtain ⟨hc3, hT3, ho3⟩ : CI (h2.set (cR + 3) (ms_ia (us.set j (nI n)))) T m A U K L ∧ TA (h2.set (cR + 3) (ms_ia (us.set j (nI n)))) cR (up2 A 6 j n) ∧ Off h2 (h2.set (cR + 3) (ms_ia (us.set j (nI n)))) 0 97 := CI.up (d := 2) hc2 hT2 (by omega) (k3.put (by omega))
        generalize h2.set (cR + 3) (ms_ia (us.set j (nI n))) = h3 at hc3 hT3 ho3 ⊢
        obtain ⟨g5, i0, iS, iT, iR, iP, iK, iG, iO⟩ := CI.facts hc3
        simp (disch := first | assumption | exact wn2_i | exact wn2_r | exact wn2_n | exact Nat.le_of_ble_eq_true rfl | omega | (refine nI_z ?_ ?_ <;> omega)) only [s65_44, s65_45, s65_48, s65_49, s65_52, wX_some, Option.toList_some, Option.toList_none, List.cons_append, List.nil_append, List.map_cons, List.map_nil, List.sum_cons, List.sum_nil, Value.category, wn2_i, wn2_r, wn2_n, Option.isSome_some, List.getElem?_cons_zero, List.getElem?_cons_succ, nI_add, nI_rem2, g5]
        have hAG1 := upA_ag6 (i := j) hAG0 (show n ≤ 9 by omega)
        refine comeTrueIn_wp hc3.2.2.2.2.2.2.1 (fun q hq => ⟨(hL q hq).1, by have := (hL q hq).2; omega⟩) hT3 hAG1 (show A 4 0 ≤ 100000 by omega) (by omega) (fun h4 A' hT4 ho4 => ?_)
        have hc4 := CI.trial hc3 ho4 hT4
        have ho5 := ((ho1.tr ho2).tr ho3).tr (ho4.wide (by omega) (by omega))
        have e9 : usn A L j (n + 1) = if tru (up2 A 6 j n) L then usn A L j n ||| (nI 1 <<< (nI n &&& 31)) else usn A L j n := rfl
        rw [e9] at ih
        cases ht : tru (up2 A 6 j n) L with
        | true =>
          rw [ht, if_pos rfl] at ih
          simp (disch := first | assumption | exact wn2_i | exact wn2_r | exact wn2_n | exact Nat.le_of_ble_eq_true rfl | omega | (refine nI_z ?_ ?_ <;> omega)) only [s65_55, s65_58, s65_59, s65_60, s65_61, s65_62, s65_63, s65_64, s65_67, wX_some, Option.toList_some, Option.toList_none, List.cons_append, List.nil_append, List.map_cons, List.map_nil, List.sum_cons, List.sum_nil, Value.category, wn2_i, wn2_r, wn2_n, Option.isSome_some, List.getElem?_cons_zero, List.getElem?_cons_succ, nI_add, nI_rem2, if_true, nI_eq0, Nat.reduceEqDiff, if_false]
          exact ih h4 hc4 ho5
        | false =>
          rw [ht, if_neg (by decide)] at ih
          simp (disch := first | assumption | exact wn2_i | exact wn2_r | exact wn2_n | exact Nat.le_of_ble_eq_true rfl | omega | (refine nI_z ?_ ?_ <;> omega)) only [s65_55, s65_58, s65_59, s65_60, s65_61, s65_62, s65_63, s65_64, s65_67, wX_some, Option.toList_some, Option.toList_none, List.cons_append, List.nil_append, List.map_cons, List.map_nil, List.sum_cons, List.sum_nil, Value.category, wn2_i, wn2_r, wn2_n, Option.isSome_some, List.getElem?_cons_zero, List.getElem?_cons_succ, nI_add, nI_rem2, Bool.false_eq_true, if_true, nI_eq0, if_false]
          exact ih h4 hc4 ho5
    simp (disch := first | assumption | exact wn2_i | exact wn2_r | exact wn2_n | exact Nat.le_of_ble_eq_true rfl | omega | (refine nI_z ?_ ?_ <;> omega)) only [s65_0, s65_1, s65_4, s65_5, s65_8, s65_11, s65_12, s65_13, s65_14, s65_15, s65_16, wX_some, Option.toList_some, Option.toList_none, List.cons_append, List.nil_append, List.map_cons, List.map_nil, List.sum_cons, List.sum_nil, Value.category, wn2_i, wn2_r, wn2_n, Option.isSome_some, List.getElem?_cons_zero, List.getElem?_cons_succ, nI_add, nI_rem2, g5, hw, hr, if_false, nI_eq0, if_true, Nat.reduceEqDiff]
    exact key 0 (by omega) h hc0 Off.rf
theorem c_decade (hc : CIS h S) (hg : GIS S) {z n w : Int32} {l4 : Option Value} (k : ∀ h1, CIS h1 (op_decade z n w S).2 → Off h h1 0 97 → Q (some (.int (op_decade z n w S).1)) h1) : WP sc 70 0 [some (.ref 0), some (.int z), some (.int n), some (.int w), l4] [] h Q := by
  obtain ⟨⟨T, m⟩, A, U, K, L⟩ := S
  have lay := cLay
  have hc : CI h T m A U K L := hc
  have hg : GI m A U K L := hg
  have hc0 := hc
  obtain ⟨g5, i0, iS, iT, iR, iP, iK, iG, iO⟩ := CI.facts hc
  obtain ⟨-, hAG, hq, -⟩ := hg
  have hAG0 := hAG
  obtain ⟨⟨G1, G2⟩, ⟨G3, G4⟩, G5, G6, G7⟩ := hAG
  unfold op_decade at k
  dsimp only at k
  cases hr : rng 0 9999 z with
  | false =>
    rw [hr, Bool.false_and, Bool.false_and, if_neg (by decide)] at k
    simp (disch := first | assumption | exact wn2_i | exact wn2_r | exact wn2_n | exact Nat.le_of_ble_eq_true rfl | omega | (refine nI_z ?_ ?_ <;> omega)) only [s70_0, s70_1, s70_2, s70_5, s70_8, s70_11, s70_12, s70_13, s70_15, s70_18, s70_21, s70_22, s70_23, s70_24, s70_27, s70_30, s70_31, wX_some, Option.toList_some, Option.toList_none, List.cons_append, List.nil_append, List.map_cons, List.map_nil, List.sum_cons, List.sum_nil, Value.category, wn2_i, wn2_r, wn2_n, Option.isSome_some, List.getElem?_cons_zero, List.getElem?_cons_succ, nI_add, nI_rem2, within_rng, hr, Bool.false_eq_true, if_false, nI_eq0, if_true]
    exact k h hc0 Off.rf
  | true =>
    cases hr2 : rng 1 60 n with
    | false =>
      rw [hr2, Bool.and_false, Bool.false_and, if_neg (by decide)] at k
      simp (disch := first | assumption | exact wn2_i | exact wn2_r | exact wn2_n | exact Nat.le_of_ble_eq_true rfl | omega | (refine nI_z ?_ ?_ <;> omega)) only [s70_0, s70_1, s70_2, s70_5, s70_8, s70_11, s70_12, s70_13, s70_15, s70_18, s70_21, s70_22, s70_23, s70_24, s70_27, s70_30, s70_31, wX_some, Option.toList_some, Option.toList_none, List.cons_append, List.nil_append, List.map_cons, List.map_nil, List.sum_cons, List.sum_nil, Value.category, wn2_i, wn2_r, wn2_n, Option.isSome_some, List.getElem?_cons_zero, List.getElem?_cons_succ, nI_add, nI_rem2, hr, hr2, within_rng, Bool.false_eq_true, if_false, nI_eq0, if_true, Nat.reduceEqDiff]
      exact k h hc0 Off.rf
    | true =>
      cases hr3 : rng 0 2 w with
      | false =>
        rw [hr3, Bool.and_false, if_neg (by decide)] at k
        simp (disch := first | assumption | exact wn2_i | exact wn2_r | exact wn2_n | exact Nat.le_of_ble_eq_true rfl | omega | (refine nI_z ?_ ?_ <;> omega)) only [s70_0, s70_1, s70_2, s70_5, s70_8, s70_11, s70_12, s70_13, s70_15, s70_18, s70_21, s70_22, s70_23, s70_24, s70_27, s70_30, s70_31, wX_some, Option.toList_some, Option.toList_none, List.cons_append, List.nil_append, List.map_cons, List.map_nil, List.sum_cons, List.sum_nil, Value.category, wn2_i, wn2_r, wn2_n, Option.isSome_some, List.getElem?_cons_zero, List.getElem?_cons_succ, nI_add, nI_rem2, hr, hr2, hr3, within_rng, Bool.false_eq_true, if_false, nI_eq0, if_true, Nat.reduceEqDiff]
        exact k h hc0 Off.rf
      | true =>
        rw [hr, hr2, hr3, Bool.and_true, Bool.and_true, if_pos rfl] at k
        obtain ⟨i, i1, i2, rfl⟩ := rng_nI (by omega) hr
        obtain ⟨j, j1, j2, rfl⟩ := rng_nI (by omega) hr2
        obtain ⟨u, u1, u2, rfl⟩ := rng_nI (by omega) hr3
        rw [nat_nI (by omega), nat_nI (by omega), nat_nI (by omega)] at k
        have hAG1 : AG (up2 A 4 1 0) := upA_ag4 hAG0
        have key : ∀ x, x ≤ j → ∀ h1, CI h1 T m A U K L → TA h1 cR (dcd (up2 A 4 1 0) i x) → Off h h1 0 97 → WP sc 70 54 [some (.ref 0), some (.int (nI i)), some (.int (nI j)), some (.int (nI u)), some (.int (nI x))] [] h1 Q := by
          refine loop_up ?_ ?_
          · intro h1 hc1 hT1 ho1
            obtain ⟨g5, i0, iS, iT, iR, iP, iK, iG, iO⟩ := CI.facts hc1
            obtain ⟨_, _, _, _, _, _, hgT, -⟩ := hT1.facts
            have hge : nI j ≤ nI j := nI_le (Nat.le_refl _) (by omega)
            have hd := dcd_ag (z := i) hAG1 j
            have hd7 : dcd (up2 A 4 1 0) i j 7 = A 7 := hd.2.1
            have htot := fun Q => totalWealth_wp (sc := sc) (Q := Q) (l1 := none) (l2 := none) hT1 hd.1.1.2
            rw [hd7] at htot
            have kk := k h1 hc1 ho1
            rw [s70_54]
            rcases (by omega : u = 0 ∨ u = 1 ∨ u = 2) with hu | hu | hu
            · subst hu
              simp (disch := first | assumption | exact wn2_i | exact wn2_r | exact wn2_n | exact Nat.le_of_ble_eq_true rfl | omega | (refine nI_z ?_ ?_ <;> omega)) only [s70_56, s70_57, s70_60, s70_61, s70_64, s70_65, s70_67, s70_70, s70_73, s70_74, s70_77, s70_78, s70_81, s70_84, s70_87, s70_88, s70_116, s70_117, s70_120, s70_123, s70_124, s70_125, s70_128, s70_131, s70_132, s70_133, s70_136, s70_139, wX_some, Option.toList_some, Option.toList_none, List.cons_append, List.nil_append, List.map_cons, List.map_nil, List.sum_cons, List.sum_nil, Value.category, wn2_i, wn2_r, wn2_n, Option.isSome_some, List.getElem?_cons_zero, List.getElem?_cons_succ, nI_add, nI_rem2, g5, hge, if_true, nI_eq, htot]
              simpa using kk
            · subst hu
              simp (disch := first | assumption | exact wn2_i | exact wn2_r | exact wn2_n | exact Nat.le_of_ble_eq_true rfl | omega | (refine nI_z ?_ ?_ <;> omega)) only [s70_56, s70_57, s70_60, s70_61, s70_64, s70_65, s70_67, s70_70, s70_73, s70_74, s70_77, s70_78, s70_81, s70_84, s70_87, s70_88, s70_116, s70_117, s70_120, s70_123, s70_124, s70_125, s70_128, s70_131, s70_132, s70_133, s70_136, s70_139, wX_some, Option.toList_some, Option.toList_none, List.cons_append, List.nil_append, List.map_cons, List.map_nil, List.sum_cons, List.sum_nil, Value.category, wn2_i, wn2_r, wn2_n, Option.isSome_some, List.getElem?_cons_zero, List.getElem?_cons_succ, nI_add, nI_rem2, g5, hge, if_true, nI_eq, hgT, Nat.reduceEqDiff, if_false]
              simpa using kk
            · subst hu
              simp (disch := first | assumption | exact wn2_i | exact wn2_r | exact wn2_n | exact Nat.le_of_ble_eq_true rfl | omega | (refine nI_z ?_ ?_ <;> omega)) only [s70_56, s70_57, s70_60, s70_61, s70_64, s70_65, s70_67, s70_70, s70_73, s70_74, s70_77, s70_78, s70_81, s70_84, s70_87, s70_88, s70_116, s70_117, s70_120, s70_123, s70_124, s70_125, s70_128, s70_131, s70_132, s70_133, s70_136, s70_139, wX_some, Option.toList_some, Option.toList_none, List.cons_append, List.nil_append, List.map_cons, List.map_nil, List.sum_cons, List.sum_nil, Value.category, wn2_i, wn2_r, wn2_n, Option.isSome_some, List.getElem?_cons_zero, List.getElem?_cons_succ, nI_add, nI_rem2, g5, hge, if_true, nI_eq, hgT, Nat.reduceEqDiff, if_false]
              simpa using kk
          · intro x hx ih h1 hc1 hT1 ho1
            obtain ⟨g5, i0, iS, iT, iR, iP, iK, iG, iO⟩ := CI.facts hc1
            have hge : ¬ nI j ≤ nI x := nI_ge hx (by omega)
            have hdl : drw i x ≤ 100000 := by unfold drw; omega
            have hdr := fun Q l2 l3 => draw_wp (sc := sc) (h := h1) (Q := Q) (z := i) (i := x) (l2 := l2) (l3 := l3) (by omega) (by omega)
            obtain ⟨d1, d2, d3⟩ := dcd_ag (z := i) hAG1 x
            have d3 : dcd (up2 A 4 1 0) i x 4 0 = A 4 0 + x := d3
            rw [s70_54]
            simp (disch := first | assumption | exact wn2_i | exact wn2_r | exact wn2_n | exact Nat.le_of_ble_eq_true rfl | omega | (refine nI_z ?_ ?_ <;> omega)) only [s70_56, s70_57, s70_60, s70_61, s70_64, s70_65, s70_67, s70_70, wX_some, Option.toList_some, Option.toList_none, List.cons_append, List.nil_append, List.map_cons, List.map_nil, List.sum_cons, List.sum_nil, Value.category, wn2_i, wn2_r, wn2_n, Option.isSome_some, List.getElem?_cons_zero, List.getElem?_cons_succ, nI_add, nI_rem2, hge, if_false, g5, hdr]
            refine suffer_wp hT1 d1 hdl (fun h2 hT2 ho2 => ?_)
            have hc2 := CI.trial hc1 ho2 hT2
            obtain ⟨g5, i0, iS, iT, iR, iP, iK, iG, iO⟩ := CI.facts hc2
            simp (disch := first | assumption | exact wn2_i | exact wn2_r | exact wn2_n | exact Nat.le_of_ble_eq_true rfl | omega | (refine nI_z ?_ ?_ <;> omega)) only [s70_73, s70_74, s70_77, s70_78, wX_some, Option.toList_some, Option.toList_none, List.cons_append, List.nil_append, List.map_cons, List.map_nil, List.sum_cons, List.sum_nil, Value.category, wn2_i, wn2_r, wn2_n, Option.isSome_some, List.getElem?_cons_zero, List.getElem?_cons_succ, nI_add, nI_rem2, g5]
            refine c_nq (lost := false) hc2 hT2 (sufA_ag d1) (by rw [sufA_s.2, d3]; omega) (fun h3 hc3 hT3 ho3 => ?_)
            simp (disch := first | assumption | exact wn2_i | exact wn2_r | exact wn2_n | exact Nat.le_of_ble_eq_true rfl | omega | (refine nI_z ?_ ?_ <;> omega)) only [s70_81, s70_84, wX_some, Option.toList_some, Option.toList_none, List.cons_append, List.nil_append, List.map_cons, List.map_nil, List.sum_cons, List.sum_nil, Value.category, wn2_i, wn2_r, wn2_n, Option.isSome_some, List.getElem?_cons_zero, List.getElem?_cons_succ, nI_add, nI_rem2]
            exact ih h3 hc3 hT3 ((ho1.tr (ho2.wide (by omega) (by omega))).tr ho3)
        simp (disch := first | assumption | exact wn2_i | exact wn2_r | exact wn2_n | exact Nat.le_of_ble_eq_true rfl | omega | (refine nI_z ?_ ?_ <;> omega)) only [s70_0, s70_1, s70_2, s70_5, s70_8, s70_11, s70_12, s70_13, s70_15, s70_18, s70_21, s70_22, s70_23, s70_24, s70_27, s70_30, s70_31, s70_32, s70_33, s70_36, s70_37, s70_40, wX_some, Option.toList_some, Option.toList_none, List.cons_append, List.nil_append, List.map_cons, List.map_nil, List.sum_cons, List.sum_nil, Value.category, wn2_i, wn2_r, wn2_n, Option.isSome_some, List.getElem?_cons_zero, List.getElem?_cons_succ, nI_add, nI_rem2, g5, hr, hr2, hr3, within_rng, if_false, nI_eq0, if_true, Nat.reduceEqDiff]
        refine c_cop hc hAG0 (fun h1 hc1 hT1 ho1 => ?_)
        obtain ⟨g5, i0, iS, iT, iR, iP, iK, iG, iO⟩ := CI.facts hc1
        obtain ⟨kd, we, us, di, st, wo, hgT, hi', -⟩ := hT1.facts
        have hTu : TA (h1.set cR (ms_obj 4 (TO cR (up2 A 4 1 0)))) cR (up2 A 4 1 0) := hT1.up
        have hou : Off h1 (h1.set cR (ms_obj 4 (TO cR (up2 A 4 1 0)))) cR 7 := Off.rf.st (by omega) (by omega)
        simp (disch := first | assumption | exact wn2_i | exact wn2_r | exact wn2_n | exact Nat.le_of_ble_eq_true rfl | omega | (refine nI_z ?_ ?_ <;> omega)) only [s70_43, s70_44, s70_47, s70_48, s70_51, s70_52, wX_some, Option.toList_some, Option.toList_none, List.cons_append, List.nil_append, List.map_cons, List.map_nil, List.sum_cons, List.sum_nil, Value.category, wn2_i, wn2_r, wn2_n, Option.isSome_some, List.getElem?_cons_zero, List.getElem?_cons_succ, nI_add, nI_rem2, g5, hi', TO_wood, TO_len, Nat.reduceLT, true_and]
        exact key 0 (by omega) _ (CI.trial hc1 hou hTu) hTu (ho1.tr (hou.wide (by omega) (by omega)))
end CQ4

-- MayorsChair's calls: even, paint
section CQ2
variable {sc : List Int32} {h : List ms_C} {Q : Option Value → List ms_C → Prop} {S : GS}
theorem c_even (hc : CIS h S) (hg : GIS S) {d : Int32} {l2 : Option Value} (k : ∀ h1, CIS h1 (op_even d S).2 → Off h h1 0 97 → Q (some (.int (op_even d S).1)) h1) : WP sc 57 0 [some (.ref 0), some (.int d), l2] [] h Q := by
  obtain ⟨⟨T, m⟩, A, U, K, L⟩ := S
  have lay := cLay
  have hc : CI h T m A U K L := hc
  have hg : GI m A U K L := hg
  have hc0 := hc
  obtain ⟨g5, i0, iS, iT, iR, iP, iK, iG, iO⟩ := CI.facts hc
  obtain ⟨-, hAG, hq, -⟩ := hg
  have hAG0 := hAG
  obtain ⟨⟨G1, G2⟩, ⟨G3, G4⟩, G5, G6, G7⟩ := hAG
  unfold op_even at k
  dsimp only at k
  cases hr : rng 0 99 d with
  | false =>
    rw [hr, if_neg (by decide)] at k
    simp (disch := first | assumption | exact wn2_i | exact wn2_r | exact wn2_n | exact Nat.le_of_ble_eq_true rfl | omega | (refine nI_z ?_ ?_ <;> omega)) only [s57_0, s57_1, s57_2, s57_4, s57_7, s57_10, s57_11, s57_12, s57_13, s57_16, s57_17, s57_20, s57_23, s57_24, s57_25, s57_26, s57_28, s57_31, s57_32, s57_35, s57_38, s57_39, s57_42, s57_45, s57_46, s57_47, s57_50, s57_51, s57_52, s57_53, s57_56, s57_57, s57_60, s57_63, s57_66, s57_68, wX_some, Option.toList_some, Option.toList_none, List.cons_append, List.nil_append, List.map_cons, List.map_nil, List.sum_cons, List.sum_nil, Value.category, wn2_i, wn2_r, wn2_n, Option.isSome_some, List.getElem?_cons_zero, List.getElem?_cons_succ, nI_add, nI_rem2, within_rng, hr, Bool.false_eq_true, if_false, nI_eq0, if_true]
    exact k h hc0 Off.rf
  | true =>
    rw [hr, if_pos rfl] at k
    obtain ⟨j, j1, j2, rfl⟩ := rng_nI (by omega) hr
    rw [nat_nI (by omega)] at k
    obtain ⟨R, hRR⟩ : ∃ R, evn A j 61 0 = R := ⟨_, rfl⟩
    rw [hRR] at k
    have key : ∀ f n, n + f = 61 → ∀ h1, CI h1 T m A U K L → TA h1 cR (lpA A n) → Off h h1 0 97 → evn A j f n = R → WP sc 57 25 [some (.ref 0), some (.int (nI j)), some (.int (nI n))] [] h1 Q := by
      intro f
      induction f with
      | zero =>
        intro n hn h1 hc1 hT1 ho1 he
        have hgt : nI 60 < nI n := nI_lt (by omega) (by omega)
        rw [s57_25]
        simp (disch := first | assumption | exact wn2_i | exact wn2_r | exact wn2_n | exact Nat.le_of_ble_eq_true rfl | omega | (refine nI_z ?_ ?_ <;> omega)) only [s57_26, s57_28, s57_31, s57_32, s57_35, s57_38, s57_39, s57_42, s57_45, s57_46, s57_47, s57_50, s57_51, s57_52, s57_53, s57_56, s57_57, s57_60, s57_63, s57_66, s57_68, wX_some, Option.toList_some, Option.toList_none, List.cons_append, List.nil_append, List.map_cons, List.map_nil, List.sum_cons, List.sum_nil, Value.category, wn2_i, wn2_r, wn2_n, Option.isSome_some, List.getElem?_cons_zero, List.getElem?_cons_succ, nI_add, nI_rem2, hgt, if_true]
        rw [← he] at k
        exact k h1 hc1 ho1
      | succ f ih =>
        intro n hn h1 hc1 hT1 ho1 he
        have hgt : ¬ nI 60 < nI n := nI_nlt (by omega) (by omega)
        obtain ⟨g5, i0, iS, iT, iR, iP, iK, iG, iO⟩ := CI.facts hc1
        have hGl := lpA_ag hAG0 n
        have h7 : lpA A n 7 0 = A 7 0 := by rw [(lpA_s n).1]
        have hb : ∀ s, s < lpA A n 7 0 → lpA A n 0 s ≤ 999 := fun s hs => (hGl.2.2.1 s hs).1
        have hb2 : ∀ s, s < lpA A n 7 0 → lpA A n 0 s ≤ 2000 := fun s hs => by have := hb s hs; omega
        have hpw := fun Q => poorestWealth_wp (sc := sc) (Q := Q) (l1 := none) (l2 := none) hT1 (by omega) (by omega) hb2
        have hrw := fun Q => richestWealth_wp (sc := sc) (Q := Q) (l1 := none) (l2 := none) hT1 (by omega) (by omega) hb2
        have hle := mn_le_mx (A := lpA A n) (lpA A n 7 0 - 1)
        have hmx := mxW_le hb (lpA A n 7 0 - 1) (by omega)
        have hsub : nI (mxW (lpA A n) (lpA A n 7 0 - 1)) - nI (mnW (lpA A n) (lpA A n 7 0 - 1)) = nI (gap (lpA A n)) := nI_sub hle
        have hgl : gap (lpA A n) ≤ 999 := by unfold gap; omega
        unfold evn at he
        rw [s57_25]
        by_cases hs : gap (lpA A n) ≤ j
        · rw [if_pos hs] at he
          have n1 : ¬ nI j < nI (gap (lpA A n)) := nI_nlt hs (by omega)
          simp (disch := first | assumption | exact wn2_i | exact wn2_r | exact wn2_n | exact Nat.le_of_ble_eq_true rfl | omega | (refine nI_z ?_ ?_ <;> omega)) only [s57_26, s57_28, s57_31, s57_32, s57_35, s57_38, s57_39, s57_42, s57_45, s57_46, s57_47, s57_50, s57_51, wX_some, Option.toList_some, Option.toList_none, List.cons_append, List.nil_append, List.map_cons, List.map_nil, List.sum_cons, List.sum_nil, Value.category, wn2_i, wn2_r, wn2_n, Option.isSome_some, List.getElem?_cons_zero, List.getElem?_cons_succ, nI_add, nI_rem2, hgt, if_false, g5, hpw, hrw, hsub, n1]
          rw [← he] at k
          exact k h1 hc1 ho1
        · rw [if_neg hs] at he
          have n1 : nI j < nI (gap (lpA A n)) := nI_lt (by omega) (by omega)
          simp (disch := first | assumption | exact wn2_i | exact wn2_r | exact wn2_n | exact Nat.le_of_ble_eq_true rfl | omega | (refine nI_z ?_ ?_ <;> omega)) only [s57_26, s57_28, s57_31, s57_32, s57_35, s57_38, s57_39, s57_42, s57_45, s57_46, s57_47, s57_50, s57_51, s57_52, s57_53, s57_56, s57_57, wX_some, Option.toList_some, Option.toList_none, List.cons_append, List.nil_append, List.map_cons, List.map_nil, List.sum_cons, List.sum_nil, Value.category, wn2_i, wn2_r, wn2_n, Option.isSome_some, List.getElem?_cons_zero, List.getElem?_cons_succ, nI_add, nI_rem2, hgt, if_false, g5, hpw, hrw, hsub, n1, if_true]
          refine c_nq (lost := false) hc1 hT1 (lpA_ag hAG0 n) (by rw [(lpA_s n).2.2.2.2]; omega) (fun h2 hc2 hT2 ho2 => ?_)
          simp (disch := first | assumption | exact wn2_i | exact wn2_r | exact wn2_n | exact Nat.le_of_ble_eq_true rfl | omega | (refine nI_z ?_ ?_ <;> omega)) only [s57_60, s57_63, wX_some, Option.toList_some, Option.toList_none, List.cons_append, List.nil_append, List.map_cons, List.map_nil, List.sum_cons, List.sum_nil, Value.category, wn2_i, wn2_r, wn2_n, Option.isSome_some, List.getElem?_cons_zero, List.getElem?_cons_succ, nI_add, nI_rem2]
          exact ih (n + 1) (by omega) h2 hc2 hT2 (ho1.tr ho2) he
    simp (disch := first | assumption | exact wn2_i | exact wn2_r | exact wn2_n | exact Nat.le_of_ble_eq_true rfl | omega | (refine nI_z ?_ ?_ <;> omega)) only [s57_0, s57_1, s57_2, s57_4, s57_7, s57_10, s57_11, s57_12, s57_13, s57_16, s57_17, s57_20, wX_some, Option.toList_some, Option.toList_none, List.cons_append, List.nil_append, List.map_cons, List.map_nil, List.sum_cons, List.sum_nil, Value.category, wn2_i, wn2_r, wn2_n, Option.isSome_some, List.getElem?_cons_zero, List.getElem?_cons_succ, nI_add, nI_rem2, g5, within_rng, hr, if_false, nI_eq0, if_true, Nat.reduceEqDiff]
    refine c_cop hc hAG0 (fun h1 hc1 hT1 ho1 => ?_)
    simp (disch := first | assumption | exact wn2_i | exact wn2_r | exact wn2_n | exact Nat.le_of_ble_eq_true rfl | omega | (refine nI_z ?_ ?_ <;> omega)) only [s57_23, s57_24, wX_some, Option.toList_some, Option.toList_none, List.cons_append, List.nil_append, List.map_cons, List.map_nil, List.sum_cons, List.sum_nil, Value.category, wn2_i, wn2_r, wn2_n, Option.isSome_some, List.getElem?_cons_zero, List.getElem?_cons_succ, nI_add, nI_rem2]
    exact key 61 0 (by omega) h1 hc1 hT1 ho1 hRR
theorem CI.up {T : Nat → Nat} {m : Nat} {A B : AS} {U K : List AS} {L : List (Nat × Nat)} (hc : CI h T m A U K L) (hT : TA h cR B) {d : Nat} (hd : d < 6) {l : List Int32} {f : Nat → Nat} (hl : AL l f (if d = 5 then B 7 1 else B 7 0)) : CI (h.set (cR + 1 + d) (ms_ia l)) T m A U K L ∧ TA (h.set (cR + 1 + d) (ms_ia l)) cR (fun c => if c = (match d with | 0 => 5 | 1 => 0 | 2 => 6 | 3 => 1 | 4 => 2 | _ => 3) then f else B c) ∧ Off h (h.set (cR + 1 + d) (ms_ia l)) 0 97 := by
  have lay := cLay
  have hT2 := TA.arr (d := d) hT hd hl
  have ho : Off h (h.set (cR + 1 + d) (ms_ia l)) cR 7 := Off.rf.st (by omega) (by omega)
  exact ⟨CI.trial hc ho hT2, hT2, ho.wide (by omega) (by omega)⟩
theorem c_paint (hc : CIS h S) (hg : GIS S) {s : Int32} {l2 : Option Value} (k : ∀ h1, CIS h1 (op_paint s S).2 → Off h h1 0 97 → Q (some (.int (op_paint s S).1)) h1) : WP sc 59 0 [some (.ref 0), some (.int s), l2] [] h Q := by
  obtain ⟨⟨T, m⟩, A, U, K, L⟩ := S
  have lay := cLay
  have hc : CI h T m A U K L := hc
  have hg : GI m A U K L := hg
  have hc0 := hc
  obtain ⟨g5, i0, iS, iT, iR, iP, iK, iG, iO⟩ := CI.facts hc
  obtain ⟨-, hAG, hq, -⟩ := hg
  have hAG0 := hAG
  obtain ⟨⟨G1, G2⟩, ⟨G3, G4⟩, G5, G6, G7⟩ := hAG
  have hw := fun Q x => hasStreet_rng (sc := sc) (Q := Q) hc.2.2.1 (by omega) G2 (x := x)
  unfold op_paint inS at k
  dsimp only at k
  cases hr : rng 0 (A 7 0 - 1) s with
  | false =>
    rw [hr, if_neg (by decide)] at k
    simp (disch := first | assumption | exact wn2_i | exact wn2_r | exact wn2_n | exact Nat.le_of_ble_eq_true rfl | omega | (refine nI_z ?_ ?_ <;> omega)) only [s59_0, s59_1, s59_4, s59_5, s59_8, s59_11, s59_12, s59_13, s59_14, s59_15, s59_16, s59_18, s59_21, s59_22, s59_25, s59_26, s59_29, s59_32, s59_33, s59_36, s59_39, s59_40, s59_41, s59_42, s59_43, s59_46, s59_47, s59_50, s59_51, s59_54, s59_57, s59_58, s59_61, s59_62, s59_63, s59_66, s59_69, s59_71, wX_some, Option.toList_some, Option.toList_none, List.cons_append, List.nil_append, List.map_cons, List.map_nil, List.sum_cons, List.sum_nil, Value.category, wn2_i, wn2_r, wn2_n, Option.isSome_some, List.getElem?_cons_zero, List.getElem?_cons_succ, nI_add, nI_rem2, g5, hw, hr, Bool.false_eq_true, if_false, nI_eq0, if_true]
    exact k h hc0 Off.rf
  | true =>
    rw [hr, if_pos rfl] at k
    obtain ⟨j, j1, j2, rfl⟩ := rng_nI (by omega) hr
    rw [nat_nI (by omega)] at k
    have hj : j < A 7 0 := by omega
    obtain ⟨R, hRR⟩ : ∃ R, pnt A j 41 0 = R := ⟨_, rfl⟩
    rw [hRR] at k
    have key : ∀ f n, n + f = 41 → ∀ h1, CI h1 T m A U K L → Off h h1 0 97 → pnt A j f n = R → WP sc 59 15 [some (.ref 0), some (.int (nI j)), some (.int (nI n))] [] h1 Q := by
      intro f
      induction f with
      | zero =>
        intro n hn h1 hc1 ho1 he
        have hgt : nI 40 < nI n := nI_lt (by omega) (by omega)
        rw [s59_15]
        simp (disch := first | assumption | exact wn2_i | exact wn2_r | exact wn2_n | exact Nat.le_of_ble_eq_true rfl | omega | (refine nI_z ?_ ?_ <;> omega)) only [s59_16, s59_18, s59_21, s59_22, s59_25, s59_26, s59_29, s59_32, s59_33, s59_36, s59_39, s59_40, s59_41, s59_42, s59_43, s59_46, s59_47, s59_50, s59_51, s59_54, s59_57, s59_58, s59_61, s59_62, s59_63, s59_66, s59_69, s59_71, wX_some, Option.toList_some, Option.toList_none, List.cons_append, List.nil_append, List.map_cons, List.map_nil, List.sum_cons, List.sum_nil, Value.category, wn2_i, wn2_r, wn2_n, Option.isSome_some, List.getElem?_cons_zero, List.getElem?_cons_succ, nI_add, nI_rem2, hgt, if_true]
        rw [← he] at k
        exact k h1 hc1 ho1
      | succ f ih =>
        intro n hn h1 hc1 ho1 he
        have hgt : ¬ nI 40 < nI n := nI_nlt (by omega) (by omega)
        obtain ⟨g5, i0, iS, iT, iR, iP, iK, iG, iO⟩ := CI.facts hc1
        rw [s59_15]
        simp (disch := first | assumption | exact wn2_i | exact wn2_r | exact wn2_n | exact Nat.le_of_ble_eq_true rfl | omega | (refine nI_z ?_ ?_ <;> omega)) only [s59_16, s59_18, s59_21, s59_22, s59_25, s59_26, s59_29, wX_some, Option.toList_some, Option.toList_none, List.cons_append, List.nil_append, List.map_cons, List.map_nil, List.sum_cons, List.sum_nil, Value.category, wn2_i, wn2_r, wn2_n, Option.isSome_some, List.getElem?_cons_zero, List.getElem?_cons_succ, nI_add, nI_rem2, hgt, if_false, g5]
        refine c_cop hc1 hAG0 (fun h2 hc2 hT2 ho2 => ?_)
        obtain ⟨g5, i0, iS, iT, iR, iP, iK, iG, iO⟩ := CI.facts hc2
        obtain ⟨kd, we, us, di, st, wo, hgT, hi', hI, a1, a2, a3, a4, a5, a6, g1, g2, g3, g4, g5', g6, k1, k2, k3, k4, k5, k6, hlen⟩ := hT2.facts
        simp (disch := first | assumption | exact wn2_i | exact wn2_r | exact wn2_n | exact Nat.le_of_ble_eq_true rfl | omega | (refine nI_z ?_ ?_ <;> omega)) only [s59_32, s59_33, s59_36, s59_39, s59_40, s59_41, wX_some, Option.toList_some, Option.toList_none, List.cons_append, List.nil_append, List.map_cons, List.map_nil, List.sum_cons, List.sum_nil, Value.category, wn2_i, wn2_r, wn2_n, Option.isSome_some, List.getElem?_cons_zero, List.getElem?_cons_succ, nI_add, nI_rem2, g5, hgT, a4, g4, iat_n]
        obtain ⟨hc3, hT3, ho3⟩ : CI (h2.set (cR + 4) (ms_ia (di.set j (nI n)))) T m A U K L ∧ TA (h2.set (cR + 4) (ms_ia (di.set j (nI n)))) cR (up2 A 1 j n) ∧ Off h2 (h2.set (cR + 4) (ms_ia (di.set j (nI n)))) 0 97 := CI.up (d := 3) hc2 hT2 (by omega) (k4.put (by omega))
        generalize h2.set (cR + 4) (ms_ia (di.set j (nI n))) = h3 at hc3 hT3 ho3 ⊢
        obtain ⟨g5, i0, iS, iT, iR, iP, iK, iG, iO⟩ := CI.facts hc3
        simp (disch := first | assumption | exact wn2_i | exact wn2_r | exact wn2_n | exact Nat.le_of_ble_eq_true rfl | omega | (refine nI_z ?_ ?_ <;> omega)) only [s59_42, s59_43, s59_46, s59_47, wX_some, Option.toList_some, Option.toList_none, List.cons_append, List.nil_append, List.map_cons, List.map_nil, List.sum_cons, List.sum_nil, Value.category, wn2_i, wn2_r, wn2_n, Option.isSome_some, List.getElem?_cons_zero, List.getElem?_cons_succ, nI_add, nI_rem2, g5]
        have hAG1 := upA_ag1 (i := j) hAG0 (show n ≤ 40 by omega)
        refine c_nq (lost := false) hc3 hT3 hAG1 (show A 4 0 ≤ 200000 by omega) (fun h4 hc4 hT4 ho4 => ?_)
        obtain ⟨g5, i0, iS, iT, iR, iP, iK, iG, iO⟩ := CI.facts hc4
        obtain ⟨_, _, _, _, _, _, hgT, -⟩ := hT4.facts
        have hwl : whoA (up2 A 1 j n) false < A 7 0 := whoA_lt (l := false) hAG1
        have hch : ms_get h4 cR 4 9 = some (.int (nI (whoA (up2 A 1 j n) false))) := by
          rw [hgT 9]; rfl
        have hch2 : nqA (up2 A 1 j n) false 4 2 = whoA (up2 A 1 j n) false + 1 := rfl
        have ho5 := ((ho1.tr ho2).tr ho3).tr ho4
        unfold pnt at he
        rw [hch2] at he
        by_cases hs : whoA (up2 A 1 j n) false = j
        · rw [if_pos (by omega)] at he
          simp (disch := first | assumption | exact wn2_i | exact wn2_r | exact wn2_n | exact Nat.le_of_ble_eq_true rfl | omega | (refine nI_z ?_ ?_ <;> omega)) only [s59_50, s59_51, s59_54, s59_57, s59_58, s59_61, s59_62, wX_some, Option.toList_some, Option.toList_none, List.cons_append, List.nil_append, List.map_cons, List.map_nil, List.sum_cons, List.sum_nil, Value.category, wn2_i, wn2_r, wn2_n, Option.isSome_some, List.getElem?_cons_zero, List.getElem?_cons_succ, nI_add, nI_rem2, g5, hch, hs, if_true]
          rw [← he] at k
          exact k h4 hc4 ho5
        · rw [if_neg (by omega)] at he
          have hne : (nI (whoA (up2 A 1 j n) false) = nI j) ↔ False := ⟨fun e => hs ((nI_eq (by omega) (by omega)).mp e), False.elim⟩
          simp (disch := first | assumption | exact wn2_i | exact wn2_r | exact wn2_n | exact Nat.le_of_ble_eq_true rfl | omega | (refine nI_z ?_ ?_ <;> omega)) only [s59_50, s59_51, s59_54, s59_57, s59_58, s59_61, s59_62, s59_63, s59_66, wX_some, Option.toList_some, Option.toList_none, List.cons_append, List.nil_append, List.map_cons, List.map_nil, List.sum_cons, List.sum_nil, Value.category, wn2_i, wn2_r, wn2_n, Option.isSome_some, List.getElem?_cons_zero, List.getElem?_cons_succ, nI_add, nI_rem2, g5, hch, hne, if_false]
          exact ih (n + 1) (by omega) h4 hc4 ho5 he
    simp (disch := first | assumption | exact wn2_i | exact wn2_r | exact wn2_n | exact Nat.le_of_ble_eq_true rfl | omega | (refine nI_z ?_ ?_ <;> omega)) only [s59_0, s59_1, s59_4, s59_5, s59_8, s59_11, s59_12, s59_13, s59_14, wX_some, Option.toList_some, Option.toList_none, List.cons_append, List.nil_append, List.map_cons, List.map_nil, List.sum_cons, List.sum_nil, Value.category, wn2_i, wn2_r, wn2_n, Option.isSome_some, List.getElem?_cons_zero, List.getElem?_cons_succ, nI_add, nI_rem2, g5, hw, hr, if_false, nI_eq0, if_true, Nat.reduceEqDiff]
    exact key 41 0 (by omega) h hc0 Off.rf hRR
end CQ2

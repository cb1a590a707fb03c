-- MayorsChair's calls: acts
def op_pass (x : Int32) (S : GS) : OPR := if rng 1 20 x then if 999 < S.2.1 4 0 + nat x then (-2, S) else (chI (lpA S.2.1 (nat x) 4 2), (S.1, lpA S.2.1 (nat x), psh 8 S.2.2.1 S.2.1, S.2.2.2)) else (-1, S)
def op_mud (s x : Int32) (S : GS) : OPR := if inS S.2.1 s && rng 0 40 x then if S.2.1 1 (nat s) = nat x then (-2, S) else (nI (S.2.1 1 (nat s)), (S.1, up2 S.2.1 1 (nat s) (nat x), psh 8 S.2.2.1 S.2.1, S.2.2.2)) else (-1, S)
def op_give (s t g : Int32) (S : GS) : OPR := if inS S.2.1 s && inS S.2.1 t && !decide (s = t) && rng 1 40 g then if nat g ≤ S.2.1 0 (nat s) ∧ S.2.1 0 (nat t) < 960 then (nI (S.2.1 0 (nat s) - nat g), (S.1, giveA S.2.1 (nat s) (nat t) (nat g), psh 8 S.2.2.1 S.2.1, S.2.2.2)) else (-2, S) else (-1, S)
def chgA (A : AS) (a b : Nat) : AS := up2 (up2 A 3 a (A 3 b)) 3 b (A 3 a)
def op_change (a b : Int32) (S : GS) : OPR := if inW S.2.1 a && inW S.2.1 b && !decide (a = b) then (nI (chgA S.2.1 (nat a) (nat b) 3 (S.2.1 4 0 % S.2.1 7 1)), (S.1, chgA S.2.1 (nat a) (nat b), psh 8 S.2.2.1 S.2.1, S.2.2.2)) else (-1, S)
def op_undo (S : GS) : OPR := match S.2.2.1.getLast? with
  | none => (-2, S)
  | some B => (nI (S.2.2.1.length - 1), (S.1, B, S.2.2.1.dropLast, S.2.2.2))
section CACT
variable {sc : List Int32} {h : List ms_C} {Q : Option Value → List ms_C → Prop} {S : GS}
theorem CI.act {T : Nat → Nat} {m : Nat} {A A' : AS} {U U' K : List AS} {L : List (Nat × Nat)} {h1 : List ms_C} (hc : CI h T m A U K L) (hP1 : PA h1 cP 8 U') (hT1 : TA h1 cT A') (hx : OffX h h1 (fun i => (cT ≤ i ∧ i < cT + 7) ∨ (cP ≤ i ∧ i < cP + 58))) : CI h1 T m A' U' K L := by
  have lay := cLay
  obtain ⟨h0, ⟨p', hs⟩, hT, ⟨B', hR⟩, hP, hK, hG, ⟨t, be, htb, hO⟩⟩ := hc
  exact ⟨(hx.2 0 (by omega)).trans h0, ⟨p', hs.offX hx (fun i x1 x2 => by omega)⟩, hT1, ⟨B', hR.offX hx (fun i x1 x2 => by omega)⟩, hP1, hK.offX hx (fun i x1 x2 => by omega), hG.offX hx (fun i x1 x2 => by omega), ⟨t, be, htb, hO.offX hx (fun i x1 x2 => by omega)⟩⟩
theorem CI.put {T : Nat → Nat} {m : Nat} {A : AS} {U K : List AS} {L : List (Nat × Nat)} {h1 : List ms_C} (hc : CI h T m A U K L) (hP1 : PA h1 cP 8 (psh 8 U A)) (ho : Off h h1 cP (2 + 7 * 8)) : CI h1 T m A (psh 8 U A) K L := by
  have lay := cLay
  exact CI.act hc hP1 (hc.2.2.1.off ho (by omega)) (ho.x (fun i x1 x2 => Or.inr (by omega)))
theorem c_pass (hc : CIS h S) (hg : GIS S) {x : Int32} (k : ∀ h1, CIS h1 (op_pass x S).2 → Off h h1 0 97 → Q (some (.int (op_pass x S).1)) h1) : WP sc 50 0 [some (.ref 0), some (.int x)] [] h Q := by
  obtain ⟨⟨T, m⟩, A, U, K, L⟩ := S
  have lay := cLay
  have hc : CI h T m A U K L := hc
  have hg : GI m A U K L := hg
  have hc0 := hc
  obtain ⟨g5, i0, iS, iT, iR, iP, iK, iG, iO⟩ := CI.facts hc
  obtain ⟨-, hAG, hq, -⟩ := hg
  have hAG0 := hAG
  obtain ⟨⟨G1, G2⟩, ⟨G3, G4⟩, G5, G6, G7⟩ := hAG
  obtain ⟨_, _, _, _, _, _, hgT, -⟩ := hc.2.2.1.facts
  unfold op_pass at k
  dsimp only at k
  cases hr : rng 1 20 x with
  | false =>
    rw [hr, if_neg (by decide)] at k
    simp (disch := first | assumption | exact wn2_i | exact wn2_r | exact wn2_n | exact Nat.le_of_ble_eq_true rfl | omega | (refine nI_z ?_ ?_ <;> omega)) only [s50_0, s50_1, s50_2, s50_4, s50_7, s50_10, s50_11, s50_12, s50_13, s50_16, s50_19, s50_20, s50_21, s50_24, s50_27, s50_29, s50_30, s50_31, s50_34, s50_35, s50_38, s50_41, s50_42, s50_45, s50_46, s50_49, s50_50, s50_53, s50_56, wX_some, Option.toList_some, Option.toList_none, List.cons_append, List.nil_append, List.map_cons, List.map_nil, List.sum_cons, List.sum_nil, Value.category, wn2_i, wn2_r, wn2_n, Option.isSome_some, List.getElem?_cons_zero, List.getElem?_cons_succ, nI_add, nI_rem2, within_rng, hr, Bool.false_eq_true, if_false, nI_eq0, if_true]
    exact k h hc0 Off.rf
  | true =>
    rw [hr, if_pos rfl] at k
    obtain ⟨n, n1, n2, rfl⟩ := rng_nI (by omega) hr
    rw [nat_nI (by omega)] at k
    by_cases hq2 : 999 < A 4 0 + n
    · rw [if_pos hq2] at k
      have e1 : ¬ nI (A 4 0 + n) ≤ nI 999 := nI_ge hq2 (by omega)
      simp (disch := first | assumption | exact wn2_i | exact wn2_r | exact wn2_n | exact Nat.le_of_ble_eq_true rfl | omega | (refine nI_z ?_ ?_ <;> omega)) only [s50_0, s50_1, s50_2, s50_4, s50_7, s50_10, s50_11, s50_12, s50_13, s50_16, s50_19, s50_20, s50_21, s50_24, s50_27, s50_29, s50_30, s50_31, s50_34, s50_35, s50_38, s50_41, s50_42, s50_45, s50_46, s50_49, s50_50, s50_53, s50_56, wX_some, Option.toList_some, Option.toList_none, List.cons_append, List.nil_append, List.map_cons, List.map_nil, List.sum_cons, List.sum_nil, Value.category, wn2_i, wn2_r, wn2_n, Option.isSome_some, List.getElem?_cons_zero, List.getElem?_cons_succ, nI_add, nI_rem2, within_rng, hr, if_true, nI_eq0, if_false, Nat.reduceEqDiff, g5, hgT, e1]
      exact k h hc0 Off.rf
    · rw [if_neg hq2] at k
      have e1 : nI (A 4 0 + n) ≤ nI 999 := nI_le (by omega) (by omega)
      simp (disch := first | assumption | exact wn2_i | exact wn2_r | exact wn2_n | exact Nat.le_of_ble_eq_true rfl | omega | (refine nI_z ?_ ?_ <;> omega)) only [s50_0, s50_1, s50_2, s50_4, s50_7, s50_10, s50_11, s50_12, s50_13, s50_16, s50_19, s50_20, s50_21, s50_24, s50_27, s50_29, s50_30, s50_31, s50_34, s50_35, s50_38, wX_some, Option.toList_some, Option.toList_none, List.cons_append, List.nil_append, List.map_cons, List.map_nil, List.sum_cons, List.sum_nil, Value.category, wn2_i, wn2_r, wn2_n, Option.isSome_some, List.getElem?_cons_zero, List.getElem?_cons_succ, nI_add, nI_rem2, within_rng, hr, if_true, nI_eq0, if_false, Nat.reduceEqDiff, g5, hgT, e1]
      refine put_wp hc.2.2.2.2.1 (by omega) hc.2.2.1 G2 G4 (by omega) (fun h1 hP1 ho1 => ?_)
      have hc1 := CI.put hc hP1 ho1
      obtain ⟨g5, i0, iS, iT, iR, iP, iK, iG, iO⟩ := CI.facts hc1
      simp (disch := first | assumption | exact wn2_i | exact wn2_r | exact wn2_n | exact Nat.le_of_ble_eq_true rfl | omega | (refine nI_z ?_ ?_ <;> omega)) only [s50_41, s50_42, s50_45, s50_46, wX_some, Option.toList_some, Option.toList_none, List.cons_append, List.nil_append, List.map_cons, List.map_nil, List.sum_cons, List.sum_nil, Value.category, wn2_i, wn2_r, wn2_n, Option.isSome_some, List.getElem?_cons_zero, List.getElem?_cons_succ, nI_add, nI_rem2, g5]
      refine letPass_wp hc1.2.2.1 hAG0 (by omega) (by omega) (fun h2 hT2 ho2 => ?_)
      have hc2 : CI h2 T m (lpA A n) (psh 8 U A) K L := CI.act hc1 (hP1.offX (ho2.x (P := fun i => cT ≤ i ∧ i < cT + 7) (fun i x1 x2 => ⟨x1, x2⟩)) (fun i x1 x2 => by omega)) hT2 (ho2.x (fun i x1 x2 => Or.inl ⟨x1, x2⟩))
      obtain ⟨g5, -⟩ := CI.facts hc2
      obtain ⟨_, _, _, _, _, _, hgT2, -⟩ := hT2.facts
      simp (disch := first | assumption | exact wn2_i | exact wn2_r | exact wn2_n | exact Nat.le_of_ble_eq_true rfl | omega | (refine nI_z ?_ ?_ <;> omega)) only [s50_49, s50_50, s50_53, s50_56, wX_some, Option.toList_some, Option.toList_none, List.cons_append, List.nil_append, List.map_cons, List.map_nil, List.sum_cons, List.sum_nil, Value.category, wn2_i, wn2_r, wn2_n, Option.isSome_some, List.getElem?_cons_zero, List.getElem?_cons_succ, nI_add, nI_rem2, g5, hgT2]
      exact k h2 hc2 ((ho1.wide (by omega) (by omega)).tr (ho2.wide (by omega) (by omega)))
theorem c_mud (hc : CIS h S) (hg : GIS S) {s x : Int32} {l3 : Option Value} (k : ∀ h1, CIS h1 (op_mud s x S).2 → Off h h1 0 97 → Q (some (.int (op_mud s x S).1)) h1) : WP sc 51 0 [some (.ref 0), some (.int s), some (.int x), l3] [] h Q := by
  obtain ⟨⟨T, m⟩, A, U, K, L⟩ := S
  have lay := cLay
  have hc : CI h T m A U K L := hc
  have hg : GI m A U K L := hg
  have hc0 := hc
  obtain ⟨g5, i0, iS, iT, iR, iP, iK, iG, iO⟩ := CI.facts hc
  obtain ⟨-, hAG, hq, -⟩ := hg
  obtain ⟨⟨G1, G2⟩, ⟨G3, G4⟩, G5, G6, G7⟩ := hAG
  obtain ⟨kd, we, us, di, st, wo, hgT, hi, hI, a1, a2, a3, a4, a5, a6, g1, g2, g3, g4, g5', g6, k1, k2, k3, k4, k5, k6, hlen⟩ := hc.2.2.1.facts
  have hw := fun Q => hasStreet_rng (sc := sc) (Q := Q) hc.2.2.1 (by omega) G2 (x := s)
  unfold op_mud inS at k
  dsimp only at k
  cases hr : rng 0 (A 7 0 - 1) s with
  | false =>
    rw [hr, Bool.false_and, if_neg (by decide)] at k
    simp (disch := first | assumption | exact wn2_i | exact wn2_r | exact wn2_n | exact Nat.le_of_ble_eq_true rfl | omega | (refine nI_z ?_ ?_ <;> omega)) only [s51_0, s51_1, s51_4, s51_5, s51_8, s51_11, s51_12, s51_13, s51_15, s51_18, s51_21, s51_22, s51_23, s51_24, s51_27, s51_30, s51_31, s51_32, s51_33, s51_34, s51_35, s51_38, s51_40, s51_41, s51_42, s51_45, s51_46, s51_49, s51_52, s51_53, s51_56, s51_59, s51_60, s51_61, s51_62, s51_63, wX_some, Option.toList_some, Option.toList_none, List.cons_append, List.nil_append, List.map_cons, List.map_nil, List.sum_cons, List.sum_nil, Value.category, wn2_i, wn2_r, wn2_n, Option.isSome_some, List.getElem?_cons_zero, List.getElem?_cons_succ, nI_add, nI_rem2, g5, hw, hr, Bool.false_eq_true, if_false, nI_eq0, if_true]
    exact k h hc0 Off.rf
  | true =>
    cases hr2 : rng 0 40 x with
    | false =>
      rw [hr, hr2, Bool.and_false, if_neg (by decide)] at k
      simp (disch := first | assumption | exact wn2_i | exact wn2_r | exact wn2_n | exact Nat.le_of_ble_eq_true rfl | omega | (refine nI_z ?_ ?_ <;> omega)) only [s51_0, s51_1, s51_4, s51_5, s51_8, s51_11, s51_12, s51_13, s51_15, s51_18, s51_21, s51_22, s51_23, s51_24, s51_27, s51_30, s51_31, s51_32, s51_33, s51_34, s51_35, s51_38, s51_40, s51_41, s51_42, s51_45, s51_46, s51_49, s51_52, s51_53, s51_56, s51_59, s51_60, s51_61, s51_62, s51_63, wX_some, Option.toList_some, Option.toList_none, List.cons_append, List.nil_append, List.map_cons, List.map_nil, List.sum_cons, List.sum_nil, Value.category, wn2_i, wn2_r, wn2_n, Option.isSome_some, List.getElem?_cons_zero, List.getElem?_cons_succ, nI_add, nI_rem2, g5, hw, hr, hr2, within_rng, Bool.false_eq_true, if_false, nI_eq0, if_true, Nat.reduceEqDiff]
      exact k h hc0 Off.rf
    | true =>
      rw [hr, hr2, Bool.and_true, if_pos rfl] at k
      obtain ⟨j, j1, j2, rfl⟩ := rng_nI (by omega) hr
      obtain ⟨n, n1, n2, rfl⟩ := rng_nI (by omega) hr2
      rw [nat_nI (by omega), nat_nI (by omega)] at k
      have hj : j < A 7 0 := by omega
      have b := G5 j hj
      have v4 := k4.2 j hj
      by_cases he : A 1 j = n
      · rw [if_pos he] at k
        simp (disch := first | assumption | exact wn2_i | exact wn2_r | exact wn2_n | exact Nat.le_of_ble_eq_true rfl | omega | (refine nI_z ?_ ?_ <;> omega)) only [s51_0, s51_1, s51_4, s51_5, s51_8, s51_11, s51_12, s51_13, s51_15, s51_18, s51_21, s51_22, s51_23, s51_24, s51_27, s51_30, s51_31, s51_32, s51_33, s51_34, s51_35, s51_38, s51_40, s51_41, s51_42, s51_45, s51_46, s51_49, s51_52, s51_53, s51_56, s51_59, s51_60, s51_61, s51_62, s51_63, wX_some, Option.toList_some, Option.toList_none, List.cons_append, List.nil_append, List.map_cons, List.map_nil, List.sum_cons, List.sum_nil, Value.category, wn2_i, wn2_r, wn2_n, Option.isSome_some, List.getElem?_cons_zero, List.getElem?_cons_succ, nI_add, nI_rem2, g5, hw, hr, hr2, within_rng, if_false, nI_eq0, if_true, Nat.reduceEqDiff, hgT, a4, g4, iat_n, v4, nI_eq, he]
        exact k h hc0 Off.rf
      · rw [if_neg he] at k
        simp (disch := first | assumption | exact wn2_i | exact wn2_r | exact wn2_n | exact Nat.le_of_ble_eq_true rfl | omega | (refine nI_z ?_ ?_ <;> omega)) only [s51_0, s51_1, s51_4, s51_5, s51_8, s51_11, s51_12, s51_13, s51_15, s51_18, s51_21, s51_22, s51_23, s51_24, s51_27, s51_30, s51_31, s51_32, s51_33, s51_34, s51_35, s51_38, s51_40, s51_41, s51_42, s51_45, s51_46, s51_49, wX_some, Option.toList_some, Option.toList_none, List.cons_append, List.nil_append, List.map_cons, List.map_nil, List.sum_cons, List.sum_nil, Value.category, wn2_i, wn2_r, wn2_n, Option.isSome_some, List.getElem?_cons_zero, List.getElem?_cons_succ, nI_add, nI_rem2, g5, hw, hr, hr2, within_rng, if_false, nI_eq0, if_true, Nat.reduceEqDiff, hgT, a4, g4, iat_n, v4, nI_eq, he]
        refine put_wp hc.2.2.2.2.1 (by omega) hc.2.2.1 G2 G4 (by omega) (fun h1 hP1 ho1 => ?_)
        have hc1 := CI.put hc hP1 ho1
        obtain ⟨g5, -⟩ := CI.facts hc1
        obtain ⟨kd, we, us, di, st, wo, hgT, hi, hI, a1, a2, a3, a4, a5, a6, g1, g2, g3, g4, g5', g6, k1, k2, k3, k4, k5, k6, hlen⟩ := hc1.2.2.1.facts
        simp (disch := first | assumption | exact wn2_i | exact wn2_r | exact wn2_n | exact Nat.le_of_ble_eq_true rfl | omega | (refine nI_z ?_ ?_ <;> omega)) only [s51_52, s51_53, s51_56, s51_59, s51_60, s51_61, s51_62, s51_63, wX_some, Option.toList_some, Option.toList_none, List.cons_append, List.nil_append, List.map_cons, List.map_nil, List.sum_cons, List.sum_nil, Value.category, wn2_i, wn2_r, wn2_n, Option.isSome_some, List.getElem?_cons_zero, List.getElem?_cons_succ, nI_add, nI_rem2, g5, hgT, a4, g4, iat_n]
        have ho2 : Off h1 (h1.set (cT + 4) (ms_ia (di.set j (nI n)))) cT 7 := Off.rf.st (by omega) (by omega)
        have hT2 : TA (h1.set (cT + 4) (ms_ia (di.set j (nI n)))) cT (up2 A 1 j n) := TA.arr (d := 3) hc1.2.2.1 (by omega) (k4.put (by omega))
        exact k _ (CI.act hc1 (hP1.offX (ho2.x (P := fun i => cT ≤ i ∧ i < cT + 7) (fun i x1 x2 => ⟨x1, x2⟩)) (fun i x1 x2 => by omega)) hT2 (ho2.x (fun i x1 x2 => Or.inl ⟨x1, x2⟩))) ((ho1.wide (by omega) (by omega)).tr (ho2.wide (by omega) (by omega)))
end CACT

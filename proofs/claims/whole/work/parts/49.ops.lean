-- MayorsChair's calls: behind, first, even, paint
def frs (A : AS) (c : Nat) : Nat → Nat → Option Nat
  | 0, _ => none
  | f + 1, n => if lpA A (n + 1) 4 2 = c then some (n + 1) else frs A c f (n + 1)
def gap (A : AS) : Nat := mxW A (A 7 0 - 1) - mnW A (A 7 0 - 1)
def evn (A : AS) (d : Nat) : Nat → Nat → Option Nat
  | 0, _ => none
  | f + 1, n => if gap (lpA A n) ≤ d then some n else evn A d f (n + 1)
def pnt (A : AS) (s : Nat) : Nat → Nat → Option Nat
  | 0, _ => none
  | f + 1, m => if nqA (up2 A 1 s m) false 4 2 = s + 1 then some m else pnt A s f (m + 1)
def op_behind (n s w : Int32) (S : GS) : OPR := if rng 0 60 n && inS S.2.1 s && rng 0 1 w then (if nat w = 0 then nI (lpA S.2.1 (nat n) 0 (nat s)) else nI (lpA S.2.1 (nat n) 2 (nat s)), S) else (-1, S)
def op_first (s : Int32) (S : GS) : OPR := if inS S.2.1 s then (fO (frs S.2.1 (nat s + 1) 60 0), S) else (-1, S)
def op_even (d : Int32) (S : GS) : OPR := if rng 0 99 d then (fO (evn S.2.1 (nat d) 61 0), S) else (-1, S)
def op_paint (s : Int32) (S : GS) : OPR := if inS S.2.1 s then (fO (pnt S.2.1 (nat s) 41 0), S) else (-1, S)
theorem chI_s {x : Nat} : chI (x + 1) = nI x := rfl
theorem mn_le_mx {A : AS} : ∀ k, mnW A k ≤ mxW A k := by
  intro k
  induction k with
  | zero => exact Nat.le_refl _
  | succ k ih =>
    unfold mnW mxW
    split <;> split <;> omega
section CQ
variable {sc : List Int32} {h : List ms_C} {Q : Option Value → List ms_C → Prop} {S : GS}
theorem c_cop {T : Nat → Nat} {m : Nat} {A : AS} {U K : List AS} {L : List (Nat × Nat)} (hc : CI h T m A U K L) (hG : AG A) {l2 : Option Value} (k : ∀ h1, CI h1 T m A U K L → TA h1 cR A → Off h h1 0 97 → Q none h1) : WP sc 25 0 [some (.ref cR), some (.ref cT), l2] [] h Q := by
  have lay := cLay
  have hc0 := hc
  obtain ⟨h0, hs, hT, ⟨B, hR⟩, -⟩ := hc
  exact become_wp hR hT (by omega) hG.1.2 hG.2.1.2 (fun h1 hT1 ho1 => k h1 (CI.trial hc0 ho1 hT1) hT1 (ho1.wide (by omega) (by omega)))
theorem c_nq {T : Nat → Nat} {m : Nat} {A B : AS} {U K : List AS} {L : List (Nat × Nat)} (hc : CI h T m A U K L) (hT : TA h cR B) (hG : AG B) (hq : B 4 0 ≤ 200000) (lost : Bool) {l2 : Option Value} (k : ∀ h1, CI h1 T m A U K L → TA h1 cR (nqA B lost) → Off h h1 0 97 → Q none h1) : WP sc 30 0 [some (.ref cR), some (.int (if lost then nI 1 else nI 0)), l2] [] h Q := by
  have lay := cLay
  exact nextQuarter_wp hT hG hq (fun h1 hT1 ho1 => k h1 (CI.trial hc ho1 hT1) hT1 (ho1.wide (by omega) (by omega)))
theorem c_behind (hc : CIS h S) (hg : GIS S) {n s w : Int32} (k : ∀ h1, CIS h1 (op_behind n s w S).2 → Off h h1 0 97 → Q (some (.int (op_behind n s w S).1)) h1) : WP sc 55 0 [some (.ref 0), some (.int n), some (.int s), some (.int w)] [] h Q := by
  obtain ⟨⟨T, m⟩, A, U, K, L⟩ := S
  have lay := cLay
  have hc : CI h T m A U K L := hc
  have hg : GI m A U K L := hg
  have hc0 := hc
  obtain ⟨g5, i0, iS, iT, iR, iP, iK, iG, iO⟩ := CI.facts hc
  obtain ⟨-, hAG, hq, -⟩ := hg
  have hAG0 := hAG
  obtain ⟨⟨G1, G2⟩, ⟨G3, G4⟩, G5, G6, G7⟩ := hAG
  have hw := fun Q x => hasStreet_rng (sc := sc) (Q := Q) hc.2.2.1 (by omega) G2 (x := x)
  unfold op_behind inS at k
  dsimp only at k
  cases hr : rng 0 60 n with
  | false =>
    rw [hr, Bool.false_and, Bool.false_and, if_neg (by decide)] at k
    simp (disch := first | assumption | exact wn2_i | exact wn2_r | exact wn2_n | exact Nat.le_of_ble_eq_true rfl | omega | (refine nI_z ?_ ?_ <;> omega)) only [s55_0, s55_1, s55_2, s55_4, s55_7, s55_10, s55_11, s55_14, s55_15, s55_18, s55_21, s55_22, s55_23, s55_24, s55_27, s55_30, s55_31, s55_32, s55_33, s55_36, s55_37, s55_40, s55_43, s55_44, s55_47, s55_48, s55_51, s55_52, s55_55, s55_56, s55_59, s55_62, s55_63, s55_64, s55_67, s55_68, s55_71, s55_74, s55_75, s55_76, wX_some, Option.toList_some, Option.toList_none, List.cons_append, List.nil_append, List.map_cons, List.map_nil, List.sum_cons, List.sum_nil, Value.category, wn2_i, wn2_r, wn2_n, Option.isSome_some, List.getElem?_cons_zero, List.getElem?_cons_succ, nI_add, nI_rem2, within_rng, hr, Bool.false_eq_true, if_false, nI_eq0, if_true]
    exact k h hc0 Off.rf
  | true =>
    cases hr2 : rng 0 (A 7 0 - 1) s with
    | false =>
      rw [hr2, Bool.and_false, Bool.false_and, if_neg (by decide)] at k
      simp (disch := first | assumption | exact wn2_i | exact wn2_r | exact wn2_n | exact Nat.le_of_ble_eq_true rfl | omega | (refine nI_z ?_ ?_ <;> omega)) only [s55_0, s55_1, s55_2, s55_4, s55_7, s55_10, s55_11, s55_14, s55_15, s55_18, s55_21, s55_22, s55_23, s55_24, s55_27, s55_30, s55_31, s55_32, s55_33, s55_36, s55_37, s55_40, s55_43, s55_44, s55_47, s55_48, s55_51, s55_52, s55_55, s55_56, s55_59, s55_62, s55_63, s55_64, s55_67, s55_68, s55_71, s55_74, s55_75, s55_76, wX_some, Option.toList_some, Option.toList_none, List.cons_append, List.nil_append, List.map_cons, List.map_nil, List.sum_cons, List.sum_nil, Value.category, wn2_i, wn2_r, wn2_n, Option.isSome_some, List.getElem?_cons_zero, List.getElem?_cons_succ, nI_add, nI_rem2, g5, hw, hr, hr2, within_rng, Bool.false_eq_true, if_false, nI_eq0, if_true, Nat.reduceEqDiff]
      exact k h hc0 Off.rf
    | true =>
      cases hr3 : rng 0 1 w with
      | false =>
        rw [hr3, Bool.and_false, if_neg (by decide)] at k
        simp (disch := first | assumption | exact wn2_i | exact wn2_r | exact wn2_n | exact Nat.le_of_ble_eq_true rfl | omega | (refine nI_z ?_ ?_ <;> omega)) only [s55_0, s55_1, s55_2, s55_4, s55_7, s55_10, s55_11, s55_14, s55_15, s55_18, s55_21, s55_22, s55_23, s55_24, s55_27, s55_30, s55_31, s55_32, s55_33, s55_36, s55_37, s55_40, s55_43, s55_44, s55_47, s55_48, s55_51, s55_52, s55_55, s55_56, s55_59, s55_62, s55_63, s55_64, s55_67, s55_68, s55_71, s55_74, s55_75, s55_76, wX_some, Option.toList_some, Option.toList_none, List.cons_append, List.nil_append, List.map_cons, List.map_nil, List.sum_cons, List.sum_nil, Value.category, wn2_i, wn2_r, wn2_n, Option.isSome_some, List.getElem?_cons_zero, List.getElem?_cons_succ, nI_add, nI_rem2, g5, hw, hr, hr2, hr3, within_rng, Bool.false_eq_true, if_false, nI_eq0, if_true, Nat.reduceEqDiff]
        exact k h hc0 Off.rf
      | true =>
        rw [hr, hr2, hr3, Bool.and_true, Bool.and_true, if_pos rfl] at k
        obtain ⟨i, i1, i2, rfl⟩ := rng_nI (by omega) hr
        obtain ⟨j, j1, j2, rfl⟩ := rng_nI (by omega) hr2
        obtain ⟨u, u1, u2, rfl⟩ := rng_nI (by omega) hr3
        rw [nat_nI (by omega), nat_nI (by omega), nat_nI (by omega)] at k
        have hj : j < A 7 0 := by omega
        simp (disch := first | assumption | exact wn2_i | exact wn2_r | exact wn2_n | exact Nat.le_of_ble_eq_true rfl | omega | (refine nI_z ?_ ?_ <;> omega)) only [s55_0, s55_1, s55_2, s55_4, s55_7, s55_10, s55_11, s55_14, s55_15, s55_18, s55_21, s55_22, s55_23, s55_24, s55_27, s55_30, s55_31, s55_32, s55_33, s55_36, s55_37, s55_40, wX_some, Option.toList_some, Option.toList_none, List.cons_append, List.nil_append, List.map_cons, List.map_nil, List.sum_cons, List.sum_nil, Value.category, wn2_i, wn2_r, wn2_n, Option.isSome_some, List.getElem?_cons_zero, List.getElem?_cons_succ, nI_add, nI_rem2, g5, hw, hr, hr2, hr3, within_rng, if_false, nI_eq0, if_true, Nat.reduceEqDiff]
        refine c_cop hc hAG0 (fun h1 hc1 hT1 ho1 => ?_)
        obtain ⟨g5, i0, iS, iT, iR, iP, iK, iG, iO⟩ := CI.facts hc1
        simp (disch := first | assumption | exact wn2_i | exact wn2_r | exact wn2_n | exact Nat.le_of_ble_eq_true rfl | omega | (refine nI_z ?_ ?_ <;> omega)) only [s55_43, s55_44, s55_47, s55_48, wX_some, Option.toList_some, Option.toList_none, List.cons_append, List.nil_append, List.map_cons, List.map_nil, List.sum_cons, List.sum_nil, Value.category, wn2_i, wn2_r, wn2_n, Option.isSome_some, List.getElem?_cons_zero, List.getElem?_cons_succ, nI_add, nI_rem2, g5]
        refine letPass_wp hT1 hAG0 (by omega) (by omega) (fun h2 hT2 ho2 => ?_)
        have hc2 := CI.trial hc1 ho2 hT2
        obtain ⟨g5, -⟩ := CI.facts hc2
        obtain ⟨kd, we, us, di, st, wo, hgT, hi, hI, a1, a2, a3, a4, a5, a6, g1, g2, g3, g4, g5', g6, k1, k2, k3, k4, k5, k6, hlen⟩ := hT2.facts
        have hj2 : j < lpA A i 7 0 := by rw [(lpA_s i).1]; exact hj
        have v2 := k2.2 j hj2
        have v5 := k5.2 j hj2
        by_cases hu : u = 0
        · rw [if_pos hu] at k
          subst hu
          simp (disch := first | assumption | exact wn2_i | exact wn2_r | exact wn2_n | exact Nat.le_of_ble_eq_true rfl | omega | (refine nI_z ?_ ?_ <;> omega)) only [s55_51, s55_52, s55_55, s55_56, s55_59, s55_62, s55_63, s55_64, s55_67, s55_68, s55_71, s55_74, s55_75, s55_76, wX_some, Option.toList_some, Option.toList_none, List.cons_append, List.nil_append, List.map_cons, List.map_nil, List.sum_cons, List.sum_nil, Value.category, wn2_i, wn2_r, wn2_n, Option.isSome_some, List.getElem?_cons_zero, List.getElem?_cons_succ, nI_add, nI_rem2, g5, hgT, a2, g2, iat_n, v2, nI_eq0, if_true]
          exact k h2 hc2 (ho1.tr (ho2.wide (by omega) (by omega)))
        · rw [if_neg hu] at k
          have hu0 : (nI u = 0) ↔ False := ⟨fun e => hu ((nI_eq0 (by omega)).mp e), False.elim⟩
          simp (disch := first | assumption | exact wn2_i | exact wn2_r | exact wn2_n | exact Nat.le_of_ble_eq_true rfl | omega | (refine nI_z ?_ ?_ <;> omega)) only [s55_51, s55_52, s55_55, s55_56, s55_59, s55_62, s55_63, s55_64, s55_67, s55_68, s55_71, s55_74, s55_75, s55_76, wX_some, Option.toList_some, Option.toList_none, List.cons_append, List.nil_append, List.map_cons, List.map_nil, List.sum_cons, List.sum_nil, Value.category, wn2_i, wn2_r, wn2_n, Option.isSome_some, List.getElem?_cons_zero, List.getElem?_cons_succ, nI_add, nI_rem2, g5, hgT, a5, g5', iat_n, v5, hu0, if_false]
          exact k h2 hc2 (ho1.tr (ho2.wide (by omega) (by omega)))
theorem c_first (hc : CIS h S) (hg : GIS S) {s : Int32} {l2 : Option Value} (k : ∀ h1, CIS h1 (op_first s S).2 → Off h h1 0 97 → Q (some (.int (op_first s S).1)) h1) : WP sc 56 0 [some (.ref 0), some (.int s), l2] [] h Q := by
  obtain ⟨⟨T, m⟩, A, U, K, L⟩ := S
  have lay := cLay
  have hc : CI h T m A U K L := hc
  have hg : GI m A U K L := hg
  have hc0 := hc
  obtain ⟨g5, i0, iS, iT, iR, iP, iK, iG, iO⟩ := CI.facts hc
  obtain ⟨-, hAG, hq, -⟩ := hg
  have hAG0 := hAG
  obtain ⟨⟨G1, G2⟩, ⟨G3, G4⟩, G5, G6, G7⟩ := hAG
  have hw := fun Q x => hasStreet_rng (sc := sc) (Q := Q) hc.2.2.1 (by omega) G2 (x := x)
  unfold op_first inS at k
  dsimp only at k
  cases hr : rng 0 (A 7 0 - 1) s with
  | false =>
    rw [hr, if_neg (by decide)] at k
    simp (disch := first | assumption | exact wn2_i | exact wn2_r | exact wn2_n | exact Nat.le_of_ble_eq_true rfl | omega | (refine nI_z ?_ ?_ <;> omega)) only [s56_0, s56_1, s56_4, s56_5, s56_8, s56_11, s56_12, s56_13, s56_14, s56_17, s56_18, s56_21, s56_24, s56_25, s56_26, s56_27, s56_29, s56_32, s56_33, s56_36, s56_37, s56_40, s56_41, s56_44, s56_47, s56_48, s56_51, s56_52, s56_53, s56_56, s56_59, s56_61, wX_some, Option.toList_some, Option.toList_none, List.cons_append, List.nil_append, List.map_cons, List.map_nil, List.sum_cons, List.sum_nil, Value.category, wn2_i, wn2_r, wn2_n, Option.isSome_some, List.getElem?_cons_zero, List.getElem?_cons_succ, nI_add, nI_rem2, g5, hw, hr, Bool.false_eq_true, if_false, nI_eq0, if_true]
    exact k h hc0 Off.rf
  | true =>
    rw [hr, if_pos rfl] at k
    obtain ⟨j, j1, j2, rfl⟩ := rng_nI (by omega) hr
    rw [nat_nI (by omega)] at k
    have hj : j < A 7 0 := by omega
    obtain ⟨R, hRR⟩ : ∃ R, frs A (j + 1) 60 0 = R := ⟨_, rfl⟩
    rw [hRR] at k
    have key : ∀ f n, n + f = 60 → ∀ h1, CI h1 T m A U K L → TA h1 cR (lpA A n) → Off h h1 0 97 → frs A (j + 1) f n = R → WP sc 56 26 [some (.ref 0), some (.int (nI j)), some (.int (nI (n + 1)))] [] h1 Q := by
      intro f
      induction f with
      | zero =>
        intro n hn h1 hc1 hT1 ho1 he
        have hgt : nI 60 < nI (n + 1) := nI_lt (by omega) (by omega)
        rw [s56_26]
        simp (disch := first | assumption | exact wn2_i | exact wn2_r | exact wn2_n | exact Nat.le_of_ble_eq_true rfl | omega | (refine nI_z ?_ ?_ <;> omega)) only [s56_27, s56_29, s56_32, s56_33, s56_36, s56_37, s56_40, s56_41, s56_44, s56_47, s56_48, s56_51, s56_52, s56_53, s56_56, s56_59, s56_61, wX_some, Option.toList_some, Option.toList_none, List.cons_append, List.nil_append, List.map_cons, List.map_nil, List.sum_cons, List.sum_nil, Value.category, wn2_i, wn2_r, wn2_n, Option.isSome_some, List.getElem?_cons_zero, List.getElem?_cons_succ, nI_add, nI_rem2, hgt, if_true]
        rw [← he] at k
        exact k h1 hc1 ho1
      | succ f ih =>
        intro n hn h1 hc1 hT1 ho1 he
        have hgt : ¬ nI 60 < nI (n + 1) := nI_nlt (by omega) (by omega)
        obtain ⟨g5, i0, iS, iT, iR, iP, iK, iG, iO⟩ := CI.facts hc1
        rw [s56_26]
        simp (disch := first | assumption | exact wn2_i | exact wn2_r | exact wn2_n | exact Nat.le_of_ble_eq_true rfl | omega | (refine nI_z ?_ ?_ <;> omega)) only [s56_27, s56_29, s56_32, s56_33, s56_36, s56_37, wX_some, Option.toList_some, Option.toList_none, List.cons_append, List.nil_append, List.map_cons, List.map_nil, List.sum_cons, List.sum_nil, Value.category, wn2_i, wn2_r, wn2_n, Option.isSome_some, List.getElem?_cons_zero, List.getElem?_cons_succ, nI_add, nI_rem2, hgt, if_false, g5]
        refine c_nq (lost := false) hc1 hT1 (lpA_ag hAG0 n) (by rw [(lpA_s n).2.2.2.2]; omega) (fun h2 hc2 hT2 ho2 => ?_)
        obtain ⟨g5, i0, iS, iT, iR, iP, iK, iG, iO⟩ := CI.facts hc2
        obtain ⟨_, _, _, _, _, _, hgT, -⟩ := hT2.facts
        have hwl := whoA_lt (l := false) (lpA_ag hAG0 n)
        have h7 : lpA A n 7 0 = A 7 0 := by rw [(lpA_s n).1]
        have hch : ms_get h2 cR 4 9 = some (.int (nI (whoA (lpA A n) false))) := by
          rw [hgT 9]; rfl
        have hch2 : lpA A (n + 1) 4 2 = whoA (lpA A n) false + 1 := rfl
        unfold frs at he
        rw [hch2] at he
        by_cases hs : whoA (lpA A n) false = j
        · rw [if_pos (by omega)] at he
          simp (disch := first | assumption | exact wn2_i | exact wn2_r | exact wn2_n | exact Nat.le_of_ble_eq_true rfl | omega | (refine nI_z ?_ ?_ <;> omega)) only [s56_40, s56_41, s56_44, s56_47, s56_48, s56_51, s56_52, wX_some, Option.toList_some, Option.toList_none, List.cons_append, List.nil_append, List.map_cons, List.map_nil, List.sum_cons, List.sum_nil, Value.category, wn2_i, wn2_r, wn2_n, Option.isSome_some, List.getElem?_cons_zero, List.getElem?_cons_succ, nI_add, nI_rem2, g5, hch, hs, if_true]
          rw [← he] at k
          exact k h2 hc2 (ho1.tr ho2)
        · rw [if_neg (by omega)] at he
          have hne : (nI (whoA (lpA A n) false) = nI j) ↔ False := ⟨fun e => hs ((nI_eq (by omega) (by omega)).mp e), False.elim⟩
          simp (disch := first | assumption | exact wn2_i | exact wn2_r | exact wn2_n | exact Nat.le_of_ble_eq_true rfl | omega | (refine nI_z ?_ ?_ <;> omega)) only [s56_40, s56_41, s56_44, s56_47, s56_48, s56_51, s56_52, s56_53, s56_56, wX_some, Option.toList_some, Option.toList_none, List.cons_append, List.nil_append, List.map_cons, List.map_nil, List.sum_cons, List.sum_nil, Value.category, wn2_i, wn2_r, wn2_n, Option.isSome_some, List.getElem?_cons_zero, List.getElem?_cons_succ, nI_add, nI_rem2, g5, hch, hne, if_false]
          exact ih (n + 1) (by omega) h2 hc2 hT2 (ho1.tr ho2) he
    simp (disch := first | assumption | exact wn2_i | exact wn2_r | exact wn2_n | exact Nat.le_of_ble_eq_true rfl | omega | (refine nI_z ?_ ?_ <;> omega)) only [s56_0, s56_1, s56_4, s56_5, s56_8, s56_11, s56_12, s56_13, s56_14, s56_17, s56_18, s56_21, wX_some, Option.toList_some, Option.toList_none, List.cons_append, List.nil_append, List.map_cons, List.map_nil, List.sum_cons, List.sum_nil, Value.category, wn2_i, wn2_r, wn2_n, Option.isSome_some, List.getElem?_cons_zero, List.getElem?_cons_succ, nI_add, nI_rem2, g5, hw, hr, if_false, nI_eq0, if_true, Nat.reduceEqDiff]
    refine c_cop hc hAG0 (fun h1 hc1 hT1 ho1 => ?_)
    simp (disch := first | assumption | exact wn2_i | exact wn2_r | exact wn2_n | exact Nat.le_of_ble_eq_true rfl | omega | (refine nI_z ?_ ?_ <;> omega)) only [s56_24, s56_25, wX_some, Option.toList_some, Option.toList_none, List.cons_append, List.nil_append, List.map_cons, List.map_nil, List.sum_cons, List.sum_nil, Value.category, wn2_i, wn2_r, wn2_n, Option.isSome_some, List.getElem?_cons_zero, List.getElem?_cons_succ, nI_add, nI_rem2]
    exact key 60 0 (by omega) h1 hc1 hT1 ho1 hRR
end CQ

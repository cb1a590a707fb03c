-- the model's calls: behind, first, even, paint
section M68
variable {sc : List Int32} {h : List ms_C} {Q : Option Value → List ms_C → Prop} {o1 k1 o2 u2 : Int32} {T : Nat → Nat} {m : Nat} {A B : AS} {U K : List AS} {L : List (Nat × Nat)} {S : GS}
theorem m_nq (hM : MJ h o1 k1 o2 u2 T m A U K L) (hS : MS h o1 k1 o2 u2 B) (hG : AG B) (hq : B 4 0 ≤ 200000) (lost : Bool) {l2 l3 l4 l5 : Option Value} (k : ∀ h1, MJ h1 o1 k1 o2 u2 T m A U K L → MS h1 o1 k1 o2 u2 (nqA B lost) → Off h h1 97 13 → Q none h1) : WP sc 99 0 [some (.ref 97), some (.int (if lost then nI 1 else nI 0)), l2, l3, l4, l5] [] h Q :=
  goQuarter_wp hS hG hq lost (fun h1 hS1 ho1 => k h1 (hM.side hS1 ho1) hS1 (ho1.wide (by omega) (by omega)))
theorem m_aside (hM : MJ h (-4) k1 (-4) u2 T m A U K L) (hG : AG A) {l1 : Option Value} (k : ∀ h1, MJ h1 (-4) k1 (-4) u2 T m A U K L → MS h1 (-4) k1 (-4) u2 A → Off h h1 97 13 → Q none h1) : WP sc 91 0 [some (.ref 97), l1] [] h Q :=
  aside_wp hM hG (fun h1 hM1 hs1 ho1 => k h1 hM1 (hM1.ms0 hG.1.2 hs1) (ho1.wide (by omega) (by omega)))
theorem m_qs (hM : MJ h o1 k1 o2 u2 T m A U K L) (hS : MS h o1 k1 o2 u2 B) (hG : AG B) {n : Nat} (hn : n ≤ 1000) (hq : B 4 0 + n ≤ 200000) {l2 : Option Value} (k : ∀ h1, MJ h1 o1 k1 o2 u2 T m A U K L → MS h1 o1 k1 o2 u2 (lpA B n) → Off h h1 97 13 → Q none h1) : WP sc 98 0 [some (.ref 97), some (.int (nI n)), l2] [] h Q :=
  goQuarters_wp hS hG hn hq (fun h1 hS1 ho1 => k h1 (hM.side hS1 ho1) hS1 (ho1.wide (by omega) (by omega)))
theorem m_behind (hM : MIS h S) (hg : GIS S) {n s w : Int32} (k : ∀ h1, MIS h1 (op_behind n s w S).2 → Off h h1 97 13 → Q (some (.int (op_behind n s w S).1)) h1) : WP sc 108 0 [some (.ref 97), some (.int n), some (.int s), some (.int w)] [] h Q := by
  obtain ⟨⟨T, m⟩, A, U, K, L⟩ := S
  have hM0 := hM
  obtain ⟨k1, u2, hM⟩ := hM
  have hg : GI m A U K L := hg
  have hM : MJ h (-4) k1 (-4) u2 T m A U K L := hM
  obtain ⟨-, hAG, hq, -⟩ := hg
  have hAG0 := hAG
  obtain ⟨⟨G1, G2⟩, ⟨G3, G4⟩, G5, G6, G7⟩ := hAG
  have hw := fun Q x => isStreet_wp (sc := sc) (Q := Q) hM (by omega) G2 (x := x)
  obtain ⟨_, _, _, _, _, _, hI, -⟩ := hM.facts
  unfold op_behind inS at k
  dsimp only at k
  cases hr : rng 0 60 n with
  | false =>
    rw [hr, Bool.false_and, Bool.false_and, if_neg (by decide)] at k
    simp (disch := first | assumption | exact wn2_i | exact wn2_r | exact wn2_n | exact Nat.le_of_ble_eq_true rfl | omega | (refine nI_z ?_ ?_ <;> omega)) only [s108_0, s108_1, s108_2, s108_3, s108_6, s108_9, s108_12, s108_13, s108_14, s108_17, s108_20, s108_21, s108_22, s108_23, s108_24, s108_27, s108_30, s108_31, wX_some, Option.toList_some, Option.toList_none, List.cons_append, List.nil_append, List.map_cons, List.map_nil, List.sum_cons, List.sum_nil, Value.category, wn2_i, wn2_r, wn2_n, Option.isSome_some, List.getElem?_cons_zero, List.getElem?_cons_succ, nI_add, nI_rem2, in_rng, hr, Bool.false_eq_true, if_false, nI_eq0, if_true]
    exact k h hM0 Off.rf
  | true =>
    cases hr2 : rng 0 (A 7 0 - 1) s with
    | false =>
      rw [hr2, Bool.and_false, Bool.false_and, if_neg (by decide)] at k
      simp (disch := first | assumption | exact wn2_i | exact wn2_r | exact wn2_n | exact Nat.le_of_ble_eq_true rfl | omega | (refine nI_z ?_ ?_ <;> omega)) only [s108_0, s108_1, s108_2, s108_3, s108_6, s108_9, s108_12, s108_13, s108_14, s108_17, s108_20, s108_21, s108_22, s108_23, s108_24, s108_27, s108_30, s108_31, wX_some, Option.toList_some, Option.toList_none, List.cons_append, List.nil_append, List.map_cons, List.map_nil, List.sum_cons, List.sum_nil, Value.category, wn2_i, wn2_r, wn2_n, Option.isSome_some, List.getElem?_cons_zero, List.getElem?_cons_succ, nI_add, nI_rem2, hw, hr, hr2, in_rng, Bool.false_eq_true, if_false, nI_eq0, if_true, Nat.reduceEqDiff]
      exact k h hM0 Off.rf
    | true =>
      cases hr3 : rng 0 1 w with
      | false =>
        rw [hr3, Bool.and_false, if_neg (by decide)] at k
        simp (disch := first | assumption | exact wn2_i | exact wn2_r | exact wn2_n | exact Nat.le_of_ble_eq_true rfl | omega | (refine nI_z ?_ ?_ <;> omega)) only [s108_0, s108_1, s108_2, s108_3, s108_6, s108_9, s108_12, s108_13, s108_14, s108_17, s108_20, s108_21, s108_22, s108_23, s108_24, s108_27, s108_30, s108_31, wX_some, Option.toList_some, Option.toList_none, List.cons_append, List.nil_append, List.map_cons, List.map_nil, List.sum_cons, List.sum_nil, Value.category, wn2_i, wn2_r, wn2_n, Option.isSome_some, List.getElem?_cons_zero, List.getElem?_cons_succ, nI_add, nI_rem2, hw, hr, hr2, hr3, in_rng, Bool.false_eq_true, if_false, nI_eq0, if_true, Nat.reduceEqDiff]
        exact k h hM0 Off.rf
      | true =>
        rw [hr, hr2, hr3, Bool.and_true, Bool.and_true, if_pos rfl] at k
        obtain ⟨i, i1, i2, rfl⟩ := rng_nI (by omega) hr
        obtain ⟨j, j1, j2, rfl⟩ := rng_nI (by omega) hr2
        obtain ⟨u, u1, u2', rfl⟩ := rng_nI (by omega) hr3
        rw [nat_nI (by omega), nat_nI (by omega), nat_nI (by omega)] at k
        have hj : j < A 7 0 := by omega
        simp (disch := first | assumption | exact wn2_i | exact wn2_r | exact wn2_n | exact Nat.le_of_ble_eq_true rfl | omega | (refine nI_z ?_ ?_ <;> omega)) only [s108_0, s108_1, s108_2, s108_3, s108_6, s108_9, s108_12, s108_13, s108_14, s108_17, s108_20, s108_21, s108_22, s108_23, s108_24, s108_27, s108_30, s108_31, s108_32, s108_33, wX_some, Option.toList_some, Option.toList_none, List.cons_append, List.nil_append, List.map_cons, List.map_nil, List.sum_cons, List.sum_nil, Value.category, wn2_i, wn2_r, wn2_n, Option.isSome_some, List.getElem?_cons_zero, List.getElem?_cons_succ, nI_add, nI_rem2, hw, hr, hr2, hr3, in_rng, if_false, nI_eq0, if_true, Nat.reduceEqDiff]
        refine m_aside hM hAG0 (fun h1 hM1 hS1 ho1 => ?_)
        obtain ⟨_, _, _, _, _, _, hI, -⟩ := hM1.facts
        simp (disch := first | assumption | exact wn2_i | exact wn2_r | exact wn2_n | exact Nat.le_of_ble_eq_true rfl | omega | (refine nI_z ?_ ?_ <;> omega)) only [s108_36, s108_37, s108_38, wX_some, Option.toList_some, Option.toList_none, List.cons_append, List.nil_append, List.map_cons, List.map_nil, List.sum_cons, List.sum_nil, Value.category, wn2_i, wn2_r, wn2_n, Option.isSome_some, List.getElem?_cons_zero, List.getElem?_cons_succ, nI_add, nI_rem2]
        refine m_qs hM1 hS1 hAG0 (by omega) (by omega) (fun h2 hM2 hS2 ho2 => ?_)
        obtain ⟨m', un, km, nm, sp, td, sd, hgo, hI, at1, as1, lt1, ls1, t0, t1, hk, hR, pt, hlen⟩ := hS2.facts
        have hj2 : j < lpA A i 7 0 := by rw [(lpA_s i).1]; exact hj
        obtain ⟨v0, v1, v2⟩ := hR.1 j hj2
        dsimp only at v0 v1 v2
        by_cases hu : u = 0
        · rw [if_pos hu] at k
          subst hu
          simp (disch := first | assumption | exact wn2_i | exact wn2_r | exact wn2_n | exact Nat.le_of_ble_eq_true rfl | omega | (refine nI_z ?_ ?_ <;> omega)) only [s108_41, s108_42, s108_45, s108_46, s108_49, s108_50, s108_51, s108_52, s108_55, s108_57, s108_58, s108_59, s108_60, wX_some, Option.toList_some, Option.toList_none, List.cons_append, List.nil_append, List.map_cons, List.map_nil, List.sum_cons, List.sum_nil, Value.category, wn2_i, wn2_r, wn2_n, Option.isSome_some, List.getElem?_cons_zero, List.getElem?_cons_succ, nI_add, nI_rem2, hgo, as1, ls1, iat_n, Nat.zero_add, v0, nI_eq0, if_true]
          exact k h2 ⟨k1, u2, hM2⟩ (ho1.tr ho2)
        · rw [if_neg hu] at k
          have hu0 : (nI u = 0) ↔ False := ⟨fun e => hu ((nI_eq0 (by omega)).mp e), False.elim⟩
          simp (disch := first | assumption | exact wn2_i | exact wn2_r | exact wn2_n | exact Nat.le_of_ble_eq_true rfl | omega | (refine nI_z ?_ ?_ <;> omega)) only [s108_41, s108_42, s108_45, s108_46, s108_49, s108_50, s108_51, s108_52, s108_55, s108_57, s108_58, s108_59, s108_60, wX_some, Option.toList_some, Option.toList_none, List.cons_append, List.nil_append, List.map_cons, List.map_nil, List.sum_cons, List.sum_nil, Value.category, wn2_i, wn2_r, wn2_n, Option.isSome_some, List.getElem?_cons_zero, List.getElem?_cons_succ, nI_add, nI_rem2, hgo, as1, ls1, iat_n, v2, hu0, if_false]
          exact k h2 ⟨k1, u2, hM2⟩ (ho1.tr ho2)
theorem m_first (hM : MIS h S) (hg : GIS S) {s : Int32} {l2 : Option Value} (k : ∀ h1, MIS h1 (op_first s S).2 → Off h h1 97 13 → Q (some (.int (op_first s S).1)) h1) : WP sc 109 0 [some (.ref 97), some (.int s), l2] [] h Q := by
  obtain ⟨⟨T, m⟩, A, U, K, L⟩ := S
  have hM0 := hM
  obtain ⟨k1, u2, hM⟩ := hM
  have hg : GI m A U K L := hg
  have hM : MJ h (-4) k1 (-4) u2 T m A U K L := hM
  obtain ⟨-, hAG, hq, -⟩ := hg
  have hAG0 := hAG
  obtain ⟨⟨G1, G2⟩, ⟨G3, G4⟩, G5, G6, G7⟩ := hAG
  have hw := fun Q x => isStreet_wp (sc := sc) (Q := Q) hM (by omega) G2 (x := x)
  obtain ⟨_, _, _, _, _, _, hI, -⟩ := hM.facts
  unfold op_first inS at k
  dsimp only at k
  cases hr : rng 0 (A 7 0 - 1) s with
  | false =>
    rw [hr, if_neg (by decide)] at k
    simp (disch := first | assumption | exact wn2_i | exact wn2_r | exact wn2_n | exact Nat.le_of_ble_eq_true rfl | omega | (refine nI_z ?_ ?_ <;> omega)) only [s109_0, s109_1, s109_2, s109_5, s109_8, s109_9, wX_some, Option.toList_some, Option.toList_none, List.cons_append, List.nil_append, List.map_cons, List.map_nil, List.sum_cons, List.sum_nil, Value.category, wn2_i, wn2_r, wn2_n, Option.isSome_some, List.getElem?_cons_zero, List.getElem?_cons_succ, nI_add, nI_rem2, hw, hr, Bool.false_eq_true, if_false, nI_eq0, if_true]
    exact k h hM0 Off.rf
  | true =>
    rw [hr, if_pos rfl] at k
    obtain ⟨j, j1, j2, rfl⟩ := rng_nI (by omega) hr
    rw [nat_nI (by omega)] at k
    have hj : j < A 7 0 := by omega
    obtain ⟨R, hRR⟩ : ∃ R, frs A (j + 1) 60 0 = R := ⟨_, rfl⟩
    rw [hRR] at k
    have key : ∀ f n, n + f = 60 → ∀ h1, MJ h1 (-4) k1 (-4) u2 T m A U K L → MS h1 (-4) k1 (-4) u2 (lpA A n) → Off h h1 97 13 → frs A (j + 1) f n = R → WP sc 109 16 [some (.ref 97), some (.int (nI j)), some (.int (nI (n + 1)))] [] h1 Q := by
      intro f
      induction f with
      | zero =>
        intro n hn h1 hM1 hS1 ho1 he
        have hgt : nI 61 ≤ nI (n + 1) := nI_le (by omega) (by omega)
        rw [s109_16]
        simp (disch := first | assumption | exact wn2_i | exact wn2_r | exact wn2_n | exact Nat.le_of_ble_eq_true rfl | omega | (refine nI_z ?_ ?_ <;> omega)) only [s109_17, s109_19, s109_22, s109_23, s109_24, s109_27, s109_28, s109_31, s109_33, s109_34, s109_35, s109_38, s109_39, s109_40, s109_43, s109_46, s109_48, wX_some, Option.toList_some, Option.toList_none, List.cons_append, List.nil_append, List.map_cons, List.map_nil, List.sum_cons, List.sum_nil, Value.category, wn2_i, wn2_r, wn2_n, Option.isSome_some, List.getElem?_cons_zero, List.getElem?_cons_succ, nI_add, nI_rem2, hgt, if_true]
        rw [← he] at k
        exact k h1 ⟨k1, u2, hM1⟩ ho1
      | succ f ih =>
        intro n hn h1 hM1 hS1 ho1 he
        have hgt : ¬ nI 61 ≤ nI (n + 1) := nI_ge (by omega) (by omega)
        obtain ⟨_, _, _, _, _, _, hI, -⟩ := hM1.facts
        rw [s109_16]
        simp (disch := first | assumption | exact wn2_i | exact wn2_r | exact wn2_n | exact Nat.le_of_ble_eq_true rfl | omega | (refine nI_z ?_ ?_ <;> omega)) only [s109_17, s109_19, s109_22, s109_23, s109_24, wX_some, Option.toList_some, Option.toList_none, List.cons_append, List.nil_append, List.map_cons, List.map_nil, List.sum_cons, List.sum_nil, Value.category, wn2_i, wn2_r, wn2_n, Option.isSome_some, List.getElem?_cons_zero, List.getElem?_cons_succ, nI_add, nI_rem2, hgt, if_false]
        refine m_nq (lost := false) hM1 hS1 (lpA_ag hAG0 n) (by rw [(lpA_s n).2.2.2.2]; omega) (fun h2 hM2 hS2 ho2 => ?_)
        obtain ⟨m', un, km, nm, sp, td, sd, hgo, hI, at1, as1, lt1, ls1, t0, t1, hk, hR, pt, hlen⟩ := hS2.facts
        have hwl := whoA_lt (l := false) (lpA_ag hAG0 n)
        have h7 : lpA A n 7 0 = A 7 0 := by rw [(lpA_s n).1]
        have hch : sd.getD 25 0 = nI (whoA (lpA A n) false) := hR.2.2.2.1
        have hch2 : lpA A (n + 1) 4 2 = whoA (lpA A n) false + 1 := rfl
        unfold frs at he
        rw [hch2] at he
        by_cases hs : whoA (lpA A n) false = j
        · rw [if_pos (by omega)] at he
          have e1 : (nI (whoA (lpA A n) false) = nI j) ↔ True := ⟨fun _ => trivial, fun _ => by rw [hs]⟩
          simp (disch := first | assumption | exact wn2_i | exact wn2_r | exact wn2_n | exact Nat.le_of_ble_eq_true rfl | omega | (refine nI_z ?_ ?_ <;> omega)) only [s109_27, s109_28, s109_31, s109_33, s109_34, s109_35, s109_38, s109_39, wX_some, Option.toList_some, Option.toList_none, List.cons_append, List.nil_append, List.map_cons, List.map_nil, List.sum_cons, List.sum_nil, Value.category, wn2_i, wn2_r, wn2_n, Option.isSome_some, List.getElem?_cons_zero, List.getElem?_cons_succ, nI_add, nI_rem2, hgo, as1, ls1, iat_n, hch, e1, if_true]
          rw [← he] at k
          exact k h2 ⟨k1, u2, hM2⟩ (ho1.tr ho2)
        · rw [if_neg (by omega)] at he
          have hne : (nI (whoA (lpA A n) false) = nI j) ↔ False := ⟨fun e => hs ((nI_eq (by omega) (by omega)).mp e), False.elim⟩
          simp (disch := first | assumption | exact wn2_i | exact wn2_r | exact wn2_n | exact Nat.le_of_ble_eq_true rfl | omega | (refine nI_z ?_ ?_ <;> omega)) only [s109_27, s109_28, s109_31, s109_33, s109_34, s109_35, s109_38, s109_39, s109_40, s109_43, wX_some, Option.toList_some, Option.toList_none, List.cons_append, List.nil_append, List.map_cons, List.map_nil, List.sum_cons, List.sum_nil, Value.category, wn2_i, wn2_r, wn2_n, Option.isSome_some, List.getElem?_cons_zero, List.getElem?_cons_succ, nI_add, nI_rem2, hgo, as1, ls1, iat_n, hch, hne, if_false]
          exact ih (n + 1) (by omega) h2 hM2 hS2 (ho1.tr ho2) he
    simp (disch := first | assumption | exact wn2_i | exact wn2_r | exact wn2_n | exact Nat.le_of_ble_eq_true rfl | omega | (refine nI_z ?_ ?_ <;> omega)) only [s109_0, s109_1, s109_2, s109_5, s109_8, s109_9, s109_10, s109_11, wX_some, Option.toList_some, Option.toList_none, List.cons_append, List.nil_append, List.map_cons, List.map_nil, List.sum_cons, List.sum_nil, Value.category, wn2_i, wn2_r, wn2_n, Option.isSome_some, List.getElem?_cons_zero, List.getElem?_cons_succ, nI_add, nI_rem2, hw, hr, if_false, nI_eq0, if_true, Nat.reduceEqDiff]
    refine m_aside hM hAG0 (fun h1 hM1 hS1 ho1 => ?_)
    simp (disch := first | assumption | exact wn2_i | exact wn2_r | exact wn2_n | exact Nat.le_of_ble_eq_true rfl | omega | (refine nI_z ?_ ?_ <;> omega)) only [s109_14, s109_15, wX_some, Option.toList_some, Option.toList_none, List.cons_append, List.nil_append, List.map_cons, List.map_nil, List.sum_cons, List.sum_nil, Value.category, wn2_i, wn2_r, wn2_n, Option.isSome_some, List.getElem?_cons_zero, List.getElem?_cons_succ, nI_add, nI_rem2]
    exact key 60 0 (by omega) h1 hM1 hS1 ho1 hRR
theorem m_even (hM : MIS h S) (hg : GIS S) {d : Int32} {l2 : Option Value} (k : ∀ h1, MIS h1 (op_even d S).2 → Off h h1 97 13 → Q (some (.int (op_even d S).1)) h1) : WP sc 110 0 [some (.ref 97), some (.int d), l2] [] h Q := by
  obtain ⟨⟨T, m⟩, A, U, K, L⟩ := S
  have hM0 := hM
  obtain ⟨k1, u2, hM⟩ := hM
  have hg : GI m A U K L := hg
  have hM : MJ h (-4) k1 (-4) u2 T m A U K L := hM
  obtain ⟨-, hAG, hq, -⟩ := hg
  have hAG0 := hAG
  obtain ⟨⟨G1, G2⟩, ⟨G3, G4⟩, G5, G6, G7⟩ := hAG
  obtain ⟨_, _, _, _, _, _, hI, -⟩ := hM.facts
  unfold op_even at k
  dsimp only at k
  cases hr : rng 0 99 d with
  | false =>
    rw [hr, if_neg (by decide)] at k
    simp (disch := first | assumption | exact wn2_i | exact wn2_r | exact wn2_n | exact Nat.le_of_ble_eq_true rfl | omega | (refine nI_z ?_ ?_ <;> omega)) only [s110_0, s110_1, s110_2, s110_3, s110_6, s110_9, s110_12, s110_13, wX_some, Option.toList_some, Option.toList_none, List.cons_append, List.nil_append, List.map_cons, List.map_nil, List.sum_cons, List.sum_nil, Value.category, wn2_i, wn2_r, wn2_n, Option.isSome_some, List.getElem?_cons_zero, List.getElem?_cons_succ, nI_add, nI_rem2, in_rng, hr, Bool.false_eq_true, if_false, nI_eq0, if_true]
    exact k h hM0 Off.rf
  | true =>
    rw [hr, if_pos rfl] at k
    obtain ⟨j, j1, j2, rfl⟩ := rng_nI (by omega) hr
    rw [nat_nI (by omega)] at k
    obtain ⟨R, hRR⟩ : ∃ R, evn A j 61 0 = R := ⟨_, rfl⟩
    rw [hRR] at k
    have key : ∀ f n, n + f = 61 → ∀ h1, MJ h1 (-4) k1 (-4) u2 T m A U K L → MS h1 (-4) k1 (-4) u2 (lpA A n) → Off h h1 97 13 → evn A j f n = R → WP sc 110 20 [some (.ref 97), some (.int (nI j)), some (.int (nI n))] [] h1 Q := by
      intro f
      induction f with
      | zero =>
        intro n hn h1 hM1 hS1 ho1 he
        have hgt : nI 61 ≤ nI n := nI_le (by omega) (by omega)
        rw [s110_20]
        simp (disch := first | assumption | exact wn2_i | exact wn2_r | exact wn2_n | exact Nat.le_of_ble_eq_true rfl | omega | (refine nI_z ?_ ?_ <;> omega)) only [s110_21, s110_23, s110_26, s110_27, s110_30, s110_31, s110_34, s110_35, s110_36, s110_39, s110_40, s110_41, s110_42, s110_43, s110_46, s110_49, s110_52, s110_54, wX_some, Option.toList_some, Option.toList_none, List.cons_append, List.nil_append, List.map_cons, List.map_nil, List.sum_cons, List.sum_nil, Value.category, wn2_i, wn2_r, wn2_n, Option.isSome_some, List.getElem?_cons_zero, List.getElem?_cons_succ, nI_add, nI_rem2, hgt, if_true]
        rw [← he] at k
        exact k h1 ⟨k1, u2, hM1⟩ ho1
      | succ f ih =>
        intro n hn h1 hM1 hS1 ho1 he
        have hgt : ¬ nI 61 ≤ nI n := nI_ge (by omega) (by omega)
        obtain ⟨_, _, _, _, _, _, hI, -⟩ := hM1.facts
        have hGl := lpA_ag hAG0 n
        have h7 : lpA A n 7 0 = A 7 0 := by rw [(lpA_s n).1]
        have hb : ∀ s, s < lpA A n 7 0 → lpA A n 0 s ≤ 999 := fun s hs => (hGl.2.2.1 s hs).1
        have hb2 : ∀ s, s < lpA A n 7 0 → lpA A n 0 s ≤ 2000 := fun s hs => by have := hb s hs; omega
        have hpw := fun Q l1 l2 => least_wp (sc := sc) (Q := Q) (l1 := l1) (l2 := l2) hS1 (by omega) (by omega) hb2
        have hrw := fun Q l1 l2 => greatest_wp (sc := sc) (Q := Q) (l1 := l1) (l2 := l2) hS1 (by omega) (by omega) hb2
        have hle := mn_le_mx (A := lpA A n) (lpA A n 7 0 - 1)
        have hmx := mxW_le hb (lpA A n 7 0 - 1) (by omega)
        have hsub : nI (mxW (lpA A n) (lpA A n 7 0 - 1)) - nI (mnW (lpA A n) (lpA A n 7 0 - 1)) = nI (gap (lpA A n)) := nI_sub hle
        have hgl : gap (lpA A n) ≤ 999 := by unfold gap; omega
        unfold evn at he
        rw [s110_20]
        by_cases hs : gap (lpA A n) ≤ j
        · rw [if_pos hs] at he
          have n1 : ¬ nI j < nI (gap (lpA A n)) := nI_nlt hs (by omega)
          simp (disch := first | assumption | exact wn2_i | exact wn2_r | exact wn2_n | exact Nat.le_of_ble_eq_true rfl | omega | (refine nI_z ?_ ?_ <;> omega)) only [s110_21, s110_23, s110_26, s110_27, s110_30, s110_31, s110_34, s110_35, s110_36, s110_39, s110_40, wX_some, Option.toList_some, Option.toList_none, List.cons_append, List.nil_append, List.map_cons, List.map_nil, List.sum_cons, List.sum_nil, Value.category, wn2_i, wn2_r, wn2_n, Option.isSome_some, List.getElem?_cons_zero, List.getElem?_cons_succ, nI_add, nI_rem2, hgt, if_false, hpw, hrw, hsub, n1]
          rw [← he] at k
          exact k h1 ⟨k1, u2, hM1⟩ ho1
        · rw [if_neg hs] at he
          have n1 : nI j < nI (gap (lpA A n)) := nI_lt (by omega) (by omega)
          simp (disch := first | assumption | exact wn2_i | exact wn2_r | exact wn2_n | exact Nat.le_of_ble_eq_true rfl | omega | (refine nI_z ?_ ?_ <;> omega)) only [s110_21, s110_23, s110_26, s110_27, s110_30, s110_31, s110_34, s110_35, s110_36, s110_39, s110_40, s110_41, s110_42, s110_43, wX_some, Option.toList_some, Option.toList_none, List.cons_append, List.nil_append, List.map_cons, List.map_nil, List.sum_cons, List.sum_nil, Value.category, wn2_i, wn2_r, wn2_n, Option.isSome_some, List.getElem?_cons_zero, List.getElem?_cons_succ, nI_add, nI_rem2, hgt, if_false, hpw, hrw, hsub, n1, if_true]
          refine m_nq (lost := false) hM1 hS1 (lpA_ag hAG0 n) (by rw [(lpA_s n).2.2.2.2]; omega) (fun h2 hM2 hS2 ho2 => ?_)
          simp (disch := first | assumption | exact wn2_i | exact wn2_r | exact wn2_n | exact Nat.le_of_ble_eq_true rfl | omega | (refine nI_z ?_ ?_ <;> omega)) only [s110_46, s110_49, wX_some, Option.toList_some, Option.toList_none, List.cons_append, List.nil_append, List.map_cons, List.map_nil, List.sum_cons, List.sum_nil, Value.category, wn2_i, wn2_r, wn2_n, Option.isSome_some, List.getElem?_cons_zero, List.getElem?_cons_succ, nI_add, nI_rem2]
          exact ih (n + 1) (by omega) h2 hM2 hS2 (ho1.tr ho2) he
    simp (disch := first | assumption | exact wn2_i | exact wn2_r | exact wn2_n | exact Nat.le_of_ble_eq_true rfl | omega | (refine nI_z ?_ ?_ <;> omega)) only [s110_0, s110_1, s110_2, s110_3, s110_6, s110_9, s110_12, s110_13, s110_14, s110_15, wX_some, Option.toList_some, Option.toList_none, List.cons_append, List.nil_append, List.map_cons, List.map_nil, List.sum_cons, List.sum_nil, Value.category, wn2_i, wn2_r, wn2_n, Option.isSome_some, List.getElem?_cons_zero, List.getElem?_cons_succ, nI_add, nI_rem2, in_rng, hr, if_false, nI_eq0, if_true, Nat.reduceEqDiff]
    refine m_aside hM hAG0 (fun h1 hM1 hS1 ho1 => ?_)
    simp (disch := first | assumption | exact wn2_i | exact wn2_r | exact wn2_n | exact Nat.le_of_ble_eq_true rfl | omega | (refine nI_z ?_ ?_ <;> omega)) only [s110_18, s110_19, wX_some, Option.toList_some, Option.toList_none, List.cons_append, List.nil_append, List.map_cons, List.map_nil, List.sum_cons, List.sum_nil, Value.category, wn2_i, wn2_r, wn2_n, Option.isSome_some, List.getElem?_cons_zero, List.getElem?_cons_succ, nI_add, nI_rem2]
    exact key 61 0 (by omega) h1 hM1 hS1 ho1 hRR
theorem m_paint (hM : MIS h S) (hg : GIS S) {s : Int32} {l2 : Option Value} (k : ∀ h1, MIS h1 (op_paint s S).2 → Off h h1 97 13 → Q (some (.int (op_paint s S).1)) h1) : WP sc 116 0 [some (.ref 97), some (.int s), l2] [] h Q := by
  obtain ⟨⟨T, m⟩, A, U, K, L⟩ := S
  have hM0 := hM
  obtain ⟨k1, u2, hM⟩ := hM
  have hg : GI m A U K L := hg
  have hM : MJ h (-4) k1 (-4) u2 T m A U K L := hM
  obtain ⟨-, hAG, hq, -⟩ := hg
  have hAG0 := hAG
  obtain ⟨⟨G1, G2⟩, ⟨G3, G4⟩, G5, G6, G7⟩ := hAG
  have hw := fun Q x => isStreet_wp (sc := sc) (Q := Q) hM (by omega) G2 (x := x)
  obtain ⟨_, _, _, _, _, _, hI, -⟩ := hM.facts
  unfold op_paint inS at k
  dsimp only at k
  cases hr : rng 0 (A 7 0 - 1) s with
  | false =>
    rw [hr, if_neg (by decide)] at k
    simp (disch := first | assumption | exact wn2_i | exact wn2_r | exact wn2_n | exact Nat.le_of_ble_eq_true rfl | omega | (refine nI_z ?_ ?_ <;> omega)) only [s116_0, s116_1, s116_2, s116_5, s116_8, s116_9, wX_some, Option.toList_some, Option.toList_none, List.cons_append, List.nil_append, List.map_cons, List.map_nil, List.sum_cons, List.sum_nil, Value.category, wn2_i, wn2_r, wn2_n, Option.isSome_some, List.getElem?_cons_zero, List.getElem?_cons_succ, nI_add, nI_rem2, hw, hr, Bool.false_eq_true, if_false, nI_eq0, if_true]
    exact k h hM0 Off.rf
  | true =>
    rw [hr, if_pos rfl] at k
    obtain ⟨j, j1, j2, rfl⟩ := rng_nI (by omega) hr
    rw [nat_nI (by omega)] at k
    have hj : j < A 7 0 := by omega
    obtain ⟨R, hRR⟩ : ∃ R, pnt A j 41 0 = R := ⟨_, rfl⟩
    rw [hRR] at k
    have key : ∀ f n, n + f = 41 → ∀ h1, MJ h1 (-4) k1 (-4) u2 T m A U K L → Off h h1 97 13 → pnt A j f n = R → WP sc 116 12 [some (.ref 97), some (.int (nI j)), some (.int (nI n))] [] h1 Q := by
      intro f
      induction f with
      | zero =>
        intro n hn h1 hM1 ho1 he
        have hgt : nI 41 ≤ nI n := nI_le (by omega) (by omega)
        rw [s116_12]
        simp (disch := first | assumption | exact wn2_i | exact wn2_r | exact wn2_n | exact Nat.le_of_ble_eq_true rfl | omega | (refine nI_z ?_ ?_ <;> omega)) only [s116_13, s116_15, s116_18, s116_19, s116_22, s116_23, s116_26, s116_28, s116_29, s116_30, s116_31, s116_32, s116_33, s116_34, s116_37, s116_38, s116_41, s116_43, s116_44, s116_45, s116_48, s116_49, s116_50, s116_53, s116_56, s116_58, wX_some, Option.toList_some, Option.toList_none, List.cons_append, List.nil_append, List.map_cons, List.map_nil, List.sum_cons, List.sum_nil, Value.category, wn2_i, wn2_r, wn2_n, Option.isSome_some, List.getElem?_cons_zero, List.getElem?_cons_succ, nI_add, nI_rem2, hgt, if_true]
        rw [← he] at k
        exact k h1 ⟨k1, u2, hM1⟩ ho1
      | succ f ih =>
        intro n hn h1 hM1 ho1 he
        have hgt : ¬ nI 41 ≤ nI n := nI_ge (by omega) (by omega)
        obtain ⟨_, _, _, _, _, _, hI, -⟩ := hM1.facts
        rw [s116_12]
        simp (disch := first | assumption | exact wn2_i | exact wn2_r | exact wn2_n | exact Nat.le_of_ble_eq_true rfl | omega | (refine nI_z ?_ ?_ <;> omega)) only [s116_13, s116_15, s116_18, s116_19, wX_some, Option.toList_some, Option.toList_none, List.cons_append, List.nil_append, List.map_cons, List.map_nil, List.sum_cons, List.sum_nil, Value.category, wn2_i, wn2_r, wn2_n, Option.isSome_some, List.getElem?_cons_zero, List.getElem?_cons_succ, nI_add, nI_rem2, hgt, if_false]
        refine m_aside hM1 hAG0 (fun h2 hM2 hS2 ho2 => ?_)
        obtain ⟨m', un, km, nm, sp, td, sd, hgo, hI, at1, as1, lt1, ls1, t0, t1, hk, hR, pt, hlen⟩ := hS2.facts
        simp (disch := first | assumption | exact wn2_i | exact wn2_r | exact wn2_n | exact Nat.le_of_ble_eq_true rfl | omega | (refine nI_z ?_ ?_ <;> omega)) only [s116_22, s116_23, s116_26, s116_28, s116_29, s116_30, s116_31, wX_some, Option.toList_some, Option.toList_none, List.cons_append, List.nil_append, List.map_cons, List.map_nil, List.sum_cons, List.sum_nil, Value.category, wn2_i, wn2_r, wn2_n, Option.isSome_some, List.getElem?_cons_zero, List.getElem?_cons_succ, nI_add, nI_rem2, hgo, as1, ls1, iat_n]
        have hS3 : MS (h2.set 103 (ms_ia (sd.set (6 + j) (nI n)))) (-4) k1 (-4) u2 (up2 A 1 j n) := pt _ _ _ (RA.m hR ls1 G2 G4 (show j < 6 by omega)) rfl rfl rfl
        have ho3 : Off h2 (h2.set 103 (ms_ia (sd.set (6 + j) (nI n)))) 103 1 := Off.rf.st (by omega) (by omega)
        have hM3 := hM2.side hS3 ho3
        generalize h2.set 103 (ms_ia (sd.set (6 + j) (nI n))) = h3 at hS3 ho3 hM3 ⊢
        obtain ⟨_, _, _, _, _, _, hI, -⟩ := hM3.facts
        simp (disch := first | assumption | exact wn2_i | exact wn2_r | exact wn2_n | exact Nat.le_of_ble_eq_true rfl | omega | (refine nI_z ?_ ?_ <;> omega)) only [s116_32, s116_33, s116_34, wX_some, Option.toList_some, Option.toList_none, List.cons_append, List.nil_append, List.map_cons, List.map_nil, List.sum_cons, List.sum_nil, Value.category, wn2_i, wn2_r, wn2_n, Option.isSome_some, List.getElem?_cons_zero, List.getElem?_cons_succ, nI_add, nI_rem2]
        have hAG1 := upA_ag1 (i := j) hAG0 (show n ≤ 40 by omega)
        refine m_nq (lost := false) hM3 hS3 hAG1 (show A 4 0 ≤ 200000 by omega) (fun h4 hM4 hS4 ho4 => ?_)
        obtain ⟨m', un, km, nm, sp, td, sd, hgo, hI, at1, as1, lt1, ls1, t0, t1, hk, hR, pt, hlen⟩ := hS4.facts
        have hwl : whoA (up2 A 1 j n) false < A 7 0 := whoA_lt (l := false) hAG1
        have hch : sd.getD 25 0 = nI (whoA (up2 A 1 j n) false) := hR.2.2.2.1
        have hch2 : nqA (up2 A 1 j n) false 4 2 = whoA (up2 A 1 j n) false + 1 := rfl
        have ho5 := ((ho1.tr ho2).tr (ho3.wide (by omega) (by omega))).tr ho4
        unfold pnt at he
        rw [hch2] at he
        by_cases hs : whoA (up2 A 1 j n) false = j
        · rw [if_pos (by omega)] at he
          have e1 : (nI (whoA (up2 A 1 j n) false) = nI j) ↔ True := ⟨fun _ => trivial, fun _ => by rw [hs]⟩
          simp (disch := first | assumption | exact wn2_i | exact wn2_r | exact wn2_n | exact Nat.le_of_ble_eq_true rfl | omega | (refine nI_z ?_ ?_ <;> omega)) only [s116_37, s116_38, s116_41, s116_43, s116_44, s116_45, s116_48, s116_49, wX_some, Option.toList_some, Option.toList_none, List.cons_append, List.nil_append, List.map_cons, List.map_nil, List.sum_cons, List.sum_nil, Value.category, wn2_i, wn2_r, wn2_n, Option.isSome_some, List.getElem?_cons_zero, List.getElem?_cons_succ, nI_add, nI_rem2, hgo, as1, ls1, iat_n, hch, e1, if_true]
          rw [← he] at k
          exact k h4 ⟨k1, u2, hM4⟩ ho5
        · rw [if_neg (by omega)] at he
          have hne : (nI (whoA (up2 A 1 j n) false) = nI j) ↔ False := ⟨fun e => hs ((nI_eq (by omega) (by omega)).mp e), False.elim⟩
          simp (disch := first | assumption | exact wn2_i | exact wn2_r | exact wn2_n | exact Nat.le_of_ble_eq_true rfl | omega | (refine nI_z ?_ ?_ <;> omega)) only [s116_37, s116_38, s116_41, s116_43, s116_44, s116_45, s116_48, s116_49, s116_50, s116_53, wX_some, Option.toList_some, Option.toList_none, List.cons_append, List.nil_append, List.map_cons, List.map_nil, List.sum_cons, List.sum_nil, Value.category, wn2_i, wn2_r, wn2_n, Option.isSome_some, List.getElem?_cons_zero, List.getElem?_cons_succ, nI_add, nI_rem2, hgo, as1, ls1, iat_n, hch, hne, if_false]
          exact ih (n + 1) (by omega) h4 hM4 ho5 he
    simp (disch := first | assumption | exact wn2_i | exact wn2_r | exact wn2_n | exact Nat.le_of_ble_eq_true rfl | omega | (refine nI_z ?_ ?_ <;> omega)) only [s116_0, s116_1, s116_2, s116_5, s116_8, s116_9, s116_10, s116_11, wX_some, Option.toList_some, Option.toList_none, List.cons_append, List.nil_append, List.map_cons, List.map_nil, List.sum_cons, List.sum_nil, Value.category, wn2_i, wn2_r, wn2_n, Option.isSome_some, List.getElem?_cons_zero, List.getElem?_cons_succ, nI_add, nI_rem2, hw, hr, if_false, nI_eq0, if_true, Nat.reduceEqDiff]
    exact key 41 0 (by omega) h hM Off.rf hRR
end M68

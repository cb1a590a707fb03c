-- the model's calls: write, wipe, work, street, pass, mud
section M65
variable {sc : List Int32} {h : List ms_C} {Q : Option Value → List ms_C → Prop} {S : GS}
theorem m_write (hM : MIS h S) (hg : GIS S) {x : Int32} (k : ∀ h1, MIS h1 (op_write x S).2 → Off h h1 97 13 → Q (some (.int (op_write x S).1)) h1) : WP sc 80 0 [some (.ref 97), some (.int x)] [] h Q := by
  obtain ⟨⟨T, m⟩, A, U, K, L⟩ := S
  have hM0 := hM
  obtain ⟨k1, u2, hM⟩ := hM
  have hg : GI m A U K L := hg
  have hM : MJ h (-4) k1 (-4) u2 T m A U K L := hM
  have hm200 : m ≤ 200 := hg.1
  obtain ⟨sp, td, nw, sd, hgo, his, hI, at1, an, as1, lt1, ln, ls1, hK, hR, b97, b102, b103⟩ := hM.facts
  unfold op_write at k
  dsimp only at k
  cases hr : rng 32 126 x with
  | false =>
    rw [hr, if_neg (by decide)] at k
    simp (disch := first | assumption | exact wn2_i | exact wn2_r | exact wn2_n | exact Nat.le_of_ble_eq_true rfl | omega | (refine nI_z ?_ ?_ <;> omega)) only [s80_0, s80_1, s80_2, s80_5, s80_8, s80_11, s80_14, s80_15, wX_some, Option.toList_some, Option.toList_none, List.cons_append, List.nil_append, List.map_cons, List.map_nil, List.sum_cons, List.sum_nil, Value.category, wn2_i, wn2_r, wn2_n, Option.isSome_some, List.getElem?_cons_zero, List.getElem?_cons_succ, nI_add, nI_rem2, in_rng, hr, Bool.false_eq_true, if_false, nI_eq0, if_true]
    exact k h hM0 Off.rf
  | true =>
    rw [hr, if_pos rfl] at k
    obtain ⟨c, c1, c2, rfl⟩ := rng_nI (by omega) hr
    rw [nat_nI (by omega)] at k
    obtain ⟨⟨sp, z1⟩, ⟨a98, a99, a100, a101, a102, a104, a105, a106, a107, a108, a109⟩, a103⟩ := hM
    obtain ⟨tx, x1, x2, x3⟩ := a98
    have av := a_arr x1
    have b98 := lt_of_some x1
    by_cases hm : m < 200
    · rw [if_pos hm] at k
      have e1 : (nI m = nI 200) ↔ False := ⟨fun q => by have := (nI_eq (by omega) (by omega)).mp q; omega, False.elim⟩
      simp (disch := first | assumption | exact wn2_i | exact wn2_r | exact wn2_n | exact Nat.le_of_ble_eq_true rfl | omega | (refine nI_z ?_ ?_ <;> omega)) only [s80_0, s80_1, s80_2, s80_5, s80_8, s80_11, s80_14, s80_15, s80_16, s80_17, s80_20, s80_23, s80_26, s80_28, s80_29, s80_30, s80_33, s80_34, s80_37, s80_38, wX_some, Option.toList_some, Option.toList_none, List.cons_append, List.nil_append, List.map_cons, List.map_nil, List.sum_cons, List.sum_nil, Value.category, wn2_i, wn2_r, wn2_n, Option.isSome_some, List.getElem?_cons_zero, List.getElem?_cons_succ, nI_add, nI_rem2, in_rng, hr, if_true, nI_eq0, if_false, Nat.reduceEqDiff, hgo, e1, av, x2, iat_n]
      have y1 : (h.set 98 (ms_ia (tx.set m (nI c))))[97]? = some (ms_obj 6 (MO (nI m) (nI U.length) (nI K.length) (nI L.length) sp (-4) k1 (-4) u2)) := s_ne (by omega) z1
      have hg2 := fun k => g_obj (k := k) y1
      have hi2 := i_obj y1
      have b97' : 97 < (h.set 98 (ms_ia (tx.set m (nI c)))).length := lt_of_some y1
      simp (disch := first | assumption | exact wn2_i | exact wn2_r | exact wn2_n | exact Nat.le_of_ble_eq_true rfl | omega | (refine nI_z ?_ ?_ <;> omega)) only [s80_39, s80_40, s80_41, s80_44, s80_45, s80_46, wX_some, Option.toList_some, Option.toList_none, List.cons_append, List.nil_append, List.map_cons, List.map_nil, List.sum_cons, List.sum_nil, Value.category, wn2_i, wn2_r, wn2_n, Option.isSome_some, List.getElem?_cons_zero, List.getElem?_cons_succ, nI_add, nI_rem2, hg2, hi2, List.set_cons_succ, List.set_cons_zero, List.length_cons, List.length_nil, Nat.reduceAdd, Nat.reduceLT, true_and]
      have y2 := s_eq (c := ms_obj 6 (MO (nI (m + 1)) (nI U.length) (nI K.length) (nI L.length) sp (-4) k1 (-4) u2)) b97'
      have hx : OffX h ((h.set 98 (ms_ia (tx.set m (nI c)))).set 97 (ms_obj 6 (MO (nI (m + 1)) (nI U.length) (nI K.length) (nI L.length) sp (-4) k1 (-4) u2))) (fun i => i = 97 ∨ i = 98) := (OffX.rf.st (Or.inr rfl)).st (Or.inl rfl)
      have hg3 := fun k => g_obj (k := k) y2
      simp (disch := first | assumption | exact wn2_i | exact wn2_r | exact wn2_n | exact Nat.le_of_ble_eq_true rfl | omega | (refine nI_z ?_ ?_ <;> omega)) only [s80_49, s80_50, s80_53, wX_some, Option.toList_some, Option.toList_none, List.cons_append, List.nil_append, List.map_cons, List.map_nil, List.sum_cons, List.sum_nil, Value.category, wn2_i, wn2_r, wn2_n, Option.isSome_some, List.getElem?_cons_zero, List.getElem?_cons_succ, nI_add, nI_rem2, hg3]
      refine k _ ⟨k1, u2, ⟨sp, y2⟩, ⟨⟨tx.set m (nI c), s_ne (by omega) (s_eq b98), by rw [List.length_set]; exact x2, ?_⟩, a99.off (hx.2 99 (by omega)), a100.off (hx.2 100 (by omega)), a101.off (hx.2 101 (by omega)), a102.off (hx.2 102 (by omega)), a104.off (hx.2 104 (by omega)), a105.off (hx.2 105 (by omega)), a106.off (hx.2 106 (by omega)), a107.off (hx.2 107 (by omega)), a108.off (hx.2 108 (by omega)), a109.off (hx.2 109 (by omega))⟩, a103.off (hx.2 103 (by omega))⟩ (hx.off (fun i hi => by omega))
      intro i hi
      have hi : i < m + 1 := hi
      rw [gset (by omega)]
      show _ = nI (up1 T m c i) ∧ up1 T m c i ≤ 126
      unfold up1
      by_cases e : m = i
      · rw [if_pos e, if_pos e.symm]; exact ⟨rfl, c2⟩
      · rw [if_neg e, if_neg (fun q => e q.symm)]; exact x3 i (by omega)
    · rw [if_neg hm] at k
      have e1 : (nI m = nI 200) ↔ True := ⟨fun _ => trivial, fun _ => by rw [show m = 200 by omega]⟩
      simp (disch := first | assumption | exact wn2_i | exact wn2_r | exact wn2_n | exact Nat.le_of_ble_eq_true rfl | omega | (refine nI_z ?_ ?_ <;> omega)) only [s80_0, s80_1, s80_2, s80_5, s80_8, s80_11, s80_14, s80_15, s80_16, s80_17, s80_20, s80_23, s80_26, s80_28, wX_some, Option.toList_some, Option.toList_none, List.cons_append, List.nil_append, List.map_cons, List.map_nil, List.sum_cons, List.sum_nil, Value.category, wn2_i, wn2_r, wn2_n, Option.isSome_some, List.getElem?_cons_zero, List.getElem?_cons_succ, nI_add, nI_rem2, in_rng, hr, if_true, nI_eq0, if_false, Nat.reduceEqDiff, hgo, e1]
      exact k h hM0 Off.rf
theorem m_wipe (hM : MIS h S) {l1 : Option Value} (k : ∀ h1, MIS h1 (op_wipe S).2 → Off h h1 97 13 → Q (some (.int (op_wipe S).1)) h1) : WP sc 82 0 [some (.ref 97), l1] [] h Q := by
  obtain ⟨⟨T, m⟩, A, U, K, L⟩ := S
  obtain ⟨k1, u2, hM⟩ := hM
  have hM : MJ h (-4) k1 (-4) u2 T m A U K L := hM
  obtain ⟨⟨sp, z1⟩, ⟨a98, a99, a100, a101, a102, a104, a105, a106, a107, a108, a109⟩, a103⟩ := hM
  have hg := fun k => g_obj (k := k) z1
  have hi := i_obj z1
  simp (disch := first | assumption | exact wn2_i | exact wn2_r | exact wn2_n | exact Nat.le_of_ble_eq_true rfl | omega | (refine nI_z ?_ ?_ <;> omega)) only [s82_0, s82_1, s82_4, s82_5, s82_6, s82_7, s82_10, s82_11, wX_some, Option.toList_some, Option.toList_none, List.cons_append, List.nil_append, List.map_cons, List.map_nil, List.sum_cons, List.sum_nil, Value.category, wn2_i, wn2_r, wn2_n, Option.isSome_some, List.getElem?_cons_zero, List.getElem?_cons_succ, nI_add, nI_rem2, hg, hi, List.set_cons_succ, List.set_cons_zero, List.length_cons, List.length_nil, Nat.reduceAdd, Nat.reduceLT, true_and]
  have hx : OffX h (h.set 97 (ms_obj 6 (MO (nI 0) (nI U.length) (nI K.length) (nI L.length) sp (-4) k1 (-4) u2))) (fun i => i = 97) := OffX.rf.st rfl
  obtain ⟨tx, x1, x2, x3⟩ := a98
  exact k _ ⟨k1, u2, ⟨sp, s_eq (lt_of_some z1)⟩, ⟨⟨tx, s_ne (by omega) x1, x2, fun i hi => absurd hi (Nat.not_lt_zero i)⟩, a99.off (hx.2 99 (by omega)), a100.off (hx.2 100 (by omega)), a101.off (hx.2 101 (by omega)), a102.off (hx.2 102 (by omega)), a104.off (hx.2 104 (by omega)), a105.off (hx.2 105 (by omega)), a106.off (hx.2 106 (by omega)), a107.off (hx.2 107 (by omega)), a108.off (hx.2 108 (by omega)), a109.off (hx.2 109 (by omega))⟩, a103.off (hx.2 103 (by omega))⟩ (hx.off (fun i hi => by omega))
theorem m_work (hM : MIS h S) (hg : GIS S) {x : Int32} (k : ∀ h1, MIS h1 (op_work x S).2 → Off h h1 97 13 → Q (some (.int (op_work x S).1)) h1) : WP sc 94 0 [some (.ref 97), some (.int x)] [] h Q := by
  obtain ⟨⟨T, m⟩, A, U, K, L⟩ := S
  have hM0 := hM
  obtain ⟨k1, u2, hM⟩ := hM
  have hg : GI m A U K L := hg
  have hM : MJ h (-4) k1 (-4) u2 T m A U K L := hM
  obtain ⟨sp, td, nw, sd, hgo, his, hI, at1, an, as1, lt1, ln, ls1, hK, hR, b97, b102, b103⟩ := hM.facts
  obtain ⟨-, ⟨⟨G1, G2⟩, ⟨G3, G4⟩, G5, G6, G7⟩, -⟩ := hg
  have hw := fun Q x => isWork_wp (sc := sc) (Q := Q) hM G3 G4 (x := x)
  unfold op_work inW at k
  dsimp only at k
  cases hr : rng 0 (A 7 1 - 1) x with
  | false =>
    rw [hr, if_neg (by decide)] at k
    simp (disch := first | assumption | exact wn2_i | exact wn2_r | exact wn2_n | exact Nat.le_of_ble_eq_true rfl | omega | (refine nI_z ?_ ?_ <;> omega)) only [s94_0, s94_1, s94_2, s94_5, s94_8, s94_9, s94_12, s94_14, s94_15, s94_16, s94_17, s94_20, s94_21, wX_some, Option.toList_some, Option.toList_none, List.cons_append, List.nil_append, List.map_cons, List.map_nil, List.sum_cons, List.sum_nil, Value.category, wn2_i, wn2_r, wn2_n, Option.isSome_some, List.getElem?_cons_zero, List.getElem?_cons_succ, nI_add, nI_rem2, hw, hr, Bool.false_eq_true, if_false, nI_eq0, if_true]
    exact k h hM0 Off.rf
  | true =>
    rw [hr, if_pos rfl] at k
    obtain ⟨j, j1, j2, rfl⟩ := rng_nI (by omega) hr
    rw [nat_nI (by omega)] at k
    have v : nw.getD (18 + j) 0 = nI (A 3 j) := hR.2.1 j (by omega)
    simp (disch := first | assumption | exact wn2_i | exact wn2_r | exact wn2_n | exact Nat.le_of_ble_eq_true rfl | omega | (refine nI_z ?_ ?_ <;> omega)) only [s94_0, s94_1, s94_2, s94_5, s94_8, s94_9, s94_12, s94_14, s94_15, s94_16, s94_17, s94_20, s94_21, wX_some, Option.toList_some, Option.toList_none, List.cons_append, List.nil_append, List.map_cons, List.map_nil, List.sum_cons, List.sum_nil, Value.category, wn2_i, wn2_r, wn2_n, Option.isSome_some, List.getElem?_cons_zero, List.getElem?_cons_succ, nI_add, nI_rem2, hw, hr, if_true, nI_eq0, if_false, Nat.reduceEqDiff, hgo, an, ln, iat_n, v]
    exact k h hM0 Off.rf
theorem m_street (hM : MIS h S) (hg : GIS S) {x y : Int32} (k : ∀ h1, MIS h1 (op_street x y S).2 → Off h h1 97 13 → Q (some (.int (op_street x y S).1)) h1) : WP sc 89 0 [some (.ref 97), some (.int x), some (.int y)] [] h Q := by
  obtain ⟨⟨T, m⟩, A, U, K, L⟩ := S
  have hM0 := hM
  obtain ⟨k1, u2, hM⟩ := hM
  have hg : GI m A U K L := hg
  have hM : MJ h (-4) k1 (-4) u2 T m A U K L := hM
  obtain ⟨sp, td, nw, sd, hgo, his, hI, at1, an, as1, lt1, ln, ls1, hK, hR, b97, b102, b103⟩ := hM.facts
  obtain ⟨-, hAG, -⟩ := hg
  have hAG0 := hAG
  obtain ⟨⟨G1, G2⟩, ⟨G3, G4⟩, G5, G6, G7⟩ := hAG
  have hw := fun Q x => isStreet_wp (sc := sc) (Q := Q) hM (by omega) G2 (x := x)
  unfold op_street inS at k
  dsimp only at k
  cases hr : rng 0 (A 7 0 - 1) x with
  | false =>
    rw [hr, if_neg (by decide)] at k
    simp (disch := first | assumption | exact wn2_i | exact wn2_r | exact wn2_n | exact Nat.le_of_ble_eq_true rfl | omega | (refine nI_z ?_ ?_ <;> omega)) only [s89_0, s89_1, s89_2, s89_5, s89_8, s89_9, s89_10, s89_11, s89_14, s89_17, s89_20, s89_21, wX_some, Option.toList_some, Option.toList_none, List.cons_append, List.nil_append, List.map_cons, List.map_nil, List.sum_cons, List.sum_nil, Value.category, wn2_i, wn2_r, wn2_n, Option.isSome_some, List.getElem?_cons_zero, List.getElem?_cons_succ, nI_add, nI_rem2, hw, hr, Bool.false_eq_true, if_false, nI_eq0, if_true]
    exact k h hM0 Off.rf
  | true =>
    rw [hr, if_pos rfl] at k
    obtain ⟨j, j1, j2, rfl⟩ := rng_nI (by omega) hr
    rw [nat_nI (by omega)] at k
    have hj : j < A 7 0 := by omega
    have b := G5 j hj
    cases hr2 : rng 0 5 y with
    | false =>
      have ne : ∀ c, c ≤ 5 → ¬ y = nI c := fun c hc e => by
        rw [e] at hr2
        unfold rng at hr2
        rw [nI_toInt (by omega)] at hr2
        have := of_decide_eq_false hr2
        omega
      rw [if_neg (ne 0 (by omega)), if_neg (ne 1 (by omega)), if_neg (ne 2 (by omega)), if_neg (ne 3 (by omega)), if_neg (ne 4 (by omega)), if_neg (ne 5 (by omega))] at k
      simp (disch := first | assumption | exact wn2_i | exact wn2_r | exact wn2_n | exact Nat.le_of_ble_eq_true rfl | omega | (refine nI_z ?_ ?_ <;> omega)) only [s89_0, s89_1, s89_2, s89_5, s89_8, s89_9, s89_10, s89_11, s89_14, s89_17, s89_20, s89_21, wX_some, Option.toList_some, Option.toList_none, List.cons_append, List.nil_append, List.map_cons, List.map_nil, List.sum_cons, List.sum_nil, Value.category, wn2_i, wn2_r, wn2_n, Option.isSome_some, List.getElem?_cons_zero, List.getElem?_cons_succ, nI_add, nI_rem2, hw, hr, hr2, in_rng, Bool.false_eq_true, if_false, nI_eq0, if_true, Nat.reduceEqDiff]
      exact k h hM0 Off.rf
    | true =>
      obtain ⟨c, c1, c2, rfl⟩ := rng_nI (by omega) hr2
      simp (disch := first | assumption | exact wn2_i | exact wn2_r | exact wn2_n | exact Nat.le_of_ble_eq_true rfl | omega | (refine nI_z ?_ ?_ <;> omega)) only [s89_0, s89_1, s89_2, s89_5, s89_8, s89_9, s89_10, s89_11, s89_14, s89_17, s89_20, s89_21, s89_22, s89_23, wX_some, Option.toList_some, Option.toList_none, List.cons_append, List.nil_append, List.map_cons, List.map_nil, List.sum_cons, List.sum_nil, Value.category, wn2_i, wn2_r, wn2_n, Option.isSome_some, List.getElem?_cons_zero, List.getElem?_cons_succ, nI_add, nI_rem2, hw, hr, hr2, in_rng, if_false, nI_eq0, if_true, Nat.reduceEqDiff]
      refine aside_wp hM hAG0 (fun h1 hM1 hs1 ho1 => ?_)
      have ho9 : Off h h1 97 13 := ho1.wide (by omega) (by omega)
      have hMS := hM1.ms0 G2 hs1
      have hlo := fun Q l2 l3 l4 => mlooks_wp (sc := sc) (Q := Q) (l2 := l2) (l3 := l3) (l4 := l4) hMS hj G2 (by omega) (by omega) (by omega)
      obtain ⟨sp, td, nw, sd, hgo, his, hI, at1, an, as1, lt1, ln, ls1, ⟨q1, q2, q3⟩, hR, b97, b102, b103⟩ := hM1.facts
      dsimp only at q1 q2 q3
      obtain ⟨v0, v2⟩ := q3 j hj
      obtain ⟨v1, v4, v5⟩ := hR.1 j hj
      dsimp only at v1 v4 v5
      simp (disch := first | assumption | exact wn2_i | exact wn2_r | exact wn2_n | exact Nat.le_of_ble_eq_true rfl | omega | (refine nI_z ?_ ?_ <;> omega)) only [s89_26, wX_some, Option.toList_some, Option.toList_none, List.cons_append, List.nil_append, List.map_cons, List.map_nil, List.sum_cons, List.sum_nil, Value.category, wn2_i, wn2_r, wn2_n, Option.isSome_some, List.getElem?_cons_zero, List.getElem?_cons_succ, nI_add, nI_rem2]
      rw [s89_27]
      rcases (by omega : c = 0 ∨ c = 1 ∨ c = 2 ∨ c = 3 ∨ c = 4 ∨ c = 5) with e | e | e | e | e | e <;> subst e
      · rw [if_pos rfl] at k ⊢
        simp (disch := first | assumption | exact wn2_i | exact wn2_r | exact wn2_n | exact Nat.le_of_ble_eq_true rfl | omega | (refine nI_z ?_ ?_ <;> omega)) only [s89_60, s89_61, s89_64, s89_65, s89_66, s89_67, s89_68, wX_some, Option.toList_some, Option.toList_none, List.cons_append, List.nil_append, List.map_cons, List.map_nil, List.sum_cons, List.sum_nil, Value.category, wn2_i, wn2_r, wn2_n, Option.isSome_some, List.getElem?_cons_zero, List.getElem?_cons_succ, nI_add, nI_rem2, hgo, at1, lt1, iat_n, v0]
        exact k h1 ⟨k1, u2, hM1⟩ ho9
      · rw [if_neg (by decide), if_pos rfl] at k ⊢
        simp (disch := first | assumption | exact wn2_i | exact wn2_r | exact wn2_n | exact Nat.le_of_ble_eq_true rfl | omega | (refine nI_z ?_ ?_ <;> omega)) only [s89_69, s89_70, s89_73, s89_74, s89_75, s89_76, s89_77, wX_some, Option.toList_some, Option.toList_none, List.cons_append, List.nil_append, List.map_cons, List.map_nil, List.sum_cons, List.sum_nil, Value.category, wn2_i, wn2_r, wn2_n, Option.isSome_some, List.getElem?_cons_zero, List.getElem?_cons_succ, nI_add, nI_rem2, hgo, an, ln, iat_n, Nat.zero_add, v1]
        exact k h1 ⟨k1, u2, hM1⟩ ho9
      · rw [if_neg (by decide), if_neg (by decide), if_pos rfl] at k ⊢
        simp (disch := first | assumption | exact wn2_i | exact wn2_r | exact wn2_n | exact Nat.le_of_ble_eq_true rfl | omega | (refine nI_z ?_ ?_ <;> omega)) only [s89_78, s89_79, s89_82, s89_84, s89_85, s89_86, s89_87, wX_some, Option.toList_some, Option.toList_none, List.cons_append, List.nil_append, List.map_cons, List.map_nil, List.sum_cons, List.sum_nil, Value.category, wn2_i, wn2_r, wn2_n, Option.isSome_some, List.getElem?_cons_zero, List.getElem?_cons_succ, nI_add, nI_rem2, hgo, at1, lt1, iat_n, v2]
        exact k h1 ⟨k1, u2, hM1⟩ ho9
      · rw [if_neg (by decide), if_neg (by decide), if_neg (by decide), if_pos rfl] at k ⊢
        simp (disch := first | assumption | exact wn2_i | exact wn2_r | exact wn2_n | exact Nat.le_of_ble_eq_true rfl | omega | (refine nI_z ?_ ?_ <;> omega)) only [s89_88, s89_89, s89_90, s89_93, wX_some, Option.toList_some, Option.toList_none, List.cons_append, List.nil_append, List.map_cons, List.map_nil, List.sum_cons, List.sum_nil, Value.category, wn2_i, wn2_r, wn2_n, Option.isSome_some, List.getElem?_cons_zero, List.getElem?_cons_succ, nI_add, nI_rem2, hlo]
        exact k h1 ⟨k1, u2, hM1⟩ ho9
      · rw [if_neg (by decide), if_neg (by decide), if_neg (by decide), if_neg (by decide), if_pos rfl] at k ⊢
        simp (disch := first | assumption | exact wn2_i | exact wn2_r | exact wn2_n | exact Nat.le_of_ble_eq_true rfl | omega | (refine nI_z ?_ ?_ <;> omega)) only [s89_94, s89_95, s89_98, s89_100, s89_101, s89_102, s89_103, wX_some, Option.toList_some, Option.toList_none, List.cons_append, List.nil_append, List.map_cons, List.map_nil, List.sum_cons, List.sum_nil, Value.category, wn2_i, wn2_r, wn2_n, Option.isSome_some, List.getElem?_cons_zero, List.getElem?_cons_succ, nI_add, nI_rem2, hgo, an, ln, iat_n, v4]
        exact k h1 ⟨k1, u2, hM1⟩ ho9
      · rw [if_neg (by decide), if_neg (by decide), if_neg (by decide), if_neg (by decide), if_neg (by decide)] at k ⊢
        rw [if_pos rfl] at k
        simp (disch := first | assumption | exact wn2_i | exact wn2_r | exact wn2_n | exact Nat.le_of_ble_eq_true rfl | omega | (refine nI_z ?_ ?_ <;> omega)) only [s89_104, s89_105, s89_108, s89_110, s89_111, s89_112, s89_113, wX_some, Option.toList_some, Option.toList_none, List.cons_append, List.nil_append, List.map_cons, List.map_nil, List.sum_cons, List.sum_nil, Value.category, wn2_i, wn2_r, wn2_n, Option.isSome_some, List.getElem?_cons_zero, List.getElem?_cons_succ, nI_add, nI_rem2, hgo, an, ln, iat_n, v5]
        exact k h1 ⟨k1, u2, hM1⟩ ho9
theorem m_pass (hM : MIS h S) (hg : GIS S) {x : Int32} (k : ∀ h1, MIS h1 (op_pass x S).2 → Off h h1 97 13 → Q (some (.int (op_pass x S).1)) h1) : WP sc 96 0 [some (.ref 97), some (.int x)] [] h Q := by
  obtain ⟨⟨T, m⟩, A, U, K, L⟩ := S
  have hM0 := hM
  obtain ⟨k1, u2, hM⟩ := hM
  have hg : GI m A U K L := hg
  have hM : MJ h (-4) k1 (-4) u2 T m A U K L := hM
  obtain ⟨sp, td, nw, sd, hgo, his, hI, at1, an, as1, lt1, ln, ls1, hK, hR, b97, b102, b103⟩ := hM.facts
  obtain ⟨-, hAG, hq, hU, hKK, hUl, -⟩ := hg
  have hAG0 := hAG
  obtain ⟨⟨G1, G2⟩, ⟨G3, G4⟩, G5, G6, G7⟩ := hAG
  have rq : nw.getD 24 0 = nI (A 4 0) := hR.2.2.1
  unfold op_pass at k
  dsimp only at k
  cases hr : rng 1 20 x with
  | false =>
    rw [hr, if_neg (by decide)] at k
    simp (disch := first | assumption | exact wn2_i | exact wn2_r | exact wn2_n | exact Nat.le_of_ble_eq_true rfl | omega | (refine nI_z ?_ ?_ <;> omega)) only [s96_0, s96_1, s96_2, s96_3, s96_6, s96_9, s96_12, s96_13, wX_some, Option.toList_some, Option.toList_none, List.cons_append, List.nil_append, List.map_cons, List.map_nil, List.sum_cons, List.sum_nil, Value.category, wn2_i, wn2_r, wn2_n, Option.isSome_some, List.getElem?_cons_zero, List.getElem?_cons_succ, nI_add, nI_rem2, in_rng, hr, Bool.false_eq_true, if_false, nI_eq0, if_true]
    exact k h hM0 Off.rf
  | true =>
    rw [hr, if_pos rfl] at k
    obtain ⟨n, n1, n2, rfl⟩ := rng_nI (by omega) hr
    rw [nat_nI (by omega)] at k
    by_cases hq2 : 999 < A 4 0 + n
    · rw [if_pos hq2] at k
      have e1 : ¬ nI (A 4 0 + n) ≤ nI 999 := nI_ge hq2 (by omega)
      simp (disch := first | assumption | exact wn2_i | exact wn2_r | exact wn2_n | exact Nat.le_of_ble_eq_true rfl | omega | (refine nI_z ?_ ?_ <;> omega)) only [s96_0, s96_1, s96_2, s96_3, s96_6, s96_9, s96_12, s96_13, s96_14, s96_15, s96_18, s96_20, s96_21, s96_22, s96_23, s96_26, s96_29, s96_31, wX_some, Option.toList_some, Option.toList_none, List.cons_append, List.nil_append, List.map_cons, List.map_nil, List.sum_cons, List.sum_nil, Value.category, wn2_i, wn2_r, wn2_n, Option.isSome_some, List.getElem?_cons_zero, List.getElem?_cons_succ, nI_add, nI_rem2, in_rng, hr, if_true, nI_eq0, if_false, Nat.reduceEqDiff, hgo, an, ln, iat_n, rq, e1]
      exact k h hM0 Off.rf
    · rw [if_neg hq2] at k
      have e1 : nI (A 4 0 + n) ≤ nI 999 := nI_le (by omega) (by omega)
      simp (disch := first | assumption | exact wn2_i | exact wn2_r | exact wn2_n | exact Nat.le_of_ble_eq_true rfl | omega | (refine nI_z ?_ ?_ <;> omega)) only [s96_0, s96_1, s96_2, s96_3, s96_6, s96_9, s96_12, s96_13, s96_14, s96_15, s96_18, s96_20, s96_21, s96_22, s96_23, s96_26, s96_29, s96_31, s96_32, s96_33, wX_some, Option.toList_some, Option.toList_none, List.cons_append, List.nil_append, List.map_cons, List.map_nil, List.sum_cons, List.sum_nil, Value.category, wn2_i, wn2_r, wn2_n, Option.isSome_some, List.getElem?_cons_zero, List.getElem?_cons_succ, nI_add, nI_rem2, in_rng, hr, if_true, nI_eq0, if_false, Nat.reduceEqDiff, hgo, an, ln, iat_n, rq, e1]
      refine note_wp hM hAG0 (fun B hB => by have := (hU B hB).1; exact ⟨this.1.2, this.2.1.2⟩) hUl (fun h1 hM1 hx1 => ?_)
      have ho1 : Off h h1 97 13 := hx1.off (fun i hi => by omega)
      have hI := hM1.facts
      obtain ⟨_, _, _, _, _, _, hI, -⟩ := hI
      simp (disch := first | assumption | exact wn2_i | exact wn2_r | exact wn2_n | exact Nat.le_of_ble_eq_true rfl | omega | (refine nI_z ?_ ?_ <;> omega)) only [s96_36, s96_37, wX_some, Option.toList_some, Option.toList_none, List.cons_append, List.nil_append, List.map_cons, List.map_nil, List.sum_cons, List.sum_nil, Value.category, wn2_i, wn2_r, wn2_n, Option.isSome_some, List.getElem?_cons_zero, List.getElem?_cons_succ, nI_add, nI_rem2]
      refine aside_wp hM1 hAG0 (fun h2 hM2 hs2 ho2 => ?_)
      have hMS := hM2.ms0 G2 hs2
      obtain ⟨_, _, _, _, _, _, hI, -⟩ := hM2.facts
      simp (disch := first | assumption | exact wn2_i | exact wn2_r | exact wn2_n | exact Nat.le_of_ble_eq_true rfl | omega | (refine nI_z ?_ ?_ <;> omega)) only [s96_40, s96_41, s96_42, wX_some, Option.toList_some, Option.toList_none, List.cons_append, List.nil_append, List.map_cons, List.map_nil, List.sum_cons, List.sum_nil, Value.category, wn2_i, wn2_r, wn2_n, Option.isSome_some, List.getElem?_cons_zero, List.getElem?_cons_succ, nI_add, nI_rem2]
      refine goQuarters_wp hMS hAG0 (by omega) (by omega) (fun h3 hMS3 ho3 => ?_)
      have hM3 := hM2.side hMS3 ho3
      obtain ⟨_, _, _, _, _, _, hI, -⟩ := hM3.facts
      simp (disch := first | assumption | exact wn2_i | exact wn2_r | exact wn2_n | exact Nat.le_of_ble_eq_true rfl | omega | (refine nI_z ?_ ?_ <;> omega)) only [s96_45, s96_46, wX_some, Option.toList_some, Option.toList_none, List.cons_append, List.nil_append, List.map_cons, List.map_nil, List.sum_cons, List.sum_nil, Value.category, wn2_i, wn2_r, wn2_n, Option.isSome_some, List.getElem?_cons_zero, List.getElem?_cons_succ, nI_add, nI_rem2]
      have hs := lpA_s (A := A) n
      refine take_wp hM3 hMS3 (by rw [hs.1]; exact G2) (by rw [hs.1]; exact G4) hs.1 hs.2.2.1 hs.2.1 (fun h4 hM4 ho4 => ?_)
      obtain ⟨sp, td, nw, sd, hgo, his, hI, at1, an, as1, lt1, ln, ls1, hK, hR, b97, b102, b103⟩ := hM4.facts
      have rc : nw.getD 25 0 = chI (lpA A n 4 2) := hR.2.2.2.1
      simp (disch := first | assumption | exact wn2_i | exact wn2_r | exact wn2_n | exact Nat.le_of_ble_eq_true rfl | omega | (refine nI_z ?_ ?_ <;> omega)) only [s96_49, s96_50, s96_53, s96_55, s96_56, wX_some, Option.toList_some, Option.toList_none, List.cons_append, List.nil_append, List.map_cons, List.map_nil, List.sum_cons, List.sum_nil, Value.category, wn2_i, wn2_r, wn2_n, Option.isSome_some, List.getElem?_cons_zero, List.getElem?_cons_succ, nI_add, nI_rem2, hgo, an, ln, iat_n, rc]
      exact k h4 ⟨k1, u2, hM4⟩ (((ho1.tr (ho2.wide (by omega) (by omega))).tr (ho3.wide (by omega) (by omega))).tr ho4)
theorem MJ.now {h1 : List ms_C} {o1 k1 o2 u2 : Int32} {T : Nat → Nat} {m : Nat} {A B : AS} {U K : List AS} {L : List (Nat × Nat)} (hM : MJ h o1 k1 o2 u2 T m A U K L) (hn : AR h1 102 27 (fun l => RA (fun i => l.getD i 0) B)) (ho : Off h h1 102 1) (e7 : B 7 = A 7) (e5 : B 5 = A 5) (e6 : B 6 = A 6) : MJ h1 o1 k1 o2 u2 T m B U K L := by
  obtain ⟨⟨sp, z1⟩, ⟨a98, a99, a100, a101, a102, a104, a105, a106, a107, a108, a109⟩, a103⟩ := hM
  have a99b : AR h1 99 14 (fun l => KA (fun i => l.getD i 0) B) := by
    obtain ⟨td, t1, t2, t3⟩ := a99.off (ho.2 99 (by omega))
    refine ⟨td, t1, t2, ?_⟩
    unfold KA at t3 ⊢
    rw [e7, e5, e6]; exact t3
  exact ⟨⟨sp, (ho.2 97 (by omega)).trans z1⟩, ⟨a98.off (ho.2 98 (by omega)), a99b, a100.off (ho.2 100 (by omega)), a101.off (ho.2 101 (by omega)), hn, a104.off (ho.2 104 (by omega)), a105.off (ho.2 105 (by omega)), a106.off (ho.2 106 (by omega)), a107.off (ho.2 107 (by omega)), a108.off (ho.2 108 (by omega)), a109.off (ho.2 109 (by omega))⟩, a103.off (ho.2 103 (by omega))⟩
theorem m_mud (hM : MIS h S) (hg : GIS S) {s x : Int32} {l3 : Option Value} (k : ∀ h1, MIS h1 (op_mud s x S).2 → Off h h1 97 13 → Q (some (.int (op_mud s x S).1)) h1) : WP sc 103 0 [some (.ref 97), some (.int s), some (.int x), l3] [] h Q := by
  obtain ⟨⟨T, m⟩, A, U, K, L⟩ := S
  have hM0 := hM
  obtain ⟨k1, u2, hM⟩ := hM
  have hg : GI m A U K L := hg
  have hM : MJ h (-4) k1 (-4) u2 T m A U K L := hM
  obtain ⟨sp, td, nw, sd, hgo, his, hI, at1, an, as1, lt1, ln, ls1, hK, hR, b97, b102, b103⟩ := hM.facts
  obtain ⟨-, hAG, hq, hU, hKK, hUl, -⟩ := hg
  have hAG0 := hAG
  obtain ⟨⟨G1, G2⟩, ⟨G3, G4⟩, G5, G6, G7⟩ := hAG
  have hw := fun Q x => isStreet_wp (sc := sc) (Q := Q) hM (by omega) G2 (x := x)
  unfold op_mud inS at k
  dsimp only at k
  cases hr : rng 0 (A 7 0 - 1) s with
  | false =>
    rw [hr, Bool.false_and, if_neg (by decide)] at k
    simp (disch := first | assumption | exact wn2_i | exact wn2_r | exact wn2_n | exact Nat.le_of_ble_eq_true rfl | omega | (refine nI_z ?_ ?_ <;> omega)) only [s103_0, s103_1, s103_2, s103_5, s103_8, s103_9, s103_10, s103_11, s103_14, s103_17, s103_20, s103_21, wX_some, Option.toList_some, Option.toList_none, List.cons_append, List.nil_append, List.map_cons, List.map_nil, List.sum_cons, List.sum_nil, Value.category, wn2_i, wn2_r, wn2_n, Option.isSome_some, List.getElem?_cons_zero, List.getElem?_cons_succ, nI_add, nI_rem2, hw, hr, Bool.false_eq_true, if_false, nI_eq0, if_true]
    exact k h hM0 Off.rf
  | true =>
    cases hr2 : rng 0 40 x with
    | false =>
      rw [hr, hr2, Bool.and_false, if_neg (by decide)] at k
      simp (disch := first | assumption | exact wn2_i | exact wn2_r | exact wn2_n | exact Nat.le_of_ble_eq_true rfl | omega | (refine nI_z ?_ ?_ <;> omega)) only [s103_0, s103_1, s103_2, s103_5, s103_8, s103_9, s103_10, s103_11, s103_14, s103_17, s103_20, s103_21, wX_some, Option.toList_some, Option.toList_none, List.cons_append, List.nil_append, List.map_cons, List.map_nil, List.sum_cons, List.sum_nil, Value.category, wn2_i, wn2_r, wn2_n, Option.isSome_some, List.getElem?_cons_zero, List.getElem?_cons_succ, nI_add, nI_rem2, hw, hr, hr2, in_rng, Bool.false_eq_true, if_false, nI_eq0, if_true, Nat.reduceEqDiff]
      exact k h hM0 Off.rf
    | true =>
      rw [hr, hr2, Bool.and_true, if_pos rfl] at k
      obtain ⟨j, j1, j2, rfl⟩ := rng_nI (by omega) hr
      obtain ⟨n, n1, n2, rfl⟩ := rng_nI (by omega) hr2
      rw [nat_nI (by omega), nat_nI (by omega)] at k
      have hj : j < A 7 0 := by omega
      have b := G5 j hj
      have v4 : nw.getD (6 + j) 0 = nI (A 1 j) := (hR.1 j hj).2.1
      by_cases he : A 1 j = n
      · rw [if_pos he] at k
        simp (disch := first | assumption | exact wn2_i | exact wn2_r | exact wn2_n | exact Nat.le_of_ble_eq_true rfl | omega | (refine nI_z ?_ ?_ <;> omega)) only [s103_0, s103_1, s103_2, s103_5, s103_8, s103_9, s103_10, s103_11, s103_14, s103_17, s103_20, s103_21, s103_22, s103_23, s103_26, s103_28, s103_29, s103_30, s103_31, s103_32, s103_33, s103_34, s103_37, s103_39, wX_some, Option.toList_some, Option.toList_none, List.cons_append, List.nil_append, List.map_cons, List.map_nil, List.sum_cons, List.sum_nil, Value.category, wn2_i, wn2_r, wn2_n, Option.isSome_some, List.getElem?_cons_zero, List.getElem?_cons_succ, nI_add, nI_rem2, hw, hr, hr2, in_rng, if_false, nI_eq0, if_true, Nat.reduceEqDiff, hgo, an, ln, iat_n, v4, nI_eq, he]
        exact k h hM0 Off.rf
      · rw [if_neg he] at k
        simp (disch := first | assumption | exact wn2_i | exact wn2_r | exact wn2_n | exact Nat.le_of_ble_eq_true rfl | omega | (refine nI_z ?_ ?_ <;> omega)) only [s103_0, s103_1, s103_2, s103_5, s103_8, s103_9, s103_10, s103_11, s103_14, s103_17, s103_20, s103_21, s103_22, s103_23, s103_26, s103_28, s103_29, s103_30, s103_31, s103_32, s103_33, s103_34, s103_37, s103_39, s103_40, s103_41, wX_some, Option.toList_some, Option.toList_none, List.cons_append, List.nil_append, List.map_cons, List.map_nil, List.sum_cons, List.sum_nil, Value.category, wn2_i, wn2_r, wn2_n, Option.isSome_some, List.getElem?_cons_zero, List.getElem?_cons_succ, nI_add, nI_rem2, hw, hr, hr2, in_rng, if_false, nI_eq0, if_true, Nat.reduceEqDiff, hgo, an, ln, iat_n, v4, nI_eq, he]
        refine note_wp hM hAG0 (fun B hB => by have := (hU B hB).1; exact ⟨this.1.2, this.2.1.2⟩) hUl (fun h1 hM1 hx1 => ?_)
        have ho1 : Off h h1 97 13 := hx1.off (fun i hi => by omega)
        obtain ⟨sp, td, nw, sd, hgo, his, hI, at1, an, as1, lt1, ln, ls1, hK, hR, b97, b102, b103⟩ := hM1.facts
        simp (disch := first | assumption | exact wn2_i | exact wn2_r | exact wn2_n | exact Nat.le_of_ble_eq_true rfl | omega | (refine nI_z ?_ ?_ <;> omega)) only [s103_44, s103_45, s103_48, s103_50, s103_51, s103_52, s103_53, s103_54, s103_55, wX_some, Option.toList_some, Option.toList_none, List.cons_append, List.nil_append, List.map_cons, List.map_nil, List.sum_cons, List.sum_nil, Value.category, wn2_i, wn2_r, wn2_n, Option.isSome_some, List.getElem?_cons_zero, List.getElem?_cons_succ, nI_add, nI_rem2, hgo, an, ln, iat_n]
        have ho2 : Off h1 (h1.set 102 (ms_ia (nw.set (6 + j) (nI n)))) 102 1 := Off.rf.st (by omega) (by omega)
        refine k _ ⟨k1, u2, hM1.now ⟨nw.set (6 + j) (nI n), s_eq b102, by rw [List.length_set]; exact ln, RA.m hR ln G2 G4 (by omega)⟩ ho2 rfl rfl rfl⟩ (ho1.tr (ho2.wide (by omega) (by omega)))
end M65

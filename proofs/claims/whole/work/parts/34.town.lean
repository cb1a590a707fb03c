-- Town: addWork, become
section TOWN6
variable {sc : List Int32} {h : List ms_C} {Q : Option Value → List ms_C → Prop} {a b : Nat} {A B : AS}
theorem addWork_no (hT : TA h a A) (h6 : A 7 1 ≤ 6) {o1 : Option Nat} (h1 : ∀ v, o1 = some v → v ≤ 99) (hno : A 7 1 = 6 ∨ oI 1 40 o1 = false) : WP sc 23 0 [some (.ref a), some (.int (pI o1))] [] h Q ↔ Q (some (.int (nI 0))) h := by
  obtain ⟨kd, we, us, di, st, wo, hg, hi, hI, -⟩ := hT.facts
  have w1 := fun Q => within_o (sc := sc) (h := h) (Q := Q) o1 h1 (lo := 1) (hi := 40) (by omega) (by omega)
  by_cases c0 : A 7 1 = 6
  · have n1 : nI 6 ≤ nI (A 7 1) := nI_le (by omega) (by omega)
    simp (disch := first | assumption | exact wn2_i | exact wn2_r | exact wn2_n | exact Nat.le_of_ble_eq_true rfl | omega | (refine nI_z ?_ ?_ <;> omega)) only [s23_0, s23_1, s23_4, s23_6, s23_9, s23_10, s23_11, s23_13, s23_16, s23_19, s23_20, s23_21, s23_22, s23_25, s23_26, s23_29, s23_30, s23_31, s23_32, s23_33, s23_36, s23_37, s23_38, s23_41, s23_42, wX_some, Option.toList_some, Option.toList_none, List.cons_append, List.nil_append, List.map_cons, List.map_nil, List.sum_cons, List.sum_nil, Value.category, wn2_i, wn2_r, wn2_n, Option.isSome_some, List.getElem?_cons_zero, List.getElem?_cons_succ, nI_add, nI_rem2, hg, n1, if_true, nI_eq0, true_or, true_and]
  · have n1 : ¬ nI 6 ≤ nI (A 7 1) := nI_ge (by omega) (by omega)
    cases c1 : oI 1 40 o1 with
    | false => simp (disch := first | assumption | exact wn2_i | exact wn2_r | exact wn2_n | exact Nat.le_of_ble_eq_true rfl | omega | (refine nI_z ?_ ?_ <;> omega)) only [s23_0, s23_1, s23_4, s23_6, s23_9, s23_10, s23_11, s23_13, s23_16, s23_19, s23_20, s23_21, s23_22, s23_25, s23_26, s23_29, s23_30, s23_31, s23_32, s23_33, s23_36, s23_37, s23_38, s23_41, s23_42, wX_some, Option.toList_some, Option.toList_none, List.cons_append, List.nil_append, List.map_cons, List.map_nil, List.sum_cons, List.sum_nil, Value.category, wn2_i, wn2_r, wn2_n, Option.isSome_some, List.getElem?_cons_zero, List.getElem?_cons_succ, nI_add, nI_rem2, hg, n1, if_false, w1, c1, true_or, true_and, Bool.false_eq_true, if_true, nI_eq0, Nat.reduceEqDiff]
    | true => simp [c0, c1] at hno
theorem addWork_yes (hT : TA h a A) (h6 : A 7 1 < 6) {v : Nat} (h1 : 1 ≤ v ∧ v ≤ 40) (kk : ∀ h1, TA h1 a (adW A v) → Off h h1 a 7 → Q (some (.int (nI 1))) h1) : WP sc 23 0 [some (.ref a), some (.int (nI v))] [] h Q := by
  have w1 := fun Q => within_o (sc := sc) (h := h) (Q := Q) (some v) (fun v hv => by cases hv; omega) (lo := 1) (hi := 40) (by omega) (by omega)
  have c1 : oI 1 40 (some v) = true := by simp [oI]; omega
  simp only [pI, c1, if_true] at w1
  obtain ⟨kd, we, us, di, st, wo, hg, hi, hI, a1, a2, a3, a4, a5, a6, g1, g2, g3, g4, g5, g6, k1, k2, k3, k4, k5, k6, hlen⟩ := hT.facts
  obtain ⟨kd', we', us', di', st', wo', z0, ⟨z1, z2, z3, z4, z5, z6⟩, -⟩ := hT
  rw [a_arr z1] at a1; cases a1
  rw [a_arr z2] at a2; cases a2
  rw [a_arr z3] at a3; cases a3
  rw [a_arr z4] at a4; cases a4
  rw [a_arr z5] at a5; cases a5
  rw [a_arr z6] at a6; cases a6
  have b6 := a_arr z6
  have n1 : ¬ nI 6 ≤ nI (A 7 1) := nI_ge (by omega) (by omega)
  simp (disch := first | assumption | exact wn2_i | exact wn2_r | exact wn2_n | exact Nat.le_of_ble_eq_true rfl | omega | (refine nI_z ?_ ?_ <;> omega)) only [s23_0, s23_1, s23_4, s23_6, s23_9, s23_10, s23_11, s23_13, s23_16, s23_19, s23_20, s23_21, s23_22, s23_25, s23_26, s23_29, s23_30, s23_31, s23_32, s23_33, s23_36, s23_37, s23_38, s23_41, s23_42, wX_some, Option.toList_some, Option.toList_none, List.cons_append, List.nil_append, List.map_cons, List.map_nil, List.sum_cons, List.sum_nil, Value.category, wn2_i, wn2_r, wn2_n, Option.isSome_some, List.getElem?_cons_zero, List.getElem?_cons_succ, nI_add, nI_rem2, hg, n1, if_false, w1, nI_eq0, Nat.reduceEqDiff, b6, g6, iat_n, g_ne, i_ne, ne_eq, Nat.add_right_inj, not_false_eq_true, hi, TO_len, Nat.reduceLT, true_and, nI_eq1, or_true]
  refine kk _ ?_ ?_
  rotate_left
  · exact (Off.rf.st (by omega) (by omega)).st (by omega) (by omega)
  refine ⟨kd, we, us, di, st, wo.set (A 7 1) (nI v), ?_, ⟨?_, ?_, ?_, ?_, ?_, ?_⟩, ?_⟩
  · rw [s_eq (by simp; omega)]; rfl
  · simp [List.getElem?_set]; exact z1
  · simp [List.getElem?_set]; exact z2
  · simp [List.getElem?_set]; exact z3
  · simp [List.getElem?_set]; exact z4
  · simp [List.getElem?_set]; exact z5
  · simp [List.getElem?_set]; omega
  · exact ⟨k1, k2, k3, k4, k5, k6.app h6⟩
def CP (l m : List Int32) (i : Nat) : Prop := l.length = 6 ∧ ∀ j, j < i → l.getD j 0 = m.getD j 0
theorem CP.nx {l m : List Int32} {i : Nat} (h : CP l m i) (hi : i < 6) : CP (l.set i (m.getD i 0)) m (i + 1) := by
  refine ⟨by simpa using h.1, fun j hj => ?_⟩
  by_cases hij : j = i
  · subst hij
    simp [List.getD_eq_getElem?_getD, h.1, hi]
  · simp [List.getD_eq_getElem?_getD, List.getElem?_set, Ne.symm hij]
    rw [← List.getD_eq_getElem?_getD, ← List.getD_eq_getElem?_getD]
    exact h.2 j (by omega)
theorem CP.z {l m : List Int32} (h : l.length = 6) : CP l m 0 := ⟨h, fun j hj => by omega⟩
theorem CP.al {l m : List Int32} {f : Nat → Nat} {n : Nat} (h : CP l m 6) (k : AL m f n) (hn : n ≤ 6) : AL l f n := ⟨h.1, fun i hi => (h.2 i (by omega)).trans (k.2 i hi)⟩
theorem become_wp (hT : TA h a A) (hU : TA h b B) (hd : a + 7 ≤ b ∨ b + 7 ≤ a) (hn : B 7 0 ≤ 6) (hw : B 7 1 ≤ 6) {l2 : Option Value} (k : ∀ h1, TA h1 a B → Off h h1 a 7 → Q none h1) : WP sc 25 0 [some (.ref a), some (.ref b), l2] [] h Q := by
  obtain ⟨kd', we', us', di', st', wo', y0, ⟨y1, y2, y3, y4, y5, y6⟩, p1, p2, p3, p4, p5, p6⟩ := hU
  obtain ⟨kd, we, us, di, st, wo, z0, ⟨z1, z2, z3, z4, z5, z6⟩, q1, q2, q3, q4, q5, q6⟩ := hT
  have keep : ∀ {h1}, Off h h1 a 7 → h1[b]? = some (ms_obj 4 (TO b B)) ∧ h1[b + 1]? = some (ms_ia kd') ∧ h1[b + 2]? = some (ms_ia we') ∧ h1[b + 3]? = some (ms_ia us') ∧ h1[b + 4]? = some (ms_ia di') ∧ h1[b + 5]? = some (ms_ia st') ∧ h1[b + 6]? = some (ms_ia wo') := fun ho =>
    ⟨(ho.2 _ (by omega)).trans y0, (ho.2 _ (by omega)).trans y1, (ho.2 _ (by omega)).trans y2, (ho.2 _ (by omega)).trans y3, (ho.2 _ (by omega)).trans y4, (ho.2 _ (by omega)).trans y5, (ho.2 _ (by omega)).trans y6⟩
  have key2 : ∀ i, i ≤ 6 → ∀ h1 kd we us di st wo, h1[a]? = some (ms_obj 4 (TO a A)) → h1[a + 1]? = some (ms_ia kd) → h1[a + 2]? = some (ms_ia we) → h1[a + 3]? = some (ms_ia us) → h1[a + 4]? = some (ms_ia di) → h1[a + 5]? = some (ms_ia st) → h1[a + 6]? = some (ms_ia wo) → CP kd kd' 6 → CP we we' 6 → CP us us' 6 → CP di di' 6 → CP st st' 6 → CP wo wo' i → Off h h1 a 7 → WP sc 25 76 [some (.ref a), some (.ref b), some (.int (nI i))] [] h1 Q := by
    refine loop_up ?_ ?_
    · intro h1 kd we us di st wo x0 x1 x2 x3 x4 x5 x6 c1 c2 c3 c4 c5 c6 ho
      obtain ⟨w0, w1, w2, w3, w4, w5, w6⟩ := keep ho
      have hg := g_obj w0
      have hi := i_obj x0
      have hlen := lt_of_some x6
      have ne : ¬ a = b := by omega
      rw [s25_76]
      simp (disch := first | assumption | exact wn2_i | exact wn2_r | exact wn2_n | exact Nat.le_of_ble_eq_true rfl | omega | (refine nI_z ?_ ?_ <;> omega)) only [s25_77, s25_79, s25_82, s25_83, s25_86, s25_87, s25_88, s25_91, s25_92, s25_93, s25_94, s25_97, s25_100, s25_101, s25_102, s25_105, s25_108, s25_109, s25_110, s25_113, s25_116, s25_117, s25_118, s25_121, s25_124, s25_125, s25_126, s25_129, s25_132, s25_133, s25_134, s25_137, s25_140, wX_some, Option.toList_some, Option.toList_none, List.cons_append, List.nil_append, List.map_cons, List.map_nil, List.sum_cons, List.sum_nil, Value.category, wn2_i, wn2_r, wn2_n, Option.isSome_some, List.getElem?_cons_zero, List.getElem?_cons_succ, nI_add, nI_rem2, nI_leI, Nat.le_refl, if_true, hg, hi, g_ne, ne_eq, ne, not_false_eq_true, i_eq, List.set_set, List.set_cons_zero, List.set_cons_succ, List.length_cons, List.length_nil, Nat.reduceAdd, Nat.reduceLT, true_and]
      refine k _ ?_ ?_
      rotate_left
      · exact ho.st (by omega) (by omega)
      exact ⟨kd, we, us, di, st, wo, s_eq (by omega), ⟨s_ne (by omega) x1, s_ne (by omega) x2, s_ne (by omega) x3, s_ne (by omega) x4, s_ne (by omega) x5, s_ne (by omega) x6⟩, c1.al p1 hn, c2.al p2 hn, c3.al p3 hn, c4.al p4 hn, c5.al p5 hn, c6.al p6 hw⟩
    · intro i hlt ih h1 kd we us di st wo x0 x1 x2 x3 x4 x5 x6 c1 c2 c3 c4 c5 c6 ho
      obtain ⟨w0, w1, w2, w3, w4, w5, w6⟩ := keep ho
      have hgA := g_obj x0
      have hgB := g_obj w0
      have r1 := a_arr x6
      have r2 := a_arr w6
      have l1 := c6.1
      have l2 := p6.1
      have hge : ¬ nI 6 ≤ nI i := nI_ge hlt (by omega)
      have hl := lt_of_some x6
      rw [s25_76]
      simp (disch := first | assumption | exact wn2_i | exact wn2_r | exact wn2_n | exact Nat.le_of_ble_eq_true rfl | omega | (refine nI_z ?_ ?_ <;> omega)) only [s25_77, s25_79, s25_82, s25_83, s25_86, s25_87, s25_88, s25_91, s25_92, s25_93, s25_94, s25_97, wX_some, Option.toList_some, Option.toList_none, List.cons_append, List.nil_append, List.map_cons, List.map_nil, List.sum_cons, List.sum_nil, Value.category, wn2_i, wn2_r, wn2_n, Option.isSome_some, List.getElem?_cons_zero, List.getElem?_cons_succ, nI_add, nI_rem2, hge, if_false, hgA, hgB, r1, r2, l1, l2, iat_n]
      exact ih _ kd we us di st (wo.set i (wo'.getD i 0)) (s_ne (by omega) x0) (s_ne (by omega) x1) (s_ne (by omega) x2) (s_ne (by omega) x3) (s_ne (by omega) x4) (s_ne (by omega) x5) (s_eq hl) c1 c2 c3 c4 c5 (c6.nx hlt) (ho.st (by omega) (by omega))
  have key1 : ∀ i, i ≤ 6 → ∀ h1 kd we us di st, h1[a]? = some (ms_obj 4 (TO a A)) → h1[a + 1]? = some (ms_ia kd) → h1[a + 2]? = some (ms_ia we) → h1[a + 3]? = some (ms_ia us) → h1[a + 4]? = some (ms_ia di) → h1[a + 5]? = some (ms_ia st) → h1[a + 6]? = some (ms_ia wo) → CP kd kd' i → CP we we' i → CP us us' i → CP di di' i → CP st st' i → Off h h1 a 7 → WP sc 25 2 [some (.ref a), some (.ref b), some (.int (nI i))] [] h1 Q := by
    refine loop_up ?_ ?_
    · intro h1 kd we us di st x0 x1 x2 x3 x4 x5 x6 c1 c2 c3 c4 c5 ho
      rw [s25_2]
      simp (disch := first | assumption | exact wn2_i | exact wn2_r | exact wn2_n | exact Nat.le_of_ble_eq_true rfl | omega | (refine nI_z ?_ ?_ <;> omega)) only [s25_3, s25_5, s25_8, s25_9, s25_12, s25_13, s25_14, s25_17, s25_18, s25_19, s25_20, s25_21, s25_24, s25_25, s25_26, s25_29, s25_30, s25_31, s25_32, s25_33, s25_36, s25_37, s25_38, s25_41, s25_42, s25_43, s25_44, s25_45, s25_48, s25_49, s25_50, s25_53, s25_54, s25_55, s25_56, s25_57, s25_60, s25_61, s25_62, s25_65, s25_66, s25_67, s25_68, s25_71, s25_74, s25_75, wX_some, Option.toList_some, Option.toList_none, List.cons_append, List.nil_append, List.map_cons, List.map_nil, List.sum_cons, List.sum_nil, Value.category, wn2_i, wn2_r, wn2_n, Option.isSome_some, List.getElem?_cons_zero, List.getElem?_cons_succ, nI_add, nI_rem2, nI_leI, Nat.le_refl, if_true]
      exact key2 0 (by omega) h1 kd we us di st wo x0 x1 x2 x3 x4 x5 x6 c1 c2 c3 c4 c5 (CP.z q6.1) ho
    · intro i hlt ih h1 kd we us di st x0 x1 x2 x3 x4 x5 x6 c1 c2 c3 c4 c5 ho
      obtain ⟨w0, w1, w2, w3, w4, w5, w6⟩ := keep ho
      have hgA := g_obj x0
      have hgB := g_obj w0
      have r1 := a_arr x1
      have r2 := a_arr x2
      have r3 := a_arr x3
      have r4 := a_arr x4
      have r5 := a_arr x5
      have t1 := a_arr w1
      have t2 := a_arr w2
      have t3 := a_arr w3
      have t4 := a_arr w4
      have t5 := a_arr w5
      have l1 := c1.1
      have l2 := c2.1
      have l3 := c3.1
      have l4 := c4.1
      have l5 := c5.1
      have m1 := p1.1
      have m2 := p2.1
      have m3 := p3.1
      have m4 := p4.1
      have m5 := p5.1
      have hge : ¬ nI 6 ≤ nI i := nI_ge hlt (by omega)
      have hl := lt_of_some x6
      rw [s25_2]
      simp (disch := first | assumption | exact wn2_i | exact wn2_r | exact wn2_n | exact Nat.le_of_ble_eq_true rfl | omega | (refine nI_z ?_ ?_ <;> omega)) only [s25_3, s25_5, s25_8, s25_9, s25_12, s25_13, s25_14, s25_17, s25_18, s25_19, s25_20, s25_21, s25_24, s25_25, s25_26, s25_29, s25_30, s25_31, s25_32, s25_33, s25_36, s25_37, s25_38, s25_41, s25_42, s25_43, s25_44, s25_45, s25_48, s25_49, s25_50, s25_53, s25_54, s25_55, s25_56, s25_57, s25_60, s25_61, s25_62, s25_65, s25_66, s25_67, s25_68, s25_71, wX_some, Option.toList_some, Option.toList_none, List.cons_append, List.nil_append, List.map_cons, List.map_nil, List.sum_cons, List.sum_nil, Value.category, wn2_i, wn2_r, wn2_n, Option.isSome_some, List.getElem?_cons_zero, List.getElem?_cons_succ, nI_add, nI_rem2, hge, if_false, hgA, hgB, r1, r2, r3, r4, r5, t1, t2, t3, t4, t5, l1, l2, l3, l4, l5, m1, m2, m3, m4, m5, iat_n, g_ne, a_ne]
      refine ih _ (kd.set i (kd'.getD i 0)) (we.set i (we'.getD i 0)) (us.set i (us'.getD i 0)) (di.set i (di'.getD i 0)) (st.set i (st'.getD i 0)) ?_ ?_ ?_ ?_ ?_ ?_ ?_ (c1.nx hlt) (c2.nx hlt) (c3.nx hlt) (c4.nx hlt) (c5.nx hlt) (((((ho.st (by omega) (by omega)).st (by omega) (by omega)).st (by omega) (by omega)).st (by omega) (by omega)).st (by omega) (by omega))
      · simp [List.getElem?_set]; exact x0
      · simp [List.getElem?_set]; omega
      · simp [List.getElem?_set]; omega
      · simp [List.getElem?_set]; omega
      · simp [List.getElem?_set]; omega
      · simp [List.getElem?_set]; omega
      · simp [List.getElem?_set]; exact x6
  simp (disch := first | assumption | exact wn2_i | exact wn2_r | exact wn2_n | exact Nat.le_of_ble_eq_true rfl | omega | (refine nI_z ?_ ?_ <;> omega)) only [s25_0, s25_1, wX_some, Option.toList_some, Option.toList_none, List.cons_append, List.nil_append, List.map_cons, List.map_nil, List.sum_cons, List.sum_nil, Value.category, wn2_i, wn2_r, wn2_n, Option.isSome_some, List.getElem?_cons_zero, List.getElem?_cons_succ, nI_add, nI_rem2]
  exact key1 0 (by omega) h kd we us di st z0 z1 z2 z3 z4 z5 z6 (CP.z q1.1) (CP.z q2.1) (CP.z q3.1) (CP.z q4.1) (CP.z q5.1) Off.rf
end TOWN6

-- Town: what only reads
section TOWN
variable {sc : List Int32} {h : List ms_C} {Q : Option Value → List ms_C → Prop} {a : Nat} {A : AS}
theorem hasStreet_wp (hT : TA h a A) (x : Int32) : WP sc 26 0 [some (.ref a), some (.int x)] [] h Q ↔ Q (some (.int (if 0 ≤ x ∧ x < nI (A 7 0) then nI 1 else nI 0))) h := by
  obtain ⟨kd, we, us, di, st, wo, h0, -⟩ := hT
  have hg := g_obj h0
  simp (disch := first | assumption | exact wn2_i | exact wn2_r | exact wn2_n | exact Nat.le_of_ble_eq_true rfl | omega | (refine nI_z ?_ ?_ <;> omega)) only [s26_0, s26_1, s26_4, s26_5, s26_6, s26_9, s26_12, s26_13, s26_16, s26_17, wX_some, Option.toList_some, Option.toList_none, List.cons_append, List.nil_append, List.map_cons, List.map_nil, List.sum_cons, List.sum_nil, Value.category, wn2_i, wn2_r, wn2_n, Option.isSome_some, List.getElem?_cons_zero, List.getElem?_cons_succ, nI_add, nI_rem2, hg]
  by_cases h1 : x < 0
  · have : ¬ 0 ≤ x := by rw [Int32.le_iff_toInt_le]; rw [Int32.lt_iff_toInt_lt] at h1; omega
    simp [h1, this, nI_0]
  · have h2 : 0 ≤ x := by rw [Int32.le_iff_toInt_le]; rw [Int32.lt_iff_toInt_lt] at h1; omega
    by_cases h3 : nI (A 7 0) ≤ x
    · have : ¬ x < nI (A 7 0) := by rw [Int32.lt_iff_toInt_lt]; rw [Int32.le_iff_toInt_le] at h3; omega
      simp [h1, h2, h3, this, nI_0]
    · have : x < nI (A 7 0) := by rw [Int32.lt_iff_toInt_lt]; rw [Int32.le_iff_toInt_le] at h3; omega
      simp [h1, h2, h3, this]
      intro _; right; rfl
end TOWN
section TOWN2
variable {sc : List Int32} {h : List ms_C} {Q : Option Value → List ms_C → Prop} {a : Nat} {A : AS}
theorem looks_wp (hT : TA h a A) {s : Nat} {l2 : Option Value} (hs : s < A 7 0) (h6 : A 7 0 ≤ 6) (hw : A 0 s ≤ 2000) (hm : A 1 s ≤ 2000) (hk : A 5 s ≤ 3) : WP sc 27 0 [some (.ref a), some (.int (nI s)), l2] [] h Q ↔ Q (some (.int (nI (lk A s)))) h := by
  obtain ⟨kd, we, us, di, st, wo, h0, ⟨h1, h2, h3, h4, h5, h6'⟩, ⟨g1, k1⟩, ⟨g2, k2⟩, ⟨g3, k3⟩, ⟨g4, k4⟩, ⟨g5, k5⟩, g6, k6⟩ := hT
  have hg := g_obj h0
  have a1 := a_arr h1
  have a2 := a_arr h2
  have a4 := a_arr h4
  have v1 := k1 s hs
  have v2 := k2 s hs
  have v4 := k4 s hs
  unfold lk lkK
  rcases (by omega : A 5 s = 0 ∨ A 5 s = 1 ∨ A 5 s = 2 ∨ A 5 s = 3) with e | e | e | e <;>
    simp (disch := first | assumption | exact wn2_i | exact wn2_r | exact wn2_n | exact Nat.le_of_ble_eq_true rfl | omega | (refine nI_z ?_ ?_ <;> omega)) only [s27_0, s27_1, s27_4, s27_5, s27_6, s27_7, s27_8, s27_11, s27_12, s27_13, s27_40, s27_43, s27_46, s27_47, s27_48, s27_49, s27_50, s27_53, s27_54, s27_57, s27_58, s27_59, s27_60, s27_61, s27_64, s27_65, s27_66, s27_69, s27_70, s27_71, s27_72, s27_73, s27_76, wX_some, Option.toList_some, Option.toList_none, List.cons_append, List.nil_append, List.map_cons, List.map_nil, List.sum_cons, List.sum_nil, Value.category, wn2_i, wn2_r, wn2_n, Option.isSome_some, List.getElem?_cons_zero, List.getElem?_cons_succ, nI_add, nI_rem2, hg, a1, a2, a4, g1, g2, g4, v1, v2, v4, iat_n, e, nI_eq, mx_sub, nI_div, if_true, if_false, Nat.reduceEqDiff, reduceCtorEq]
theorem turn_wp (hT : TA h a A) (hw : 1 ≤ A 7 1) (hw6 : A 7 1 ≤ 6) (hq : A 4 0 ≤ 200000) : WP sc 34 0 [some (.ref a)] [] h Q ↔ Q (some (.int (nI (A 4 0 % A 7 1)))) h := by
  obtain ⟨kd, we, us, di, st, wo, h0, -⟩ := hT
  have hg := g_obj h0
  have h1 : ¬ nI (A 7 1) ≤ 0 := nI_nle (by omega) (by omega)
  simp (disch := first | assumption | exact wn2_i | exact wn2_r | exact wn2_n | exact Nat.le_of_ble_eq_true rfl | omega | (refine nI_z ?_ ?_ <;> omega)) only [s34_0, s34_1, s34_4, s34_7, s34_8, s34_11, s34_12, s34_15, s34_16, s34_19, s34_20, wX_some, Option.toList_some, Option.toList_none, List.cons_append, List.nil_append, List.map_cons, List.map_nil, List.sum_cons, List.sum_nil, Value.category, wn2_i, wn2_r, wn2_n, Option.isSome_some, List.getElem?_cons_zero, List.getElem?_cons_succ, nI_add, nI_rem2, hg, h1, if_false, nI_rem]
theorem hasWork_wp (hT : TA h a A) (x : Int32) : WP sc 28 0 [some (.ref a), some (.int x)] [] h Q ↔ Q (some (.int (if 0 ≤ x ∧ x < nI (A 7 1) then nI 1 else nI 0))) h := by
  obtain ⟨kd, we, us, di, st, wo, h0, -⟩ := hT
  have hg := g_obj h0
  simp (disch := first | assumption | exact wn2_i | exact wn2_r | exact wn2_n | exact Nat.le_of_ble_eq_true rfl | omega | (refine nI_z ?_ ?_ <;> omega)) only [s28_0, s28_1, s28_4, s28_5, s28_6, s28_9, s28_12, s28_13, s28_16, s28_17, wX_some, Option.toList_some, Option.toList_none, List.cons_append, List.nil_append, List.map_cons, List.map_nil, List.sum_cons, List.sum_nil, Value.category, wn2_i, wn2_r, wn2_n, Option.isSome_some, List.getElem?_cons_zero, List.getElem?_cons_succ, nI_add, nI_rem2, hg]
  by_cases h1 : x < 0
  · have : ¬ 0 ≤ x := by rw [Int32.le_iff_toInt_le]; rw [Int32.lt_iff_toInt_lt] at h1; omega
    simp [h1, this, nI_0]
  · have h2 : 0 ≤ x := by rw [Int32.le_iff_toInt_le]; rw [Int32.lt_iff_toInt_lt] at h1; omega
    by_cases h3 : nI (A 7 1) ≤ x
    · have : ¬ x < nI (A 7 1) := by rw [Int32.lt_iff_toInt_lt]; rw [Int32.le_iff_toInt_le] at h3; omega
      simp [h1, h2, h3, this, nI_0]
    · have : x < nI (A 7 1) := by rw [Int32.lt_iff_toInt_lt]; rw [Int32.le_iff_toInt_le] at h3; omega
      simp [h1, h2, h3, this]
      intro _; right; rfl
theorem hasStreet_in (hT : TA h a A) {s : Nat} (hs : s < A 7 0) (h6 : A 7 0 ≤ 6) : WP sc 26 0 [some (.ref a), some (.int (nI s))] [] h Q ↔ Q (some (.int (nI 1))) h := by
  rw [hasStreet_wp hT, if_pos ⟨nI_pos' (by omega), nI_lt hs (by omega)⟩]
theorem hasWork_in (hT : TA h a A) {s : Nat} (hs : s < A 7 1) (h6 : A 7 1 ≤ 6) : WP sc 28 0 [some (.ref a), some (.int (nI s))] [] h Q ↔ Q (some (.int (nI 1))) h := by
  rw [hasWork_wp hT, if_pos ⟨nI_pos' (by omega), nI_lt hs (by omega)⟩]
theorem worthNow_wp (hT : TA h a A) {l1 : Option Value} (hw : 1 ≤ A 7 1) (hw6 : A 7 1 ≤ 6) (hq : A 4 0 ≤ 200000) : WP sc 33 0 [some (.ref a), l1] [] h Q ↔ Q (some (.int (nI (A 3 (A 4 0 % A 7 1))))) h := by
  have hT' := hT
  obtain ⟨kd, we, us, di, st, wo, h0, ⟨h1, h2, h3, h4, h5, h6'⟩, ⟨g1, k1⟩, ⟨g2, k2⟩, ⟨g3, k3⟩, ⟨g4, k4⟩, ⟨g5, k5⟩, g6, k6⟩ := hT
  have hg := g_obj h0
  have hi := i_obj h0
  have hI : (ms_is h a 4).isSome = true := by rw [hi]; rfl
  have a6 := a_arr h6'
  have hlt : A 4 0 % A 7 1 < A 7 1 := Nat.mod_lt _ (by omega)
  have v6 := k6 _ hlt
  simp (disch := first | assumption | exact wn2_i | exact wn2_r | exact wn2_n | exact Nat.le_of_ble_eq_true rfl | omega | (refine nI_z ?_ ?_ <;> omega)) only [s33_0, s33_1, s33_4, s33_5, s33_6, s33_7, s33_10, s33_13, s33_14, s33_17, s33_18, s33_19, s33_22, s33_23, wX_some, Option.toList_some, Option.toList_none, List.cons_append, List.nil_append, List.map_cons, List.map_nil, List.sum_cons, List.sum_nil, Value.category, wn2_i, wn2_r, wn2_n, Option.isSome_some, List.getElem?_cons_zero, List.getElem?_cons_succ, nI_add, nI_rem2, hg, hi, a6, g6, v6, turn_wp hT', hasWork_in hT', iat_n, nI_eq0, if_false, Nat.reduceEqDiff]
theorem poorestLooking_wp (hT : TA h a A) {x : Int32} {but : Nat} {l2 l3 l4 l5 : Option Value} (hx : ∀ s, s < 6 → (nI s = x ↔ s = but)) (h2 : 2 ≤ A 7 0) (h6 : A 7 0 ≤ 6) (hb : ∀ s, s < A 7 0 → A 0 s ≤ 2000 ∧ A 1 s ≤ 2000 ∧ A 5 s ≤ 3) : WP sc 31 0 [some (.ref a), some (.int x), l2, l3, l4, l5] [] h Q ↔ Q (some (.int (nI (prn A but)))) h := by
  have hT' := hT
  obtain ⟨kd, we, us, di, st, wo, h0, -⟩ := hT
  have hg := g_obj h0
  have hi := i_obj h0
  have hI : (ms_is h a 4).isSome = true := by rw [hi]; rfl
  have key : ∀ i, i ≤ A 7 0 → ∀ l5, WP sc 31 7 [some (.ref a), some (.int x), some (.int (pI (pst A but i))), some (.int (nI (lkO A (pst A but i)))), some (.int (nI i)), l5] [] h Q ↔ Q (some (.int (nI (prn A but)))) h := by
    refine loop_up ?_ ?_
    · intro l5
      have hge : nI (A 7 0) ≤ nI (A 7 0) := nI_le (Nat.le_refl _) (by omega)
      rw [s31_7]
      simp (disch := first | assumption | exact wn2_i | exact wn2_r | exact wn2_n | exact Nat.le_of_ble_eq_true rfl | omega | (refine nI_z ?_ ?_ <;> omega)) only [s31_9, s31_10, s31_13, s31_16, s31_17, s31_19, s31_22, s31_24, s31_26, s31_27, s31_30, s31_31, s31_32, s31_35, s31_37, s31_38, s31_41, s31_43, s31_44, s31_46, s31_47, s31_50, s31_53, s31_54, wX_some, Option.toList_some, Option.toList_none, List.cons_append, List.nil_append, List.map_cons, List.map_nil, List.sum_cons, List.sum_nil, Value.category, wn2_i, wn2_r, wn2_n, Option.isSome_some, List.getElem?_cons_zero, List.getElem?_cons_succ, nI_add, nI_rem2, hg, hge, if_true, prn_some, pI]
    · intro i hlt ih l5
      have hge : ¬ nI (A 7 0) ≤ nI i := nI_ge hlt (by omega)
      obtain ⟨b1, b2, b3⟩ := hb i hlt
      have hl := lk_le (A := A) (s := i)
      have e9 : pst A but (i + 1) = if i = but then pst A but i else match pst A but i with
        | none => some i
        | some p => if lk A i < lk A p then some i else some p := rfl
      by_cases hib : i = but
      · have hxi := (hx i (by omega)).mpr hib
        have hxt : (nI i = x) ↔ True := ⟨fun _ => trivial, fun _ => hxi⟩
        rw [e9, if_pos hib] at ih
        rw [s31_7]
        simp (disch := first | assumption | exact wn2_i | exact wn2_r | exact wn2_n | exact Nat.le_of_ble_eq_true rfl | omega | (refine nI_z ?_ ?_ <;> omega)) only [s31_9, s31_10, s31_13, s31_16, s31_17, s31_19, s31_22, s31_24, s31_26, s31_27, s31_47, s31_50, wX_some, Option.toList_some, Option.toList_none, List.cons_append, List.nil_append, List.map_cons, List.map_nil, List.sum_cons, List.sum_nil, Value.category, wn2_i, wn2_r, wn2_n, Option.isSome_some, List.getElem?_cons_zero, List.getElem?_cons_succ, nI_add, nI_rem2, hg, hi, hge, if_false, looks_wp hT', hxt, if_true]
        exact ih _
      · have hxi : ¬ nI i = x := fun q => hib ((hx i (by omega)).mp q)
        rw [e9, if_neg hib] at ih
        cases hp : pst A but i with
        | none =>
          rw [hp] at ih
          rw [s31_7]
          simp (disch := first | assumption | exact wn2_i | exact wn2_r | exact wn2_n | exact Nat.le_of_ble_eq_true rfl | omega | (refine nI_z ?_ ?_ <;> omega)) only [s31_9, s31_10, s31_13, s31_16, s31_17, s31_19, s31_22, s31_24, s31_26, s31_27, s31_30, s31_31, s31_32, s31_35, s31_37, s31_38, s31_41, s31_43, s31_44, s31_46, s31_47, s31_50, wX_some, Option.toList_some, Option.toList_none, List.cons_append, List.nil_append, List.map_cons, List.map_nil, List.sum_cons, List.sum_nil, Value.category, wn2_i, wn2_r, wn2_n, Option.isSome_some, List.getElem?_cons_zero, List.getElem?_cons_succ, nI_add, nI_rem2, hg, hi, hge, if_false, looks_wp hT', hxi, if_true, pI]
          exact ih _
        | some p =>
          rw [hp] at ih
          have hp1 := (pst_lt _ _ hp).1
          obtain ⟨c1, c2, c3⟩ := hb p (by omega)
          have hl2 := lk_le (A := A) (s := p)
          dsimp only at ih
          by_cases hlk : lk A i < lk A p
          · rw [if_pos hlk] at ih
            have n1 : ¬ nI (lk A p) ≤ nI (lk A i) := nI_ge hlk (by omega)
            rw [s31_7]
            simp (disch := first | assumption | exact wn2_i | exact wn2_r | exact wn2_n | exact Nat.le_of_ble_eq_true rfl | omega | (refine nI_z ?_ ?_ <;> omega)) only [s31_9, s31_10, s31_13, s31_16, s31_17, s31_19, s31_22, s31_24, s31_26, s31_27, s31_30, s31_31, s31_32, s31_35, s31_37, s31_38, s31_41, s31_43, s31_44, s31_46, s31_47, s31_50, wX_some, Option.toList_some, Option.toList_none, List.cons_append, List.nil_append, List.map_cons, List.map_nil, List.sum_cons, List.sum_nil, Value.category, wn2_i, wn2_r, wn2_n, Option.isSome_some, List.getElem?_cons_zero, List.getElem?_cons_succ, nI_add, nI_rem2, hg, hi, hge, if_false, looks_wp hT', hxi, pI, nI_m1, lkO, n1]
            exact ih _
          · rw [if_neg hlk] at ih
            have n1 : nI (lk A p) ≤ nI (lk A i) := nI_le (by omega) (by omega)
            rw [s31_7]
            simp (disch := first | assumption | exact wn2_i | exact wn2_r | exact wn2_n | exact Nat.le_of_ble_eq_true rfl | omega | (refine nI_z ?_ ?_ <;> omega)) only [s31_9, s31_10, s31_13, s31_16, s31_17, s31_19, s31_22, s31_24, s31_26, s31_27, s31_30, s31_31, s31_32, s31_35, s31_37, s31_38, s31_41, s31_43, s31_44, s31_46, s31_47, s31_50, wX_some, Option.toList_some, Option.toList_none, List.cons_append, List.nil_append, List.map_cons, List.map_nil, List.sum_cons, List.sum_nil, Value.category, wn2_i, wn2_r, wn2_n, Option.isSome_some, List.getElem?_cons_zero, List.getElem?_cons_succ, nI_add, nI_rem2, hg, hi, hge, if_false, looks_wp hT', hxi, pI, nI_m1, lkO, n1, if_true]
            exact ih _
  simp (disch := first | assumption | exact wn2_i | exact wn2_r | exact wn2_n | exact Nat.le_of_ble_eq_true rfl | omega | (refine nI_z ?_ ?_ <;> omega)) only [s31_0, s31_1, s31_2, s31_3, s31_4, s31_5, wX_some, Option.toList_some, Option.toList_none, List.cons_append, List.nil_append, List.map_cons, List.map_nil, List.sum_cons, List.sum_nil, Value.category, wn2_i, wn2_r, wn2_n, Option.isSome_some, List.getElem?_cons_zero, List.getElem?_cons_succ, nI_add, nI_rem2]
  exact key 0 (by omega) _
theorem poorestWealth_wp (hT : TA h a A) {l1 l2 : Option Value} (h2 : 1 ≤ A 7 0) (h6 : A 7 0 ≤ 6) (hb : ∀ s, s < A 7 0 → A 0 s ≤ 2000) : WP sc 39 0 [some (.ref a), l1, l2] [] h Q ↔ Q (some (.int (nI (mnW A (A 7 0 - 1))))) h := by
  obtain ⟨kd, we, us, di, st, wo, h0, ⟨h1, h2', h3, h4, h5, h6'⟩, ⟨g1, k1⟩, ⟨g2, k2⟩, ⟨g3, k3⟩, ⟨g4, k4⟩, ⟨g5, k5⟩, g6, k6⟩ := hT
  have hg := g_obj h0
  have a2 := a_arr h2'
  have v0 := k2 0 (by omega)
  have key : ∀ i, i ≤ A 7 0 - 1 → (WP sc 39 9 [some (.ref a), some (.int (nI (mnW A i))), some (.int (nI (i + 1)))] [] h Q ↔ Q (some (.int (nI (mnW A (A 7 0 - 1))))) h) := by
    refine loop_up ?_ ?_
    · have hge : nI (A 7 0) ≤ nI (A 7 0 - 1 + 1) := nI_le (by omega) (by omega)
      rw [s39_9]
      simp (disch := first | assumption | exact wn2_i | exact wn2_r | exact wn2_n | exact Nat.le_of_ble_eq_true rfl | omega | (refine nI_z ?_ ?_ <;> omega)) only [s39_10, s39_11, s39_14, s39_17, s39_18, s39_19, s39_22, s39_23, s39_24, s39_27, s39_28, s39_31, s39_34, s39_35, wX_some, Option.toList_some, Option.toList_none, List.cons_append, List.nil_append, List.map_cons, List.map_nil, List.sum_cons, List.sum_nil, Value.category, wn2_i, wn2_r, wn2_n, Option.isSome_some, List.getElem?_cons_zero, List.getElem?_cons_succ, nI_add, nI_rem2, hg, hge, if_true]
    · intro i hlt ih
      have hge : ¬ nI (A 7 0) ≤ nI (i + 1) := nI_ge (by omega) (by omega)
      have v := k2 (i + 1) (by omega)
      have b1 := hb (i + 1) (by omega)
      have b2 := mnW_le hb i (by omega)
      rw [mnW] at ih
      by_cases hc : A 0 (i + 1) < mnW A i
      · rw [if_pos hc] at ih
        have n1 : nI (A 0 (i + 1)) < nI (mnW A i) := nI_lt hc (by omega)
        rw [s39_9]
        simp (disch := first | assumption | exact wn2_i | exact wn2_r | exact wn2_n | exact Nat.le_of_ble_eq_true rfl | omega | (refine nI_z ?_ ?_ <;> omega)) only [s39_10, s39_11, s39_14, s39_17, s39_18, s39_19, s39_22, s39_23, s39_24, s39_27, s39_28, s39_31, wX_some, Option.toList_some, Option.toList_none, List.cons_append, List.nil_append, List.map_cons, List.map_nil, List.sum_cons, List.sum_nil, Value.category, wn2_i, wn2_r, wn2_n, Option.isSome_some, List.getElem?_cons_zero, List.getElem?_cons_succ, nI_add, nI_rem2, hg, hge, if_false, a2, g2, iat_n, v, n1, if_true]
        exact ih
      · rw [if_neg hc] at ih
        have n1 : ¬ nI (A 0 (i + 1)) < nI (mnW A i) := nI_nlt (by omega) (by omega)
        rw [s39_9]
        simp (disch := first | assumption | exact wn2_i | exact wn2_r | exact wn2_n | exact Nat.le_of_ble_eq_true rfl | omega | (refine nI_z ?_ ?_ <;> omega)) only [s39_10, s39_11, s39_14, s39_17, s39_18, s39_19, s39_22, s39_23, s39_24, s39_27, s39_28, s39_31, wX_some, Option.toList_some, Option.toList_none, List.cons_append, List.nil_append, List.map_cons, List.map_nil, List.sum_cons, List.sum_nil, Value.category, wn2_i, wn2_r, wn2_n, Option.isSome_some, List.getElem?_cons_zero, List.getElem?_cons_succ, nI_add, nI_rem2, hg, hge, if_false, a2, g2, iat_n, v, n1]
        exact ih
  simp (disch := first | assumption | exact wn2_i | exact wn2_r | exact wn2_n | exact Nat.le_of_ble_eq_true rfl | omega | (refine nI_z ?_ ?_ <;> omega)) only [s39_0, s39_1, s39_4, s39_5, s39_6, s39_7, s39_8, wX_some, Option.toList_some, Option.toList_none, List.cons_append, List.nil_append, List.map_cons, List.map_nil, List.sum_cons, List.sum_nil, Value.category, wn2_i, wn2_r, wn2_n, Option.isSome_some, List.getElem?_cons_zero, List.getElem?_cons_succ, nI_add, nI_rem2, hg, a2, g2, iat_n, v0]
  exact key 0 (by omega)
theorem richestWealth_wp (hT : TA h a A) {l1 l2 : Option Value} (h2 : 1 ≤ A 7 0) (h6 : A 7 0 ≤ 6) (hb : ∀ s, s < A 7 0 → A 0 s ≤ 2000) : WP sc 38 0 [some (.ref a), l1, l2] [] h Q ↔ Q (some (.int (nI (mxW A (A 7 0 - 1))))) h := by
  obtain ⟨kd, we, us, di, st, wo, h0, ⟨h1, h2', h3, h4, h5, h6'⟩, ⟨g1, k1⟩, ⟨g2, k2⟩, ⟨g3, k3⟩, ⟨g4, k4⟩, ⟨g5, k5⟩, g6, k6⟩ := hT
  have hg := g_obj h0
  have a2 := a_arr h2'
  have v0 := k2 0 (by omega)
  have key : ∀ i, i ≤ A 7 0 - 1 → (WP sc 38 9 [some (.ref a), some (.int (nI (mxW A i))), some (.int (nI (i + 1)))] [] h Q ↔ Q (some (.int (nI (mxW A (A 7 0 - 1))))) h) := by
    refine loop_up ?_ ?_
    · have hge : nI (A 7 0) ≤ nI (A 7 0 - 1 + 1) := nI_le (by omega) (by omega)
      rw [s38_9]
      simp (disch := first | assumption | exact wn2_i | exact wn2_r | exact wn2_n | exact Nat.le_of_ble_eq_true rfl | omega | (refine nI_z ?_ ?_ <;> omega)) only [s38_10, s38_11, s38_14, s38_17, s38_18, s38_19, s38_22, s38_23, s38_24, s38_27, s38_28, s38_31, s38_34, s38_35, wX_some, Option.toList_some, Option.toList_none, List.cons_append, List.nil_append, List.map_cons, List.map_nil, List.sum_cons, List.sum_nil, Value.category, wn2_i, wn2_r, wn2_n, Option.isSome_some, List.getElem?_cons_zero, List.getElem?_cons_succ, nI_add, nI_rem2, hg, hge, if_true]
    · intro i hlt ih
      have hge : ¬ nI (A 7 0) ≤ nI (i + 1) := nI_ge (by omega) (by omega)
      have v := k2 (i + 1) (by omega)
      have b1 := hb (i + 1) (by omega)
      have b2 := mxW_le hb i (by omega)
      rw [mxW] at ih
      by_cases hc : mxW A i < A 0 (i + 1)
      · rw [if_pos hc] at ih
        have n1 : nI (mxW A i) < nI (A 0 (i + 1)) := nI_lt hc (by omega)
        rw [s38_9]
        simp (disch := first | assumption | exact wn2_i | exact wn2_r | exact wn2_n | exact Nat.le_of_ble_eq_true rfl | omega | (refine nI_z ?_ ?_ <;> omega)) only [s38_10, s38_11, s38_14, s38_17, s38_18, s38_19, s38_22, s38_23, s38_24, s38_27, s38_28, s38_31, wX_some, Option.toList_some, Option.toList_none, List.cons_append, List.nil_append, List.map_cons, List.map_nil, List.sum_cons, List.sum_nil, Value.category, wn2_i, wn2_r, wn2_n, Option.isSome_some, List.getElem?_cons_zero, List.getElem?_cons_succ, nI_add, nI_rem2, hg, hge, if_false, a2, g2, iat_n, v, n1, if_true]
        exact ih
      · rw [if_neg hc] at ih
        have n1 : ¬ nI (mxW A i) < nI (A 0 (i + 1)) := nI_nlt (by omega) (by omega)
        rw [s38_9]
        simp (disch := first | assumption | exact wn2_i | exact wn2_r | exact wn2_n | exact Nat.le_of_ble_eq_true rfl | omega | (refine nI_z ?_ ?_ <;> omega)) only [s38_10, s38_11, s38_14, s38_17, s38_18, s38_19, s38_22, s38_23, s38_24, s38_27, s38_28, s38_31, wX_some, Option.toList_some, Option.toList_none, List.cons_append, List.nil_append, List.map_cons, List.map_nil, List.sum_cons, List.sum_nil, Value.category, wn2_i, wn2_r, wn2_n, Option.isSome_some, List.getElem?_cons_zero, List.getElem?_cons_succ, nI_add, nI_rem2, hg, hge, if_false, a2, g2, iat_n, v, n1]
        exact ih
  simp (disch := first | assumption | exact wn2_i | exact wn2_r | exact wn2_n | exact Nat.le_of_ble_eq_true rfl | omega | (refine nI_z ?_ ?_ <;> omega)) only [s38_0, s38_1, s38_4, s38_5, s38_6, s38_7, s38_8, wX_some, Option.toList_some, Option.toList_none, List.cons_append, List.nil_append, List.map_cons, List.map_nil, List.sum_cons, List.sum_nil, Value.category, wn2_i, wn2_r, wn2_n, Option.isSome_some, List.getElem?_cons_zero, List.getElem?_cons_succ, nI_add, nI_rem2, hg, a2, g2, iat_n, v0]
  exact key 0 (by omega)
theorem totalWealth_wp (hT : TA h a A) {l1 l2 : Option Value} (h6 : A 7 0 ≤ 6) : WP sc 41 0 [some (.ref a), l1, l2] [] h Q ↔ Q (some (.int (nI (smW A (A 7 0))))) h := by
  obtain ⟨kd, we, us, di, st, wo, h0, ⟨h1, h2', h3, h4, h5, h6'⟩, ⟨g1, k1⟩, ⟨g2, k2⟩, ⟨g3, k3⟩, ⟨g4, k4⟩, ⟨g5, k5⟩, g6, k6⟩ := hT
  have hg := g_obj h0
  have a2 := a_arr h2'
  have key : ∀ i, i ≤ A 7 0 → (WP sc 41 4 [some (.ref a), some (.int (nI (smW A i))), some (.int (nI i))] [] h Q ↔ Q (some (.int (nI (smW A (A 7 0))))) h) := by
    refine loop_up ?_ ?_
    · have hge : nI (A 7 0) ≤ nI (A 7 0) := nI_le (by omega) (by omega)
      rw [s41_4]
      simp (disch := first | assumption | exact wn2_i | exact wn2_r | exact wn2_n | exact Nat.le_of_ble_eq_true rfl | omega | (refine nI_z ?_ ?_ <;> omega)) only [s41_5, s41_6, s41_9, s41_12, s41_13, s41_14, s41_17, s41_18, s41_19, s41_20, s41_21, s41_24, s41_27, s41_28, wX_some, Option.toList_some, Option.toList_none, List.cons_append, List.nil_append, List.map_cons, List.map_nil, List.sum_cons, List.sum_nil, Value.category, wn2_i, wn2_r, wn2_n, Option.isSome_some, List.getElem?_cons_zero, List.getElem?_cons_succ, nI_add, nI_rem2, hg, hge, if_true]
    · intro i hlt ih
      have hge : ¬ nI (A 7 0) ≤ nI i := nI_ge (by omega) (by omega)
      have v := k2 i (by omega)
      rw [smW] at ih
      rw [s41_4]
      simp (disch := first | assumption | exact wn2_i | exact wn2_r | exact wn2_n | exact Nat.le_of_ble_eq_true rfl | omega | (refine nI_z ?_ ?_ <;> omega)) only [s41_5, s41_6, s41_9, s41_12, s41_13, s41_14, s41_17, s41_18, s41_19, s41_20, s41_21, s41_24, wX_some, Option.toList_some, Option.toList_none, List.cons_append, List.nil_append, List.map_cons, List.map_nil, List.sum_cons, List.sum_nil, Value.category, wn2_i, wn2_r, wn2_n, Option.isSome_some, List.getElem?_cons_zero, List.getElem?_cons_succ, nI_add, nI_rem2, hg, hge, if_false, a2, g2, iat_n, v]
      exact ih
  simp (disch := first | assumption | exact wn2_i | exact wn2_r | exact wn2_n | exact Nat.le_of_ble_eq_true rfl | omega | (refine nI_z ?_ ?_ <;> omega)) only [s41_0, s41_1, s41_2, s41_3, wX_some, Option.toList_some, Option.toList_none, List.cons_append, List.nil_append, List.map_cons, List.map_nil, List.sum_cons, List.sum_nil, Value.category, wn2_i, wn2_r, wn2_n, Option.isSome_some, List.getElem?_cons_zero, List.getElem?_cons_succ, nI_add, nI_rem2]
  exact key 0 (by omega)
theorem canHand_wp (hT : TA h a A) {s t g : Nat} (hs : s < A 7 0) (ht : t < A 7 0) (hg0 : g ≤ 40) (h6 : A 7 0 ≤ 6) (hb : ∀ s, s < A 7 0 → A 0 s ≤ 2000) : WP sc 36 0 [some (.ref a), some (.int (nI s)), some (.int (nI t)), some (.int (nI g))] [] h Q ↔ Q (some (.int (if s ≠ t ∧ g ≤ A 0 s ∧ A 0 t < 960 then nI 1 else nI 0))) h := by
  obtain ⟨kd, we, us, di, st, wo, h0, ⟨h1, h2', h3, h4, h5, h6'⟩, ⟨g1, k1⟩, ⟨g2, k2⟩, ⟨g3, k3⟩, ⟨g4, k4⟩, ⟨g5, k5⟩, g6, k6⟩ := hT
  have hg := g_obj h0
  have a2 := a_arr h2'
  have v1 := k2 s hs
  have v2 := k2 t ht
  have b1 := hb s hs
  have b2 := hb t ht
  simp (disch := first | assumption | exact wn2_i | exact wn2_r | exact wn2_n | exact Nat.le_of_ble_eq_true rfl | omega | (refine nI_z ?_ ?_ <;> omega)) only [s36_0, s36_1, s36_2, s36_5, s36_6, s36_9, s36_10, s36_11, s36_12, s36_15, s36_16, s36_19, s36_20, s36_21, s36_24, s36_27, s36_28, s36_31, s36_32, wX_some, Option.toList_some, Option.toList_none, List.cons_append, List.nil_append, List.map_cons, List.map_nil, List.sum_cons, List.sum_nil, Value.category, wn2_i, wn2_r, wn2_n, Option.isSome_some, List.getElem?_cons_zero, List.getElem?_cons_succ, nI_add, nI_rem2, hg, a2, g2, iat_n, v1, v2, nI_eq, nI_ltI, nI_leI]
  by_cases c1 : s = t
  · simp [c1, nI_0]
  · by_cases c2 : A 0 s < g
    · simp [c1, c2, nI_0, Nat.not_le.mpr c2]
    · by_cases c3 : 960 ≤ A 0 t
      · simp [c1, c2, c3, nI_0, Nat.not_lt.mpr c3]
      · simp [c1, c2, c3, Nat.not_lt.mp c2, Nat.not_le.mp c3]
        intro _; right; rfl
end TOWN2

-- Sightings: what was seen
def GA (h : List ms_C) (a : Nat) (L : List (Nat × Nat)) : Prop := ∃ qs ps : List Int32, h[a]? = some (ms_obj 3 [.ref (a + 1), .ref (a + 2), .int (nI L.length)]) ∧ h[a + 1]? = some (ms_ia qs) ∧ h[a + 2]? = some (ms_ia ps) ∧ qs.length = 6 ∧ ps.length = 6 ∧ L.length ≤ 6 ∧ ∀ (i : Nat) (q : Nat × Nat), L[i]? = some q → qs.getD i 0 = nI q.1 ∧ ps.getD i 0 = nI q.2
theorem GA.offX {h h1 : List ms_C} {a : Nat} {L : List (Nat × Nat)} {P : Nat → Prop} (hp : GA h a L) (ho : OffX h h1 P) (hd : ∀ i, a ≤ i → i < a + 3 → ¬ P i) : GA h1 a L := by
  obtain ⟨qs, ps, h0, h1', h2, r⟩ := hp
  exact ⟨qs, ps, (ho.2 _ (hd _ (by omega) (by omega))).trans h0, (ho.2 _ (hd _ (by omega) (by omega))).trans h1', (ho.2 _ (hd _ (by omega) (by omega))).trans h2, r⟩
/-- what is seen comes true in the town A -/
def tru (A : AS) (L : List (Nat × Nat)) : Bool := L.all fun q => decide (lpA A q.1 4 2 = q.2 + 1)
def agr (L : List (Nat × Nat)) (n c : Nat) : Bool := L.all fun q => decide (q.1 ≠ n ∨ c = q.2 + 1)
section SIGHT
variable {sc : List Int32} {h : List ms_C} {Q : Option Value → List ms_C → Prop} {a b : Nat} {L : List (Nat × Nat)} {A : AS}
theorem sappend_full (hp : GA h a L) (hl : L.length = 6) {x y : Int32} : WP sc 18 0 [some (.ref a), some (.int x), some (.int y)] [] h Q ↔ Q (some (.int (nI 0))) h := by
  obtain ⟨qs, ps, h0, h1, h2, g1, g2, g3, g4⟩ := hp
  have hg := g_obj h0
  have n1 : ¬ nI L.length < nI 6 := nI_nlt (by omega) (by omega)
  simp (disch := first | assumption | exact wn2_i | exact wn2_r | exact wn2_n | exact Nat.le_of_ble_eq_true rfl | omega | (refine nI_z ?_ ?_ <;> omega)) only [s18_0, s18_1, s18_4, s18_6, s18_9, s18_10, s18_11, s18_12, s18_15, s18_16, s18_19, s18_20, s18_21, s18_22, s18_25, s18_26, s18_29, s18_30, s18_31, s18_32, s18_33, s18_36, s18_37, s18_38, s18_41, s18_42, wX_some, Option.toList_some, Option.toList_none, List.cons_append, List.nil_append, List.map_cons, List.map_nil, List.sum_cons, List.sum_nil, Value.category, wn2_i, wn2_r, wn2_n, Option.isSome_some, List.getElem?_cons_zero, List.getElem?_cons_succ, nI_add, nI_rem2, hg, n1, if_false, nI_eq0, true_or, true_and]
theorem sappend_wp (hp : GA h a L) (hl : L.length < 6) {n s : Nat} (k : ∀ h1, GA h1 a (L ++ [(n, s)]) → Off h h1 a 3 → Q (some (.int (nI 1))) h1) : WP sc 18 0 [some (.ref a), some (.int (nI n)), some (.int (nI s))] [] h Q := by
  obtain ⟨qs, ps, h0, h1, h2, g1, g2, g3, g4⟩ := hp
  have hg := g_obj h0
  have hi := i_obj h0
  have a1 := a_arr h1
  have a2 := a_arr h2
  have n1 : nI L.length < nI 6 := nI_lt (by omega) (by omega)
  have l0 := lt_of_some h0
  have l1 := lt_of_some h1
  have l2 := lt_of_some h2
  simp (disch := first | assumption | exact wn2_i | exact wn2_r | exact wn2_n | exact Nat.le_of_ble_eq_true rfl | omega | (refine nI_z ?_ ?_ <;> omega)) only [s18_0, s18_1, s18_4, s18_6, s18_9, s18_10, s18_11, s18_12, s18_15, s18_16, s18_19, s18_20, s18_21, s18_22, s18_25, s18_26, s18_29, s18_30, s18_31, s18_32, s18_33, s18_36, s18_37, s18_38, s18_41, s18_42, wX_some, Option.toList_some, Option.toList_none, List.cons_append, List.nil_append, List.map_cons, List.map_nil, List.sum_cons, List.sum_nil, Value.category, wn2_i, wn2_r, wn2_n, Option.isSome_some, List.getElem?_cons_zero, List.getElem?_cons_succ, nI_add, nI_rem2, hg, n1, if_true, a1, a2, g1, g2, iat_n, g_ne, a_ne, i_ne, hi, List.set_cons_succ, List.set_cons_zero, List.length_cons, List.length_nil, Nat.reduceAdd, Nat.reduceLT, true_and, nI_eq1, or_true]
  refine k _ ?_ ?_
  rotate_left
  · exact ((Off.rf.st (by omega) (by omega)).st (by omega) (by omega)).st (by omega) (by omega)
  refine ⟨qs.set L.length (nI n), ps.set L.length (nI s), ?_, ?_, ?_, by simpa using g1, by simpa using g2, by simp; omega, fun i q hq => ?_⟩
  · rw [s_eq (by simp; omega)]; simp
  · simp [List.getElem?_set]; omega
  · simp [List.getElem?_set]; omega
  · by_cases hlt : i < L.length
    · rw [List.getElem?_append_left hlt] at hq
      have := g4 i q hq
      simp only [List.getD_eq_getElem?_getD] at this ⊢
      rw [List.getElem?_set_ne (by omega), List.getElem?_set_ne (by omega)]
      exact this
    · have hie : i = L.length := by
        have := (List.getElem?_eq_some_iff.mp hq).1
        simp at this; omega
      subst hie
      simp at hq
      subst hq
      simp only [List.getD_eq_getElem?_getD]
      rw [List.getElem?_set_self (by omega), List.getElem?_set_self (by omega)]
      exact ⟨rfl, rfl⟩
theorem agree_wp (hp : GA h a L) (hb : ∀ q ∈ L, q.1 ≤ 1000 ∧ q.2 ≤ 1000) {n c : Nat} (hn : n ≤ 1000) (hc : 1 ≤ c ∧ c ≤ 1000) {l3 : Option Value} : WP sc 20 0 [some (.ref a), some (.int (nI n)), some (.int (nI (c - 1))), l3] [] h Q ↔ Q (some (.int (if agr L n c then nI 1 else nI 0))) h := by
  obtain ⟨qs, ps, h0, h1, h2, g1, g2, g3, g4⟩ := hp
  have hg := g_obj h0
  have a1 := a_arr h1
  have a2 := a_arr h2
  have key : ∀ i, i ≤ L.length → (WP sc 20 2 [some (.ref a), some (.int (nI n)), some (.int (nI (c - 1))), some (.int (nI i))] [] h Q ↔ Q (some (.int (if agr (L.drop i) n c then nI 1 else nI 0))) h) := by
    refine loop_up ?_ ?_
    · have hge : nI L.length ≤ nI L.length := nI_le (Nat.le_refl _) (by omega)
      rw [s20_2]
      simp (disch := first | assumption | exact wn2_i | exact wn2_r | exact wn2_n | exact Nat.le_of_ble_eq_true rfl | omega | (refine nI_z ?_ ?_ <;> omega)) only [s20_3, s20_4, s20_7, s20_10, s20_11, s20_14, s20_15, s20_16, s20_17, s20_20, s20_21, s20_24, s20_25, s20_26, s20_27, s20_30, s20_31, s20_32, s20_35, s20_38, s20_39, wX_some, Option.toList_some, Option.toList_none, List.cons_append, List.nil_append, List.map_cons, List.map_nil, List.sum_cons, List.sum_nil, Value.category, wn2_i, wn2_r, wn2_n, Option.isSome_some, List.getElem?_cons_zero, List.getElem?_cons_succ, nI_add, nI_rem2, hg, hge, if_true, List.drop_length, agr, List.all_nil, nI_eq1, or_true, true_and]
    · intro i hlt ih
      have hge : ¬ nI L.length ≤ nI i := nI_ge hlt (by omega)
      obtain ⟨q, hq⟩ : ∃ q, L[i]? = some q := ⟨_, List.getElem?_eq_getElem hlt⟩
      obtain ⟨v1, v2⟩ := g4 i q hq
      obtain ⟨b1, b2⟩ := hb q (List.mem_of_getElem? hq)
      have hd : L.drop i = q :: L.drop (i + 1) := by
        rw [List.drop_eq_getElem_cons hlt]
        congr 1
        exact Option.some.inj ((List.getElem?_eq_getElem hlt).symm.trans hq)
      have hall : agr (L.drop i) n c = (decide (q.1 ≠ n ∨ c = q.2 + 1) && agr (L.drop (i + 1)) n c) := by rw [hd]; rfl
      by_cases c1 : q.1 = n
      · by_cases c2 : q.2 = c - 1
        · have e : decide (q.1 ≠ n ∨ c = q.2 + 1) = true := decide_eq_true (Or.inr (by omega))
          rw [hall, e, Bool.true_and, s20_2]
          simp (disch := first | assumption | exact wn2_i | exact wn2_r | exact wn2_n | exact Nat.le_of_ble_eq_true rfl | omega | (refine nI_z ?_ ?_ <;> omega)) only [s20_3, s20_4, s20_7, s20_10, s20_11, s20_14, s20_15, s20_16, s20_17, s20_20, s20_21, s20_24, s20_25, s20_26, s20_27, s20_30, s20_31, s20_32, s20_35, wX_some, Option.toList_some, Option.toList_none, List.cons_append, List.nil_append, List.map_cons, List.map_nil, List.sum_cons, List.sum_nil, Value.category, wn2_i, wn2_r, wn2_n, Option.isSome_some, List.getElem?_cons_zero, List.getElem?_cons_succ, nI_add, nI_rem2, hg, hge, if_false, a1, a2, g1, g2, iat_n, v1, v2, nI_eq, c1, c2, if_true]
          exact ih
        · have e : decide (q.1 ≠ n ∨ c = q.2 + 1) = false := decide_eq_false (by omega)
          rw [hall, e, Bool.false_and, s20_2]
          simp (disch := first | assumption | exact wn2_i | exact wn2_r | exact wn2_n | exact Nat.le_of_ble_eq_true rfl | omega | (refine nI_z ?_ ?_ <;> omega)) only [s20_3, s20_4, s20_7, s20_10, s20_11, s20_14, s20_15, s20_16, s20_17, s20_20, s20_21, s20_24, s20_25, s20_26, s20_27, s20_30, s20_31, s20_32, s20_35, wX_some, Option.toList_some, Option.toList_none, List.cons_append, List.nil_append, List.map_cons, List.map_nil, List.sum_cons, List.sum_nil, Value.category, wn2_i, wn2_r, wn2_n, Option.isSome_some, List.getElem?_cons_zero, List.getElem?_cons_succ, nI_add, nI_rem2, hg, hge, if_false, a1, a2, g1, g2, iat_n, v1, v2, nI_eq, c1, c2, if_true, Bool.false_eq_true, nI_eq0, true_or, true_and]
      · have e : decide (q.1 ≠ n ∨ c = q.2 + 1) = true := decide_eq_true (Or.inl c1)
        rw [hall, e, Bool.true_and, s20_2]
        simp (disch := first | assumption | exact wn2_i | exact wn2_r | exact wn2_n | exact Nat.le_of_ble_eq_true rfl | omega | (refine nI_z ?_ ?_ <;> omega)) only [s20_3, s20_4, s20_7, s20_10, s20_11, s20_14, s20_15, s20_16, s20_17, s20_20, s20_21, s20_24, s20_25, s20_26, s20_27, s20_30, s20_31, s20_32, s20_35, wX_some, Option.toList_some, Option.toList_none, List.cons_append, List.nil_append, List.map_cons, List.map_nil, List.sum_cons, List.sum_nil, Value.category, wn2_i, wn2_r, wn2_n, Option.isSome_some, List.getElem?_cons_zero, List.getElem?_cons_succ, nI_add, nI_rem2, hg, hge, if_false, a1, g1, iat_n, v1, nI_eq, c1]
        exact ih
  simp (disch := first | assumption | exact wn2_i | exact wn2_r | exact wn2_n | exact Nat.le_of_ble_eq_true rfl | omega | (refine nI_z ?_ ?_ <;> omega)) only [s20_0, s20_1, wX_some, Option.toList_some, Option.toList_none, List.cons_append, List.nil_append, List.map_cons, List.map_nil, List.sum_cons, List.sum_nil, Value.category, wn2_i, wn2_r, wn2_n, Option.isSome_some, List.getElem?_cons_zero, List.getElem?_cons_succ, nI_add, nI_rem2]
  exact key 0 (by omega)
def lastN : List (Nat × Nat) → Nat
  | [] => 0
  | q :: L => max q.1 (lastN L)
def mxN (L : List (Nat × Nat)) : Nat → Nat
  | 0 => 0
  | i + 1 => if mxN L i < (L.getD i (0, 0)).1 then (L.getD i (0, 0)).1 else mxN L i
theorem mxN_le {L : List (Nat × Nat)} (hb : ∀ q ∈ L, q.1 ≤ 40) : ∀ i, i ≤ L.length → mxN L i ≤ 40 := by
  intro i
  induction i with
  | zero => intro _; exact Nat.zero_le _
  | succ i ih =>
    intro hi
    unfold mxN
    split
    · rw [List.getD_eq_getElem?_getD, List.getElem?_eq_getElem (by omega)]
      exact hb _ (List.getElem_mem _)
    · exact ih (by omega)
theorem mxN_ge {L : List (Nat × Nat)} : ∀ i, i ≤ L.length → ∀ j, j < i → (L.getD j (0, 0)).1 ≤ mxN L i := by
  intro i
  induction i with
  | zero => intro _ j hj; omega
  | succ i ih =>
    intro hi j hj
    unfold mxN
    by_cases hji : j = i
    · subst hji; split <;> omega
    · have := ih (by omega) j (by omega)
      split <;> omega
end SIGHT

section SIGHT2
variable {sc : List Int32} {h : List ms_C} {Q : Option Value → List ms_C → Prop} {a b : Nat} {L : List (Nat × Nat)} {A : AS}
theorem nq_ch {A : AS} {l : Bool} : nqA A l 4 2 = whoA A l + 1 := rfl
theorem comeTrueIn_wp (hp : GA h a L) (hb : ∀ q ∈ L, (1 ≤ q.1 ∧ q.1 ≤ 40) ∧ q.2 ≤ 1000) (hT : TA h b A) (hG : AG A) (hq : A 4 0 ≤ 100000) (hd : a + 3 ≤ b ∨ b + 7 ≤ a) {l2 l3 : Option Value} (k : ∀ h1 A', TA h1 b A' → Off h h1 b 7 → Q (some (.int (if tru A L then nI 1 else nI 0))) h1) : WP sc 19 0 [some (.ref a), some (.ref b), l2, l3] [] h Q := by
  have hp0 := hp
  obtain ⟨qs, ps, h0, h1, h2, g1, g2, g3, g4⟩ := hp
  have hb40 : ∀ q ∈ L, q.1 ≤ 40 := fun q hq => (hb q hq).1.2
  have keep : ∀ {h1}, Off h h1 b 7 → GA h1 a L := fun ho => hp0.offX (ho.x (P := fun i => b ≤ i ∧ i < b + 7) (fun i x1 x2 => ⟨x1, x2⟩)) (fun i x1 x2 => by omega)
  have hM : mxN L L.length ≤ 40 := mxN_le hb40 _ (Nat.le_refl _)
  have key2 : ∀ i, i ≤ mxN L L.length → ∀ h1, TA h1 b (lpA A i) → Off h h1 b 7 → (∀ n, 1 ≤ n → n ≤ i → agr L n (lpA A n 4 2) = true) → WP sc 19 31 [some (.ref a), some (.ref b), some (.int (nI (mxN L L.length))), some (.int (nI (i + 1)))] [] h1 Q := by
    refine loop_up ?_ ?_
    · intro h1 hT1 ho hall
      have hgt : nI (mxN L L.length) < nI (mxN L L.length + 1) := nI_lt (by omega) (by omega)
      rw [s19_31]
      simp (disch := first | assumption | exact wn2_i | exact wn2_r | exact wn2_n | exact Nat.le_of_ble_eq_true rfl | omega | (refine nI_z ?_ ?_ <;> omega)) only [s19_32, s19_33, s19_36, s19_37, s19_38, s19_41, s19_42, s19_43, s19_44, s19_47, s19_50, s19_53, s19_54, s19_55, s19_58, s19_61, s19_62, wX_some, Option.toList_some, Option.toList_none, List.cons_append, List.nil_append, List.map_cons, List.map_nil, List.sum_cons, List.sum_nil, Value.category, wn2_i, wn2_r, wn2_n, Option.isSome_some, List.getElem?_cons_zero, List.getElem?_cons_succ, nI_add, nI_rem2, hgt, if_true, nI_eq1, or_true, true_and]
      have ht : tru A L = true := by
        refine List.all_eq_true.mpr (fun q hq => ?_)
        have h40 := hb q hq
        obtain ⟨j, hj⟩ := List.getElem?_of_mem hq
        have hjl := (List.getElem?_eq_some_iff.mp hj).1
        have hge := mxN_ge (L := L) L.length (Nat.le_refl _) j hjl
        rw [List.getD_eq_getElem?_getD, hj] at hge
        have h9 := List.all_eq_true.mp (hall q.1 h40.1.1 hge) q hq
        simpa using h9
      have := k h1 _ hT1 ho
      rw [ht] at this
      exact this
    · intro i hlt ih h1 hT1 ho hall
      have hgt : ¬ nI (mxN L L.length) < nI (i + 1) := nI_nlt (by omega) (by omega)
      obtain ⟨kd, we, us, di, st, wo, hg, hi, hI, -⟩ := hT1.facts
      rw [s19_31]
      simp (disch := first | assumption | exact wn2_i | exact wn2_r | exact wn2_n | exact Nat.le_of_ble_eq_true rfl | omega | (refine nI_z ?_ ?_ <;> omega)) only [s19_32, s19_33, s19_36, s19_37, s19_38, wX_some, Option.toList_some, Option.toList_none, List.cons_append, List.nil_append, List.map_cons, List.map_nil, List.sum_cons, List.sum_nil, Value.category, wn2_i, wn2_r, wn2_n, Option.isSome_some, List.getElem?_cons_zero, List.getElem?_cons_succ, nI_add, nI_rem2, hgt, if_false]
      refine nextQuarter_wp (lost := false) hT1 (lpA_ag hG i) (by rw [(lpA_s i).2.2.2.2]; omega) (fun h2 hT2 ho2 => ?_)
      have ho3 := ho.tr ho2
      have hGA := keep ho3
      obtain ⟨kd, we, us, di, st, wo, hg, hi, hI, -⟩ := hT2.facts
      have hI2 : (ms_is h2 a 3).isSome = true := by
        obtain ⟨qs', ps', z0, -⟩ := hGA
        rw [i_obj z0]; rfl
      have hc : lpA A (i + 1) 4 2 = whoA (lpA A i) false + 1 := rfl
      have hwl := whoA_lt (l := false) (lpA_ag hG i)
      have hw6 := (lpA_ag hG i).1.2
      have hch : ms_get h2 b 4 9 = some (.int (nI (lpA A (i + 1) 4 2 - 1))) := by
        rw [hg 9, hc]; rfl
      have hag := fun Q => agree_wp (sc := sc) (Q := Q) (l3 := none) hGA (fun q hq => ⟨by have := hb q hq; omega, (hb q hq).2⟩) (n := i + 1) (c := lpA A (i + 1) 4 2) (by omega) (by omega)
      simp (disch := first | assumption | exact wn2_i | exact wn2_r | exact wn2_n | exact Nat.le_of_ble_eq_true rfl | omega | (refine nI_z ?_ ?_ <;> omega)) only [s19_41, s19_42, s19_43, s19_44, s19_47, wX_some, Option.toList_some, Option.toList_none, List.cons_append, List.nil_append, List.map_cons, List.map_nil, List.sum_cons, List.sum_nil, Value.category, wn2_i, wn2_r, wn2_n, Option.isSome_some, List.getElem?_cons_zero, List.getElem?_cons_succ, nI_add, nI_rem2, hch, hag]
      cases hz : agr L (i + 1) (lpA A (i + 1) 4 2) with
      | true =>
        simp (disch := first | assumption | exact wn2_i | exact wn2_r | exact wn2_n | exact Nat.le_of_ble_eq_true rfl | omega | (refine nI_z ?_ ?_ <;> omega)) only [s19_50, s19_53, s19_54, s19_55, s19_58, wX_some, Option.toList_some, Option.toList_none, List.cons_append, List.nil_append, List.map_cons, List.map_nil, List.sum_cons, List.sum_nil, Value.category, wn2_i, wn2_r, wn2_n, Option.isSome_some, List.getElem?_cons_zero, List.getElem?_cons_succ, nI_add, nI_rem2, if_true, nI_eq0, if_false, Nat.reduceEqDiff]
        refine ih h2 hT2 ho3 (fun n hn1 hn2 => ?_)
        by_cases hne : n = i + 1
        · subst hne; exact hz
        · exact hall n hn1 (by omega)
      | false =>
        simp (disch := first | assumption | exact wn2_i | exact wn2_r | exact wn2_n | exact Nat.le_of_ble_eq_true rfl | omega | (refine nI_z ?_ ?_ <;> omega)) only [s19_50, s19_53, s19_54, s19_55, s19_58, wX_some, Option.toList_some, Option.toList_none, List.cons_append, List.nil_append, List.map_cons, List.map_nil, List.sum_cons, List.sum_nil, Value.category, wn2_i, wn2_r, wn2_n, Option.isSome_some, List.getElem?_cons_zero, List.getElem?_cons_succ, nI_add, nI_rem2, Bool.false_eq_true, if_true, if_false, nI_eq0, true_or, true_and]
        have ht : tru A L = false := by
          cases htt : tru A L with
          | false => rfl
          | true =>
            have : agr L (i + 1) (lpA A (i + 1) 4 2) = true := by
              refine List.all_eq_true.mpr (fun q hq => ?_)
              have h9 := List.all_eq_true.mp htt q hq
              by_cases hq1 : q.1 = i + 1
              · rw [hq1] at h9
                exact decide_eq_true (Or.inr (by simpa using h9))
              · exact decide_eq_true (Or.inl hq1)
            rw [hz] at this; cases this
        have := k h2 _ hT2 ho3
        rw [ht] at this
        exact this
  have hg := g_obj h0
  have a1 := a_arr h1
  have key1 : ∀ i, i ≤ L.length → WP sc 19 4 [some (.ref a), some (.ref b), some (.int (nI (mxN L i))), some (.int (nI i))] [] h Q := by
    refine loop_up ?_ ?_
    · have hge : nI L.length ≤ nI L.length := nI_le (Nat.le_refl _) (by omega)
      rw [s19_4]
      simp (disch := first | assumption | exact wn2_i | exact wn2_r | exact wn2_n | exact Nat.le_of_ble_eq_true rfl | omega | (refine nI_z ?_ ?_ <;> omega)) only [s19_5, s19_6, s19_9, s19_12, s19_13, s19_14, s19_17, s19_18, s19_19, s19_22, s19_23, s19_26, s19_29, s19_30, wX_some, Option.toList_some, Option.toList_none, List.cons_append, List.nil_append, List.map_cons, List.map_nil, List.sum_cons, List.sum_nil, Value.category, wn2_i, wn2_r, wn2_n, Option.isSome_some, List.getElem?_cons_zero, List.getElem?_cons_succ, nI_add, nI_rem2, hg, hge, if_true]
      exact key2 0 (by omega) h hT Off.rf (fun n x1 x2 => by omega)
    · intro i hlt ih
      have hge : ¬ nI L.length ≤ nI i := nI_ge hlt (by omega)
      obtain ⟨q, hq⟩ : ∃ q, L[i]? = some q := ⟨_, List.getElem?_eq_getElem hlt⟩
      obtain ⟨v1, v2⟩ := g4 i q hq
      have b1 := hb q (List.mem_of_getElem? hq)
      have b2 := mxN_le hb40 i (by omega)
      have hgd : (L.getD i (0, 0)).1 = q.1 := by rw [List.getD_eq_getElem?_getD, hq]; rfl
      rw [mxN, hgd] at ih
      rw [s19_4]
      by_cases hc : mxN L i < q.1
      · rw [if_pos hc] at ih
        have n1 : nI (mxN L i) < nI q.1 := nI_lt hc (by omega)
        simp (disch := first | assumption | exact wn2_i | exact wn2_r | exact wn2_n | exact Nat.le_of_ble_eq_true rfl | omega | (refine nI_z ?_ ?_ <;> omega)) only [s19_5, s19_6, s19_9, s19_12, s19_13, s19_14, s19_17, s19_18, s19_19, s19_22, s19_23, s19_26, wX_some, Option.toList_some, Option.toList_none, List.cons_append, List.nil_append, List.map_cons, List.map_nil, List.sum_cons, List.sum_nil, Value.category, wn2_i, wn2_r, wn2_n, Option.isSome_some, List.getElem?_cons_zero, List.getElem?_cons_succ, nI_add, nI_rem2, hg, hge, if_false, a1, g1, iat_n, v1, n1, if_true]
        exact ih
      · rw [if_neg hc] at ih
        have n1 : ¬ nI (mxN L i) < nI q.1 := nI_nlt (by omega) (by omega)
        simp (disch := first | assumption | exact wn2_i | exact wn2_r | exact wn2_n | exact Nat.le_of_ble_eq_true rfl | omega | (refine nI_z ?_ ?_ <;> omega)) only [s19_5, s19_6, s19_9, s19_12, s19_13, s19_14, s19_17, s19_18, s19_19, s19_22, s19_23, s19_26, wX_some, Option.toList_some, Option.toList_none, List.cons_append, List.nil_append, List.map_cons, List.map_nil, List.sum_cons, List.sum_nil, Value.category, wn2_i, wn2_r, wn2_n, Option.isSome_some, List.getElem?_cons_zero, List.getElem?_cons_succ, nI_add, nI_rem2, hg, hge, if_false, a1, g1, iat_n, v1, n1]
        exact ih
  simp (disch := first | assumption | exact wn2_i | exact wn2_r | exact wn2_n | exact Nat.le_of_ble_eq_true rfl | omega | (refine nI_z ?_ ?_ <;> omega)) only [s19_0, s19_1, s19_2, s19_3, wX_some, Option.toList_some, Option.toList_none, List.cons_append, List.nil_append, List.map_cons, List.map_nil, List.sum_cons, List.sum_nil, Value.category, wn2_i, wn2_r, wn2_n, Option.isSome_some, List.getElem?_cons_zero, List.getElem?_cons_succ, nI_add, nI_rem2]
  exact key1 0 (by omega)
end SIGHT2

-- the model: its calls on the text, its notes, what was seen, counts
section M64
variable {sc : List Int32} {h : List ms_C} {Q : Option Value → List ms_C → Prop} {o1 k1 o2 u2 : Int32} {T : Nat → Nat} {m : Nat} {A B : AS} {U K : List AS} {L : List (Nat × Nat)} {S : GS}
theorem b01 {b : Bool} : ((if b = true then nI 1 else nI 0) = 0 ∨ (if b = true then nI 1 else nI 0) = 1) ↔ True := by
  cases b
  · exact ⟨fun _ => trivial, fun _ => Or.inl rfl⟩
  · exact ⟨fun _ => trivial, fun _ => Or.inr rfl⟩
theorem isStreet_wp (hM : MJ h o1 k1 o2 u2 T m A U K L) (h1 : 1 ≤ A 7 0) (h6 : A 7 0 ≤ 6) {x : Int32} : WP sc 90 0 [some (.ref 97), some (.int x)] [] h Q ↔ Q (some (.int (if rng 0 (A 7 0 - 1) x then nI 1 else nI 0))) h := by
  obtain ⟨sp, td, nw, sd, hg, his, hI, at1, an, as1, lt1, ln, ls1, ⟨q1, q2, q3⟩, hR, b97, b102, b103⟩ := hM.facts
  dsimp only at q1 q2 q3
  have e1 : nI (A 7 0) - nI 1 = nI (A 7 0 - 1) := nI_sub h1
  have e2 : (nI (A 7 0 - 1)).toInt64 = lN (A 7 0 - 1) := nI_l (by omega)
  simp (disch := first | assumption | exact wn2_i | exact wn2_r | exact wn2_n | exact Nat.le_of_ble_eq_true rfl | omega | (refine nI_z ?_ ?_ <;> omega)) only [s90_0, s90_1, s90_2, s90_3, s90_4, s90_7, s90_8, s90_9, s90_10, s90_11, s90_12, s90_15, wX_some, Option.toList_some, Option.toList_none, List.cons_append, List.nil_append, List.map_cons, List.map_nil, List.sum_cons, List.sum_nil, Value.category, wn2_i, wn2_r, wn2_n, Option.isSome_some, List.getElem?_cons_zero, List.getElem?_cons_succ, nI_add, nI_rem2, hg, at1, lt1, iat_n, q1, e1, e2, in_rng, b01, true_and]
theorem isWork_wp (hM : MJ h o1 k1 o2 u2 T m A U K L) (h1 : 1 ≤ A 7 1) (h6 : A 7 1 ≤ 6) {x : Int32} : WP sc 95 0 [some (.ref 97), some (.int x)] [] h Q ↔ Q (some (.int (if rng 0 (A 7 1 - 1) x then nI 1 else nI 0))) h := by
  obtain ⟨sp, td, nw, sd, hg, his, hI, at1, an, as1, lt1, ln, ls1, ⟨q1, q2, q3⟩, hR, b97, b102, b103⟩ := hM.facts
  dsimp only at q1 q2 q3
  have e1 : nI (A 7 1) - nI 1 = nI (A 7 1 - 1) := nI_sub h1
  have e2 : (nI (A 7 1 - 1)).toInt64 = lN (A 7 1 - 1) := nI_l (by omega)
  simp (disch := first | assumption | exact wn2_i | exact wn2_r | exact wn2_n | exact Nat.le_of_ble_eq_true rfl | omega | (refine nI_z ?_ ?_ <;> omega)) only [s95_0, s95_1, s95_2, s95_3, s95_4, s95_7, s95_8, s95_9, s95_10, s95_11, s95_12, s95_15, wX_some, Option.toList_some, Option.toList_none, List.cons_append, List.nil_append, List.map_cons, List.map_nil, List.sum_cons, List.sum_nil, Value.category, wn2_i, wn2_r, wn2_n, Option.isSome_some, List.getElem?_cons_zero, List.getElem?_cons_succ, nI_add, nI_rem2, hg, at1, lt1, iat_n, q2, e1, e2, in_rng, b01, true_and]
theorem rowU.app {U : List AS} {l l1 : List Int32} {nw : List Int32} (hU : rowU U l) (hl : l.length = 216) (hB : ∀ B ∈ U, B 7 0 ≤ 6 ∧ B 7 1 ≤ 6) (h0 : A 7 0 ≤ 6) (h1 : A 7 1 ≤ 6) (hR : RA (fun i => nw.getD i 0) A) (hc : CPY l l1 nw (27 * U.length) 0 27) : rowU (U ++ [A]) l1 := by
  intro i B hi
  by_cases e : i < U.length
  · rw [List.getElem?_append_left e] at hi
    have hb := hB B (List.mem_of_getElem? hi)
    exact (hU i B hi).cong hb.1 hb.2 (fun j hj => hc.2.2 _ (Or.inl (by omega)))
  · have hie : i = U.length := by
      have := (List.getElem?_eq_some_iff.mp hi).1
      simp at this; omega
    subst hie
    simp at hi
    subst hi
    exact hR.cong h0 h1 (fun j hj => by have := hc.2.1 j hj; rw [Nat.zero_add] at this; exact this)
theorem noteIn (hM : MJ h o1 k1 o2 u2 T m A U K L) (hG : AG A) (hU : ∀ B ∈ U, B 7 0 ≤ 6 ∧ B 7 1 ≤ 6) (hl : U.length < 8) (k : ∀ h1, MJ h1 o1 k1 o2 u2 T m A (U ++ [A]) K L → OffX h h1 (fun i => i = 97 ∨ i = 104) → Q none h1) {l1 : Option Value} : WP sc 97 49 [some (.ref 97), l1] [] h Q := by
  obtain ⟨⟨G1, G2⟩, ⟨G3, G4⟩, -⟩ := hG
  obtain ⟨⟨sp, z1⟩, ⟨a98, a99, a100, a101, a102, a104, a105, a106, a107, a108, a109⟩, a103⟩ := hM
  obtain ⟨nw, n1, n2, n3⟩ := a102
  obtain ⟨bf, f1, f2, f3⟩ := a104
  have b97 := lt_of_some z1
  have key : ∀ i, i ≤ 27 → ∀ h1 s1, h1[104]? = some (ms_ia s1) → CPY bf s1 nw (27 * U.length) 0 i → Off h h1 104 1 → WP sc 97 51 [some (.ref 97), some (.int (nI i))] [] h1 Q := by
    refine loop_up ?_ ?_
    · intro h1 s1 x1 hc ho
      have hge : nI 27 ≤ nI 27 := nI_le (Nat.le_refl _) (by omega)
      have y1 := (ho.2 97 (by omega)).trans z1
      have hg := fun k => g_obj (k := k) y1
      have hi := i_obj y1
      rw [s97_51]
      simp (disch := first | assumption | exact wn2_i | exact wn2_r | exact wn2_n | exact Nat.le_of_ble_eq_true rfl | omega | (refine nI_z ?_ ?_ <;> omega)) only [s97_52, s97_54, s97_83, s97_84, s97_85, s97_88, s97_89, s97_90, s97_93, wX_some, Option.toList_some, Option.toList_none, List.cons_append, List.nil_append, List.map_cons, List.map_nil, List.sum_cons, List.sum_nil, Value.category, wn2_i, wn2_r, wn2_n, Option.isSome_some, List.getElem?_cons_zero, List.getElem?_cons_succ, nI_add, nI_rem2, hge, if_true, hg, hi, List.set_cons_succ, List.set_cons_zero, List.length_cons, List.length_nil, Nat.reduceAdd, Nat.reduceLT, true_and]
      have hl : s1.length = 216 := hc.1.trans f2
      have a102 : AR h 102 27 (fun l => RA (fun i => l.getD i 0) A) := ⟨nw, n1, n2, n3⟩
      have ll : (U ++ [A]).length = U.length + 1 := by simp
      have ho2 : Off h (h1.set 97 (ms_obj 6 [.int (nI m), .ref 98, .ref 99, .ref 100, .ref 101, .ref 102, .ref 103, .ref 104, .int (nI (U.length + 1)), .ref 105, .int (nI K.length), .ref 106, .int (nI L.length), .int sp, .ref 107, .int o1, .int k1, .int o2, .int u2, .ref 108, .ref 109])) 97 13 := (ho.wide (by omega) (by omega)).st (by omega) (by omega)
      have hx : OffX h (h1.set 97 (ms_obj 6 [.int (nI m), .ref 98, .ref 99, .ref 100, .ref 101, .ref 102, .ref 103, .ref 104, .int (nI (U.length + 1)), .ref 105, .int (nI K.length), .ref 106, .int (nI L.length), .int sp, .ref 107, .int o1, .int k1, .int o2, .int u2, .ref 108, .ref 109])) (fun i => i = 97 ∨ i = 104) := (ho.x (fun i x1 x2 => by omega)).st (Or.inl rfl)
      refine k _ ⟨⟨sp, ?_⟩, ⟨a98.off (hx.2 98 (by omega)), a99.off (hx.2 99 (by omega)), a100.off (hx.2 100 (by omega)), a101.off (hx.2 101 (by omega)), a102.off (hx.2 102 (by omega)), ⟨s1, (s_ne (by omega) x1), hl, rowU.app f3 f2 hU G2 G4 n3 hc⟩, a105.off (hx.2 105 (by omega)), a106.off (hx.2 106 (by omega)), a107.off (hx.2 107 (by omega)), a108.off (hx.2 108 (by omega)), a109.off (hx.2 109 (by omega))⟩, a103.off (hx.2 103 (by omega))⟩ hx
      rw [ll]
      exact s_eq (lt_of_some y1)
    · intro i hi ih h1 s1 x1 hc ho
      have hge : ¬ nI 27 ≤ nI i := nI_ge hi (by omega)
      have y1 := (ho.2 97 (by omega)).trans z1
      have hg := fun k => g_obj (k := k) y1
      have av1 := a_arr x1
      have av2 := a_arr ((ho.2 102 (by omega)).trans n1)
      have hl : s1.length = 216 := hc.1.trans f2
      rw [s97_51]
      simp (disch := first | assumption | exact wn2_i | exact wn2_r | exact wn2_n | exact Nat.le_of_ble_eq_true rfl | omega | (refine nI_z ?_ ?_ <;> omega)) only [s97_52, s97_54, s97_57, s97_58, s97_61, s97_63, s97_64, s97_67, s97_68, s97_69, s97_70, s97_71, s97_74, s97_75, s97_76, s97_77, s97_80, wX_some, Option.toList_some, Option.toList_none, List.cons_append, List.nil_append, List.map_cons, List.map_nil, List.sum_cons, List.sum_nil, Value.category, wn2_i, wn2_r, wn2_n, Option.isSome_some, List.getElem?_cons_zero, List.getElem?_cons_succ, nI_add, nI_rem2, hge, if_false, hg, av1, av2, n2, hl, iat_n, pk_mul]
      exact ih _ _ (s_eq (lt_of_some x1)) (hc.nx (x := nw.getD i 0) (by omega) (by rw [Nat.zero_add])) (ho.st (by omega) (by omega))
  simp (disch := first | assumption | exact wn2_i | exact wn2_r | exact wn2_n | exact Nat.le_of_ble_eq_true rfl | omega | (refine nI_z ?_ ?_ <;> omega)) only [s97_49, s97_50, wX_some, Option.toList_some, Option.toList_none, List.cons_append, List.nil_append, List.map_cons, List.map_nil, List.sum_cons, List.sum_nil, Value.category, wn2_i, wn2_r, wn2_n, Option.isSome_some, List.getElem?_cons_zero, List.getElem?_cons_succ, nI_add, nI_rem2]
  exact key 0 (by omega) h bf f1 CPY.z Off.rf
theorem note_wp (hM : MJ h o1 k1 o2 u2 T m A U K L) (hG : AG A) (hU : ∀ B ∈ U, B 7 0 ≤ 6 ∧ B 7 1 ≤ 6) (hl : U.length ≤ 8) (k : ∀ h1, MJ h1 o1 k1 o2 u2 T m A (psh 8 U A) K L → OffX h h1 (fun i => i = 97 ∨ i = 104) → Q none h1) {l1 : Option Value} : WP sc 97 0 [some (.ref 97), l1] [] h Q := by
  obtain ⟨sp, td, nw, sd, hg, his, hI, at1, an, as1, lt1, ln, ls1, hK, hR, b97, b102, b103⟩ := hM.facts
  unfold psh at k
  by_cases h8 : U.length < 8
  · rw [if_pos h8] at k
    have e1 : (nI U.length = nI 8) ↔ False := ⟨fun q => by have := (nI_eq (by omega) (by omega)).mp q; omega, False.elim⟩
    simp (disch := first | assumption | exact wn2_i | exact wn2_r | exact wn2_n | exact Nat.le_of_ble_eq_true rfl | omega | (refine nI_z ?_ ?_ <;> omega)) only [s97_0, s97_1, s97_4, s97_6, wX_some, Option.toList_some, Option.toList_none, List.cons_append, List.nil_append, List.map_cons, List.map_nil, List.sum_cons, List.sum_nil, Value.category, wn2_i, wn2_r, wn2_n, Option.isSome_some, List.getElem?_cons_zero, List.getElem?_cons_succ, nI_add, nI_rem2, hg, e1, if_false]
    exact noteIn hM hG hU h8 k
  · rw [if_neg h8] at k
    have h9 : U.length = 8 := by omega
    have e1 : (nI U.length = nI 8) ↔ True := ⟨fun _ => trivial, fun _ => by rw [h9]⟩
    obtain ⟨⟨sp, z1⟩, ⟨a98, a99, a100, a101, a102, a104, a105, a106, a107, a108, a109⟩, a103⟩ := hM
    obtain ⟨bf, f1, f2, f3⟩ := a104
    have key : ∀ i, i ≤ 189 → ∀ h1 s1, h1[104]? = some (ms_ia s1) → CPY bf s1 bf 0 27 i → Off h h1 104 1 → WP sc 97 11 [some (.ref 97), some (.int (nI i))] [] h1 Q := by
      refine loop_up ?_ ?_
      · intro h1 s1 x1 hc ho
        have hge : nI 189 ≤ nI 189 := nI_le (Nat.le_refl _) (by omega)
        have y1 := (ho.2 97 (by omega)).trans z1
        have hg := fun k => g_obj (k := k) y1
        have hi := i_obj y1
        have e2 : nI U.length - nI 1 = nI (U.length - 1) := nI_sub (by omega)
        rw [s97_11]
        simp (disch := first | assumption | exact wn2_i | exact wn2_r | exact wn2_n | exact Nat.le_of_ble_eq_true rfl | omega | (refine nI_z ?_ ?_ <;> omega)) only [s97_12, s97_15, s97_39, s97_40, s97_41, s97_44, s97_45, s97_46, wX_some, Option.toList_some, Option.toList_none, List.cons_append, List.nil_append, List.map_cons, List.map_nil, List.sum_cons, List.sum_nil, Value.category, wn2_i, wn2_r, wn2_n, Option.isSome_some, List.getElem?_cons_zero, List.getElem?_cons_succ, nI_add, nI_rem2, hge, if_true, hg, hi, e2, List.set_cons_succ, List.set_cons_zero, List.length_cons, List.length_nil, Nat.reduceAdd, Nat.reduceLT, true_and]
        have hl : s1.length = 216 := hc.1.trans f2
        have ll : (U.drop 1).length = U.length - 1 := by simp
        have ho2 : Off h (h1.set 97 (ms_obj 6 [.int (nI m), .ref 98, .ref 99, .ref 100, .ref 101, .ref 102, .ref 103, .ref 104, .int (nI (U.length - 1)), .ref 105, .int (nI K.length), .ref 106, .int (nI L.length), .int sp, .ref 107, .int o1, .int k1, .int o2, .int u2, .ref 108, .ref 109])) 97 13 := (ho.wide (by omega) (by omega)).st (by omega) (by omega)
        have hx : OffX h (h1.set 97 (ms_obj 6 [.int (nI m), .ref 98, .ref 99, .ref 100, .ref 101, .ref 102, .ref 103, .ref 104, .int (nI (U.length - 1)), .ref 105, .int (nI K.length), .ref 106, .int (nI L.length), .int sp, .ref 107, .int o1, .int k1, .int o2, .int u2, .ref 108, .ref 109])) (fun i => i = 97 ∨ i = 104) := (ho.x (fun i x1 x2 => by omega)).st (Or.inl rfl)
        have hr : rowU (U.drop 1) s1 := by
          intro i B hi
          rw [List.getElem?_drop] at hi
          have hb := hU B (List.mem_of_getElem? hi)
          have hlt := (List.getElem?_eq_some_iff.mp hi).1
          refine (f3 (1 + i) B hi).cong hb.1 hb.2 (fun j hj => ?_)
          have := hc.2.1 (27 * i + j) (by omega)
          rw [Nat.zero_add] at this
          rw [this]
          congr 1
          omega
        have hM2 : MJ (h1.set 97 (ms_obj 6 [.int (nI m), .ref 98, .ref 99, .ref 100, .ref 101, .ref 102, .ref 103, .ref 104, .int (nI (U.length - 1)), .ref 105, .int (nI K.length), .ref 106, .int (nI L.length), .int sp, .ref 107, .int o1, .int k1, .int o2, .int u2, .ref 108, .ref 109])) o1 k1 o2 u2 T m A (U.drop 1) K L := by
          refine ⟨⟨sp, ?_⟩, ⟨a98.off (hx.2 98 (by omega)), a99.off (hx.2 99 (by omega)), a100.off (hx.2 100 (by omega)), a101.off (hx.2 101 (by omega)), a102.off (hx.2 102 (by omega)), ⟨s1, (s_ne (by omega) x1), hl, hr⟩, a105.off (hx.2 105 (by omega)), a106.off (hx.2 106 (by omega)), a107.off (hx.2 107 (by omega)), a108.off (hx.2 108 (by omega)), a109.off (hx.2 109 (by omega))⟩, a103.off (hx.2 103 (by omega))⟩
          rw [ll]
          exact s_eq (lt_of_some y1)
        exact noteIn hM2 hG (fun B hB => hU B (List.mem_of_mem_drop hB)) (by omega) (fun h2 x1 x2 => k h2 x1 (hx.tr x2))
      · intro i hi ih h1 s1 x1 hc ho
        have hge : ¬ nI 189 ≤ nI i := nI_ge hi (by omega)
        have y1 := (ho.2 97 (by omega)).trans z1
        have hg := fun k => g_obj (k := k) y1
        have av1 := a_arr x1
        have hl : s1.length = 216 := hc.1.trans f2
        have hcn := hc.nx (x := s1.getD (27 + i) 0) (by omega) (hc.2.2 _ (by omega))
        rw [Nat.zero_add] at hcn
        rw [s97_11]
        simp (disch := first | assumption | exact wn2_i | exact wn2_r | exact wn2_n | exact Nat.le_of_ble_eq_true rfl | omega | (refine nI_z ?_ ?_ <;> omega)) only [s97_12, s97_15, s97_18, s97_19, s97_22, s97_23, s97_24, s97_27, s97_29, s97_30, s97_31, s97_32, s97_33, s97_36, wX_some, Option.toList_some, Option.toList_none, List.cons_append, List.nil_append, List.map_cons, List.map_nil, List.sum_cons, List.sum_nil, Value.category, wn2_i, wn2_r, wn2_n, Option.isSome_some, List.getElem?_cons_zero, List.getElem?_cons_succ, nI_add, nI_rem2, hge, if_false, hg, av1, hl, iat_n]
        exact ih _ _ (s_eq (lt_of_some x1)) hcn (ho.st (by omega) (by omega))
    simp (disch := first | assumption | exact wn2_i | exact wn2_r | exact wn2_n | exact Nat.le_of_ble_eq_true rfl | omega | (refine nI_z ?_ ?_ <;> omega)) only [s97_0, s97_1, s97_4, s97_6, s97_9, s97_10, wX_some, Option.toList_some, Option.toList_none, List.cons_append, List.nil_append, List.map_cons, List.map_nil, List.sum_cons, List.sum_nil, Value.category, wn2_i, wn2_r, wn2_n, Option.isSome_some, List.getElem?_cons_zero, List.getElem?_cons_succ, nI_add, nI_rem2, hg, e1, if_true]
    exact key 0 (by omega) h bf f1 CPY.z Off.rf
theorem take_wp (hM : MJ h o1 k1 o2 u2 T m A U K L) (hS : MS h o1 k1 o2 u2 B) (h0 : B 7 0 ≤ 6) (h1 : B 7 1 ≤ 6) (e7 : B 7 = A 7) (e5 : B 5 = A 5) (e6 : B 6 = A 6) {l1 : Option Value} (k : ∀ h1, MJ h1 o1 k1 o2 u2 T m B U K L → Off h h1 97 13 → Q none h1) : WP sc 102 0 [some (.ref 97), l1] [] h Q := by
  obtain ⟨_, _, _, _, _, _, sd, _, _, s1, _, s2, _, _, _, s3⟩ := hS
  obtain ⟨⟨sp, z1⟩, ⟨a98, a99, a100, a101, a102, a104, a105, a106, a107, a108, a109⟩, a103⟩ := hM
  obtain ⟨nw, n1, n2, n3⟩ := a102
  have key : ∀ i, i ≤ 27 → ∀ h1 w1, h1[102]? = some (ms_ia w1) → CPY nw w1 sd 0 0 i → Off h h1 102 1 → WP sc 102 2 [some (.ref 97), some (.int (nI i))] [] h1 Q := by
    refine loop_up ?_ ?_
    · intro h1 w1 x1 hc ho
      have hge : nI 27 ≤ nI 27 := nI_le (Nat.le_refl _) (by omega)
      rw [s102_2]
      simp (disch := first | assumption | exact wn2_i | exact wn2_r | exact wn2_n | exact Nat.le_of_ble_eq_true rfl | omega | (refine nI_z ?_ ?_ <;> omega)) only [s102_3, s102_5, s102_26, wX_some, Option.toList_some, Option.toList_none, List.cons_append, List.nil_append, List.map_cons, List.map_nil, List.sum_cons, List.sum_nil, Value.category, wn2_i, wn2_r, wn2_n, Option.isSome_some, List.getElem?_cons_zero, List.getElem?_cons_succ, nI_add, nI_rem2, hge, if_true]
      have hl : w1.length = 27 := hc.1.trans n2
      have a99b : AR h1 99 14 (fun l => KA (fun i => l.getD i 0) B) := by
        obtain ⟨td, t1, t2, t3⟩ := a99.off (ho.2 99 (by omega))
        refine ⟨td, t1, t2, ?_⟩
        unfold KA at t3 ⊢
        rw [e7, e5, e6]; exact t3
      refine k h1 ⟨⟨sp, (ho.2 97 (by omega)).trans z1⟩, ⟨a98.off (ho.2 98 (by omega)), a99b, a100.off (ho.2 100 (by omega)), a101.off (ho.2 101 (by omega)), ⟨w1, x1, hl, ?_⟩, a104.off (ho.2 104 (by omega)), a105.off (ho.2 105 (by omega)), a106.off (ho.2 106 (by omega)), a107.off (ho.2 107 (by omega)), a108.off (ho.2 108 (by omega)), a109.off (ho.2 109 (by omega))⟩, a103.off (ho.2 103 (by omega))⟩ (ho.wide (by omega) (by omega))
      refine s3.cong h0 (by assumption) (fun i hi => ?_)
      have := hc.2.1 i hi
      simpa using this
    · intro i hi ih h1 w1 x1 hc ho
      have hge : ¬ nI 27 ≤ nI i := nI_ge hi (by omega)
      have y1 := (ho.2 97 (by omega)).trans z1
      have hg := fun k => g_obj (k := k) y1
      have av1 := a_arr x1
      have av2 := a_arr ((ho.2 103 (by omega)).trans s1)
      have hl : w1.length = 27 := hc.1.trans n2
      have hcn := hc.nx (x := sd.getD i 0) (by omega) (by rw [Nat.zero_add])
      rw [Nat.zero_add] at hcn
      rw [s102_2]
      simp (disch := first | assumption | exact wn2_i | exact wn2_r | exact wn2_n | exact Nat.le_of_ble_eq_true rfl | omega | (refine nI_z ?_ ?_ <;> omega)) only [s102_3, s102_5, s102_8, s102_9, s102_12, s102_13, s102_14, s102_17, s102_18, s102_19, s102_20, s102_23, wX_some, Option.toList_some, Option.toList_none, List.cons_append, List.nil_append, List.map_cons, List.map_nil, List.sum_cons, List.sum_nil, Value.category, wn2_i, wn2_r, wn2_n, Option.isSome_some, List.getElem?_cons_zero, List.getElem?_cons_succ, nI_add, nI_rem2, hge, if_false, hg, av1, av2, s2, hl, iat_n]
      exact ih _ _ (s_eq (lt_of_some x1)) hcn (ho.st (by omega) (by omega))
  simp (disch := first | assumption | exact wn2_i | exact wn2_r | exact wn2_n | exact Nat.le_of_ble_eq_true rfl | omega | (refine nI_z ?_ ?_ <;> omega)) only [s102_0, s102_1, wX_some, Option.toList_some, Option.toList_none, List.cons_append, List.nil_append, List.map_cons, List.map_nil, List.sum_cons, List.sum_nil, Value.category, wn2_i, wn2_r, wn2_n, Option.isSome_some, List.getElem?_cons_zero, List.getElem?_cons_succ, nI_add, nI_rem2]
  exact key 0 (by omega) h nw n1 CPY.z Off.rf
end M64

-- the model's calls: keep, seen, forget, count
section M67
variable {sc : List Int32} {h : List ms_C} {Q : Option Value → List ms_C → Prop} {o1 k1 o2 u2 : Int32} {T : Nat → Nat} {m : Nat} {A B : AS} {U K : List AS} {L : List (Nat × Nat)} {S : GS}
theorem rowK.app {U : List AS} {l l1 : List Int32} {nw : List Int32} (hU : rowU U l) (hB : ∀ B ∈ U, B 7 0 ≤ 6 ∧ B 7 1 ≤ 6) (h0 : A 7 0 ≤ 6) (h1 : A 7 1 ≤ 6) (hR : RA (fun i => nw.getD i 0) A) (hc : CPY l l1 nw (27 * U.length) 0 27) : rowU (U ++ [A]) l1 := by
  intro i B hi
  by_cases e : i < U.length
  · rw [List.getElem?_append_left e] at hi
    have hb := hB B (List.mem_of_getElem? hi)
    exact (hU i B hi).cong hb.1 hb.2 (fun j hj => hc.2.2 _ (Or.inl (by omega)))
  · have hie : i = U.length := by
      have := (List.getElem?_eq_some_iff.mp hi).1
      simp at this; omega
    subst hie
    simp at hi
    subst hi
    exact hR.cong h0 h1 (fun j hj => by have := hc.2.1 j hj; rw [Nat.zero_add] at this; exact this)
theorem m_keep (hM : MIS h S) (hg : GIS S) {l1 : Option Value} (k : ∀ h1, MIS h1 (op_keep S).2 → Off h h1 97 13 → Q (some (.int (op_keep S).1)) h1) : WP sc 128 0 [some (.ref 97), l1] [] h Q := by
  obtain ⟨⟨T, m⟩, A, U, K, L⟩ := S
  have hM0 := hM
  obtain ⟨k1, u2, hM⟩ := hM
  have hg : GI m A U K L := hg
  have hM : MJ h (-4) k1 (-4) u2 T m A U K L := hM
  obtain ⟨-, hAG, hq, hU, hKK, hUl, hKl, -⟩ := hg
  obtain ⟨⟨G1, G2⟩, ⟨G3, G4⟩, G5, G6, G7⟩ := hAG
  obtain ⟨⟨sp, z1⟩, ⟨a98, a99, a100, a101, a102, a104, a105, a106, a107, a108, a109⟩, a103⟩ := hM
  have hgo := fun k => g_obj (k := k) z1
  unfold op_keep at k
  dsimp only at k
  by_cases hl : K.length < 2
  · rw [if_pos hl] at k
    have e1 : (nI K.length = nI 2) ↔ False := ⟨fun q => by have := (nI_eq (by omega) (by omega)).mp q; omega, False.elim⟩
    obtain ⟨nw, n1, n2, n3⟩ := a102
    obtain ⟨bf, f1, f2, f3⟩ := a105
    have key : ∀ i, i ≤ 27 → ∀ h1 s1, h1[105]? = some (ms_ia s1) → CPY bf s1 nw (27 * K.length) 0 i → OffX h h1 (fun i => i = 97 ∨ i = 105) → h1[97]? = h[97]? → WP sc 128 13 [some (.ref 97), some (.int (nI i))] [] h1 Q := by
      refine loop_up ?_ ?_
      · intro h1 s1 x1 hc ho e97
        have hge : nI 27 ≤ nI 27 := nI_le (Nat.le_refl _) (by omega)
        have y1 := e97.trans z1
        have hg := fun k => g_obj (k := k) y1
        have hi := i_obj y1
        have y2 := s_eq (c := ms_obj 6 (MO (nI m) (nI U.length) (nI (K.length + 1)) (nI L.length) sp (-4) k1 (-4) u2)) (lt_of_some y1)
        have hg2 := fun k => g_obj (k := k) y2
        rw [s128_13]
        simp (disch := first | assumption | exact wn2_i | exact wn2_r | exact wn2_n | exact Nat.le_of_ble_eq_true rfl | omega | (refine nI_z ?_ ?_ <;> omega)) only [s128_14, s128_16, s128_45, s128_46, s128_47, s128_50, s128_51, s128_52, wX_some, Option.toList_some, Option.toList_none, List.cons_append, List.nil_append, List.map_cons, List.map_nil, List.sum_cons, List.sum_nil, Value.category, wn2_i, wn2_r, wn2_n, Option.isSome_some, List.getElem?_cons_zero, List.getElem?_cons_succ, nI_add, nI_rem2, hge, if_true, hg, hi, List.set_cons_succ, List.set_cons_zero, List.length_cons, List.length_nil, Nat.reduceAdd, Nat.reduceLT, true_and]
        simp (disch := first | assumption | exact wn2_i | exact wn2_r | exact wn2_n | exact Nat.le_of_ble_eq_true rfl | omega | (refine nI_z ?_ ?_ <;> omega)) only [s128_55, s128_56, s128_59, wX_some, Option.toList_some, Option.toList_none, List.cons_append, List.nil_append, List.map_cons, List.map_nil, List.sum_cons, List.sum_nil, Value.category, wn2_i, wn2_r, wn2_n, Option.isSome_some, List.getElem?_cons_zero, List.getElem?_cons_succ, nI_add, nI_rem2, hg2]
        have hl : s1.length = 54 := hc.1.trans f2
        have a102 : AR h 102 27 (fun l => RA (fun i => l.getD i 0) A) := ⟨nw, n1, n2, n3⟩
        have ll : (K ++ [A]).length = K.length + 1 := by simp
        have hx : OffX h (h1.set 97 (ms_obj 6 (MO (nI m) (nI U.length) (nI (K.length + 1)) (nI L.length) sp (-4) k1 (-4) u2))) (fun i => i = 97 ∨ i = 105) := ho.st (Or.inl rfl)
        refine k _ ⟨k1, u2, ⟨sp, ?_⟩, ⟨a98.off (hx.2 98 (by omega)), a99.off (hx.2 99 (by omega)), a100.off (hx.2 100 (by omega)), a101.off (hx.2 101 (by omega)), a102.off (hx.2 102 (by omega)), a104.off (hx.2 104 (by omega)), ⟨s1, (s_ne (by omega) x1), hl, rowK.app f3 (fun B hB => by have := (hKK B hB).1; exact ⟨this.1.2, this.2.1.2⟩) G2 G4 n3 hc⟩, a106.off (hx.2 106 (by omega)), a107.off (hx.2 107 (by omega)), a108.off (hx.2 108 (by omega)), a109.off (hx.2 109 (by omega))⟩, a103.off (hx.2 103 (by omega))⟩ (hx.off (fun i hi => by omega))
        rw [ll]
        exact y2
      · intro i hi ih h1 s1 x1 hc ho e97
        have hge : ¬ nI 27 ≤ nI i := nI_ge hi (by omega)
        have y1 := e97.trans z1
        have hg := fun k => g_obj (k := k) y1
        have av1 := a_arr x1
        have av2 := a_arr ((ho.2 102 (by omega)).trans n1)
        have hl : s1.length = 54 := hc.1.trans f2
        have hlt : 27 * K.length + i < 54 := by omega
        rw [s128_13]
        simp (disch := first | assumption | exact wn2_i | exact wn2_r | exact wn2_n | exact Nat.le_of_ble_eq_true rfl | omega | (refine nI_z ?_ ?_ <;> omega)) only [s128_14, s128_16, s128_19, s128_20, s128_23, s128_25, s128_26, s128_29, s128_30, s128_31, s128_32, s128_33, s128_36, s128_37, s128_38, s128_39, s128_42, wX_some, Option.toList_some, Option.toList_none, List.cons_append, List.nil_append, List.map_cons, List.map_nil, List.sum_cons, List.sum_nil, Value.category, wn2_i, wn2_r, wn2_n, Option.isSome_some, List.getElem?_cons_zero, List.getElem?_cons_succ, nI_add, nI_rem2, hge, if_false, hg, av1, av2, n2, hl, iat_n, pk_mul]
        exact ih _ _ (s_eq (lt_of_some x1)) (hc.nx (x := nw.getD i 0) (by omega) (by rw [Nat.zero_add])) (ho.st (Or.inr rfl)) (by rw [List.getElem?_set_ne (by omega)]; exact e97)
    simp (disch := first | assumption | exact wn2_i | exact wn2_r | exact wn2_n | exact Nat.le_of_ble_eq_true rfl | omega | (refine nI_z ?_ ?_ <;> omega)) only [s128_0, s128_1, s128_4, s128_5, s128_8, s128_10, s128_11, s128_12, wX_some, Option.toList_some, Option.toList_none, List.cons_append, List.nil_append, List.map_cons, List.map_nil, List.sum_cons, List.sum_nil, Value.category, wn2_i, wn2_r, wn2_n, Option.isSome_some, List.getElem?_cons_zero, List.getElem?_cons_succ, nI_add, nI_rem2, hgo, e1, if_false]
    exact key 0 (by omega) h bf f1 CPY.z OffX.rf rfl
  · rw [if_neg hl] at k
    have e1 : (nI K.length = nI 2) ↔ True := ⟨fun _ => trivial, fun _ => by rw [show K.length = 2 by omega]⟩
    simp (disch := first | assumption | exact wn2_i | exact wn2_r | exact wn2_n | exact Nat.le_of_ble_eq_true rfl | omega | (refine nI_z ?_ ?_ <;> omega)) only [s128_0, s128_1, s128_4, s128_5, s128_8, s128_10, wX_some, Option.toList_some, Option.toList_none, List.cons_append, List.nil_append, List.map_cons, List.map_nil, List.sum_cons, List.sum_nil, Value.category, wn2_i, wn2_r, wn2_n, Option.isSome_some, List.getElem?_cons_zero, List.getElem?_cons_succ, nI_add, nI_rem2, hgo, e1, if_true]
    exact k h hM0 Off.rf
theorem m_seen (hM : MIS h S) (hg : GIS S) {n s : Int32} (k : ∀ h1, MIS h1 (op_seen n s S).2 → Off h h1 97 13 → Q (some (.int (op_seen n s S).1)) h1) : WP sc 118 0 [some (.ref 97), some (.int n), some (.int s)] [] h Q := by
  obtain ⟨⟨T, m⟩, A, U, K, L⟩ := S
  have hM0 := hM
  obtain ⟨k1, u2, hM⟩ := hM
  have hg : GI m A U K L := hg
  have hM : MJ h (-4) k1 (-4) u2 T m A U K L := hM
  obtain ⟨-, hAG, hq, hU, hKK, hUl, hKl, hLl, hL⟩ := hg
  obtain ⟨⟨G1, G2⟩, ⟨G3, G4⟩, G5, G6, G7⟩ := hAG
  have hI : (ms_is h 97 6).isSome = true := by
    obtain ⟨_, _, _, _, _, _, hI, -⟩ := hM.facts
    exact hI
  have hw := fun Q x => isStreet_wp (sc := sc) (Q := Q) hM (by omega) G2 (x := x)
  unfold op_seen inS at k
  dsimp only at k
  cases hr : rng 1 40 n with
  | false =>
    rw [hr, Bool.false_and, if_neg (by decide)] at k
    simp (disch := first | assumption | exact wn2_i | exact wn2_r | exact wn2_n | exact Nat.le_of_ble_eq_true rfl | omega | (refine nI_z ?_ ?_ <;> omega)) only [s118_0, s118_1, s118_2, s118_3, s118_6, s118_9, s118_12, s118_13, s118_14, s118_17, s118_20, s118_21, wX_some, Option.toList_some, Option.toList_none, List.cons_append, List.nil_append, List.map_cons, List.map_nil, List.sum_cons, List.sum_nil, Value.category, wn2_i, wn2_r, wn2_n, Option.isSome_some, List.getElem?_cons_zero, List.getElem?_cons_succ, nI_add, nI_rem2, in_rng, hr, Bool.false_eq_true, if_false, nI_eq0, if_true]
    exact k h hM0 Off.rf
  | true =>
    cases hr2 : rng 0 (A 7 0 - 1) s with
    | false =>
      rw [hr2, Bool.and_false, if_neg (by decide)] at k
      simp (disch := first | assumption | exact wn2_i | exact wn2_r | exact wn2_n | exact Nat.le_of_ble_eq_true rfl | omega | (refine nI_z ?_ ?_ <;> omega)) only [s118_0, s118_1, s118_2, s118_3, s118_6, s118_9, s118_12, s118_13, s118_14, s118_17, s118_20, s118_21, wX_some, Option.toList_some, Option.toList_none, List.cons_append, List.nil_append, List.map_cons, List.map_nil, List.sum_cons, List.sum_nil, Value.category, wn2_i, wn2_r, wn2_n, Option.isSome_some, List.getElem?_cons_zero, List.getElem?_cons_succ, nI_add, nI_rem2, hw, hr, hr2, in_rng, Bool.false_eq_true, if_false, nI_eq0, if_true, Nat.reduceEqDiff]
      exact k h hM0 Off.rf
    | true =>
      rw [hr, hr2, Bool.and_true, if_pos rfl] at k
      obtain ⟨i, i1, i2, rfl⟩ := rng_nI (by omega) hr
      obtain ⟨j, j1, j2, rfl⟩ := rng_nI (by omega) hr2
      rw [nat_nI (by omega), nat_nI (by omega)] at k
      obtain ⟨⟨sp, z1⟩, ⟨a98, a99, a100, a101, a102, a104, a105, a106, a107, a108, a109⟩, a103⟩ := hM
      have hgo := fun k => g_obj (k := k) z1
      by_cases hl : L.length < 6
      · rw [if_pos hl] at k
        have e1 : (nI L.length = nI 6) ↔ False := ⟨fun q => by have := (nI_eq (by omega) (by omega)).mp q; omega, False.elim⟩
        obtain ⟨nt, t1, t2, t3⟩ := a106
        have av := a_arr t1
        have hlt1 : 2 * L.length < 12 := by omega
        simp (disch := first | assumption | exact wn2_i | exact wn2_r | exact wn2_n | exact Nat.le_of_ble_eq_true rfl | omega | (refine nI_z ?_ ?_ <;> omega)) only [s118_0, s118_1, s118_2, s118_3, s118_6, s118_9, s118_12, s118_13, s118_14, s118_17, s118_20, s118_21, s118_22, s118_23, s118_26, s118_28, s118_31, s118_33, s118_34, s118_35, s118_38, s118_39, s118_40, s118_43, s118_44, s118_45, wX_some, Option.toList_some, Option.toList_none, List.cons_append, List.nil_append, List.map_cons, List.map_nil, List.sum_cons, List.sum_nil, Value.category, wn2_i, wn2_r, wn2_n, Option.isSome_some, List.getElem?_cons_zero, List.getElem?_cons_succ, nI_add, nI_rem2, hw, hr, hr2, in_rng, if_false, nI_eq0, if_true, Nat.reduceEqDiff, hgo, e1, av, t2, iat_n, pk_mul]
        have y1 : (h.set 106 (ms_ia (nt.set (2 * L.length) (nI i))))[97]? = some (ms_obj 6 (MO (nI m) (nI U.length) (nI K.length) (nI L.length) sp (-4) k1 (-4) u2)) := s_ne (by omega) z1
        have y2 : (h.set 106 (ms_ia (nt.set (2 * L.length) (nI i))))[106]? = some (ms_ia (nt.set (2 * L.length) (nI i))) := s_eq (lt_of_some t1)
        have hx1 : OffX h (h.set 106 (ms_ia (nt.set (2 * L.length) (nI i)))) (fun i => i = 97 ∨ i = 106) := OffX.rf.st (Or.inr rfl)
        generalize h.set 106 (ms_ia (nt.set (2 * L.length) (nI i))) = h1 at y1 y2 hx1 ⊢
        have hg1 := fun k => g_obj (k := k) y1
        have av1 := a_arr y2
        have l1 : (nt.set (2 * L.length) (nI i)).length = 12 := by rw [List.length_set]; exact t2
        have hlt2 : 2 * L.length + 1 < 12 := by omega
        simp (disch := first | assumption | exact wn2_i | exact wn2_r | exact wn2_n | exact Nat.le_of_ble_eq_true rfl | omega | (refine nI_z ?_ ?_ <;> omega)) only [s118_46, s118_47, s118_50, s118_51, s118_52, s118_55, s118_56, s118_57, s118_58, s118_59, wX_some, Option.toList_some, Option.toList_none, List.cons_append, List.nil_append, List.map_cons, List.map_nil, List.sum_cons, List.sum_nil, Value.category, wn2_i, wn2_r, wn2_n, Option.isSome_some, List.getElem?_cons_zero, List.getElem?_cons_succ, nI_add, nI_rem2, hg1, av1, l1, iat_n, pk_mul]
        have w1 : (h1.set 106 (ms_ia ((nt.set (2 * L.length) (nI i)).set (2 * L.length + 1) (nI j))))[97]? = some (ms_obj 6 (MO (nI m) (nI U.length) (nI K.length) (nI L.length) sp (-4) k1 (-4) u2)) := s_ne (by omega) y1
        have w2 : (h1.set 106 (ms_ia ((nt.set (2 * L.length) (nI i)).set (2 * L.length + 1) (nI j))))[106]? = some (ms_ia ((nt.set (2 * L.length) (nI i)).set (2 * L.length + 1) (nI j))) := s_eq (lt_of_some y2)
        have hx2 : OffX h (h1.set 106 (ms_ia ((nt.set (2 * L.length) (nI i)).set (2 * L.length + 1) (nI j)))) (fun i => i = 97 ∨ i = 106) := hx1.st (Or.inr rfl)
        generalize h1.set 106 (ms_ia ((nt.set (2 * L.length) (nI i)).set (2 * L.length + 1) (nI j))) = h2 at w1 w2 hx2 ⊢
        have hg2 := fun k => g_obj (k := k) w1
        have hi2 := i_obj w1
        have v1 := s_eq (c := ms_obj 6 (MO (nI m) (nI U.length) (nI K.length) (nI (L.length + 1)) sp (-4) k1 (-4) u2)) (lt_of_some w1)
        have hg3 := fun k => g_obj (k := k) v1
        simp (disch := first | assumption | exact wn2_i | exact wn2_r | exact wn2_n | exact Nat.le_of_ble_eq_true rfl | omega | (refine nI_z ?_ ?_ <;> omega)) only [s118_60, s118_61, s118_62, s118_65, s118_66, s118_67, wX_some, Option.toList_some, Option.toList_none, List.cons_append, List.nil_append, List.map_cons, List.map_nil, List.sum_cons, List.sum_nil, Value.category, wn2_i, wn2_r, wn2_n, Option.isSome_some, List.getElem?_cons_zero, List.getElem?_cons_succ, nI_add, nI_rem2, hg2, hi2, List.set_cons_succ, List.set_cons_zero, List.length_cons, List.length_nil, Nat.reduceAdd, Nat.reduceLT, true_and]
        simp (disch := first | assumption | exact wn2_i | exact wn2_r | exact wn2_n | exact Nat.le_of_ble_eq_true rfl | omega | (refine nI_z ?_ ?_ <;> omega)) only [s118_70, s118_71, s118_74, wX_some, Option.toList_some, Option.toList_none, List.cons_append, List.nil_append, List.map_cons, List.map_nil, List.sum_cons, List.sum_nil, Value.category, wn2_i, wn2_r, wn2_n, Option.isSome_some, List.getElem?_cons_zero, List.getElem?_cons_succ, nI_add, nI_rem2, hg3]
        have hx : OffX h (h2.set 97 (ms_obj 6 (MO (nI m) (nI U.length) (nI K.length) (nI (L.length + 1)) sp (-4) k1 (-4) u2))) (fun i => i = 97 ∨ i = 106) := hx2.st (Or.inl rfl)
        have ll : (L ++ [(i, j)]).length = L.length + 1 := by simp
        refine k _ ⟨k1, u2, ⟨sp, ?_⟩, ⟨a98.off (hx.2 98 (by omega)), a99.off (hx.2 99 (by omega)), a100.off (hx.2 100 (by omega)), a101.off (hx.2 101 (by omega)), a102.off (hx.2 102 (by omega)), a104.off (hx.2 104 (by omega)), a105.off (hx.2 105 (by omega)), ⟨_, s_ne (by omega) w2, by rw [List.length_set]; exact l1, ?_⟩, a107.off (hx.2 107 (by omega)), a108.off (hx.2 108 (by omega)), a109.off (hx.2 109 (by omega))⟩, a103.off (hx.2 103 (by omega))⟩ (hx.off (fun i hi => by omega))
        · rw [ll]; exact v1
        · intro p q hpq
          rw [gset (by omega), gset (by omega), gset (by omega), gset (by omega)]
          by_cases e : p < L.length
          · rw [List.getElem?_append_left e] at hpq
            rw [if_neg (by omega), if_neg (by omega), if_neg (by omega), if_neg (by omega)]
            exact t3 p q hpq
          · have hie : p = L.length := by
              have := (List.getElem?_eq_some_iff.mp hpq).1
              simp at this; omega
            subst hie
            simp at hpq
            subst hpq
            rw [if_neg (by omega), if_pos rfl, if_pos rfl]
            exact ⟨rfl, rfl⟩
      · rw [if_neg hl] at k
        have e1 : (nI L.length = nI 6) ↔ True := ⟨fun _ => trivial, fun _ => by rw [show L.length = 6 by omega]⟩
        simp (disch := first | assumption | exact wn2_i | exact wn2_r | exact wn2_n | exact Nat.le_of_ble_eq_true rfl | omega | (refine nI_z ?_ ?_ <;> omega)) only [s118_0, s118_1, s118_2, s118_3, s118_6, s118_9, s118_12, s118_13, s118_14, s118_17, s118_20, s118_21, s118_22, s118_23, s118_26, s118_28, s118_31, s118_33, wX_some, Option.toList_some, Option.toList_none, List.cons_append, List.nil_append, List.map_cons, List.map_nil, List.sum_cons, List.sum_nil, Value.category, wn2_i, wn2_r, wn2_n, Option.isSome_some, List.getElem?_cons_zero, List.getElem?_cons_succ, nI_add, nI_rem2, hw, hr, hr2, in_rng, if_false, nI_eq0, if_true, Nat.reduceEqDiff, hgo, e1]
        exact k h hM0 Off.rf
theorem m_forget (hM : MIS h S) {l1 : Option Value} (k : ∀ h1, MIS h1 (op_forget S).2 → Off h h1 97 13 → Q (some (.int (op_forget S).1)) h1) : WP sc 119 0 [some (.ref 97), l1] [] h Q := by
  obtain ⟨⟨T, m⟩, A, U, K, L⟩ := S
  obtain ⟨k1, u2, hM⟩ := hM
  have hM : MJ h (-4) k1 (-4) u2 T m A U K L := hM
  obtain ⟨⟨sp, z1⟩, ⟨a98, a99, a100, a101, a102, a104, a105, a106, a107, a108, a109⟩, a103⟩ := hM
  have hg := fun k => g_obj (k := k) z1
  have hi := i_obj z1
  simp (disch := first | assumption | exact wn2_i | exact wn2_r | exact wn2_n | exact Nat.le_of_ble_eq_true rfl | omega | (refine nI_z ?_ ?_ <;> omega)) only [s119_0, s119_1, s119_4, s119_5, s119_6, s119_7, s119_10, s119_11, wX_some, Option.toList_some, Option.toList_none, List.cons_append, List.nil_append, List.map_cons, List.map_nil, List.sum_cons, List.sum_nil, Value.category, wn2_i, wn2_r, wn2_n, Option.isSome_some, List.getElem?_cons_zero, List.getElem?_cons_succ, nI_add, nI_rem2, hg, hi, List.set_cons_succ, List.set_cons_zero, List.length_cons, List.length_nil, Nat.reduceAdd, Nat.reduceLT, true_and]
  have hx : OffX h (h.set 97 (ms_obj 6 (MO (nI m) (nI U.length) (nI K.length) (nI 0) sp (-4) k1 (-4) u2))) (fun i => i = 97) := OffX.rf.st rfl
  obtain ⟨nt, t1, t2, t3⟩ := a106
  exact k _ ⟨k1, u2, ⟨sp, s_eq (lt_of_some z1)⟩, ⟨a98.off (hx.2 98 (by omega)), a99.off (hx.2 99 (by omega)), a100.off (hx.2 100 (by omega)), a101.off (hx.2 101 (by omega)), a102.off (hx.2 102 (by omega)), a104.off (hx.2 104 (by omega)), a105.off (hx.2 105 (by omega)), ⟨nt, s_ne (by omega) t1, t2, fun i q hi => by
    have hi : ([] : List (Nat × Nat))[i]? = some q := hi
    rw [List.getElem?_nil] at hi
    cases hi⟩, a107.off (hx.2 107 (by omega)), a108.off (hx.2 108 (by omega)), a109.off (hx.2 109 (by omega))⟩, a103.off (hx.2 103 (by omega))⟩ (hx.off (fun i hi => by omega))
theorem m_count (hM : MIS h S) (hg : GIS S) {w : Int32} (k : ∀ h1, MIS h1 (op_count w S).2 → Off h h1 97 13 → Q (some (.int (op_count w S).1)) h1) : WP sc 130 0 [some (.ref 97), some (.int w)] [] h Q := by
  obtain ⟨⟨T, m⟩, A, U, K, L⟩ := S
  have hM0 := hM
  obtain ⟨k1, u2, hM⟩ := hM
  have hg : GI m A U K L := hg
  have hM : MJ h (-4) k1 (-4) u2 T m A U K L := hM
  obtain ⟨-, hAG, hq, hU, hKK, hUl, hKl, hLl, hL⟩ := hg
  have hAG0 := hAG
  obtain ⟨⟨G1, G2⟩, ⟨G3, G4⟩, G5, G6, G7⟩ := hAG
  obtain ⟨sp, td, nw, sd, hgo, his, hI, at1, an, as1, lt1, ln, ls1, ⟨q1, q2, q3⟩, ⟨r1, r2, r3, r4, r5⟩, b97, b102, b103⟩ := hM.facts
  dsimp only at q1 q2 q3 r3 r4 r5
  have hrm : nI (A 4 0) - nI (A 4 0) / nI (A 7 1) * nI (A 7 1) = nI (A 4 0 % A 7 1) := nI_rem (by omega) (by omega) (by omega)
  have z2 : ¬ nI (A 7 1) = 0 := nI_z (by omega) (by omega)
  unfold op_count at k
  dsimp only at k
  rw [s130_0, s130_1]
  by_cases c0 : w = nI 0
  · rw [if_pos c0] at k ⊢
    subst c0
    simp (disch := first | assumption | exact wn2_i | exact wn2_r | exact wn2_n | exact Nat.le_of_ble_eq_true rfl | omega | (refine nI_z ?_ ?_ <;> omega)) only [s130_60, s130_61, s130_64, s130_65, s130_66, wX_some, Option.toList_some, Option.toList_none, List.cons_append, List.nil_append, List.map_cons, List.map_nil, List.sum_cons, List.sum_nil, Value.category, wn2_i, wn2_r, wn2_n, Option.isSome_some, List.getElem?_cons_zero, List.getElem?_cons_succ, nI_add, nI_rem2, hgo, at1, lt1, iat_n, q1]
    exact k h hM0 Off.rf
  rw [if_neg c0] at k ⊢
  by_cases c1 : w = nI 1
  · rw [if_pos c1] at k ⊢
    subst c1
    simp (disch := first | assumption | exact wn2_i | exact wn2_r | exact wn2_n | exact Nat.le_of_ble_eq_true rfl | omega | (refine nI_z ?_ ?_ <;> omega)) only [s130_60, s130_61, s130_64, s130_65, s130_66, wX_some, Option.toList_some, Option.toList_none, List.cons_append, List.nil_append, List.map_cons, List.map_nil, List.sum_cons, List.sum_nil, Value.category, wn2_i, wn2_r, wn2_n, Option.isSome_some, List.getElem?_cons_zero, List.getElem?_cons_succ, nI_add, nI_rem2, hgo, at1, lt1, iat_n, q2]
    exact k h hM0 Off.rf
  rw [if_neg c1] at k ⊢
  by_cases c2 : w = nI 2
  · rw [if_pos c2] at k ⊢
    simp (disch := first | assumption | exact wn2_i | exact wn2_r | exact wn2_n | exact Nat.le_of_ble_eq_true rfl | omega | (refine nI_z ?_ ?_ <;> omega)) only [s130_67, s130_68, s130_71, s130_73, s130_74, wX_some, Option.toList_some, Option.toList_none, List.cons_append, List.nil_append, List.map_cons, List.map_nil, List.sum_cons, List.sum_nil, Value.category, wn2_i, wn2_r, wn2_n, Option.isSome_some, List.getElem?_cons_zero, List.getElem?_cons_succ, nI_add, nI_rem2, hgo, an, ln, iat_n, r3]
    exact k h hM0 Off.rf
  rw [if_neg c2] at k ⊢
  by_cases c3 : w = nI 3
  · rw [if_pos c3] at k ⊢
    simp (disch := first | assumption | exact wn2_i | exact wn2_r | exact wn2_n | exact Nat.le_of_ble_eq_true rfl | omega | (refine nI_z ?_ ?_ <;> omega)) only [s130_75, s130_76, s130_79, s130_81, s130_82, wX_some, Option.toList_some, Option.toList_none, List.cons_append, List.nil_append, List.map_cons, List.map_nil, List.sum_cons, List.sum_nil, Value.category, wn2_i, wn2_r, wn2_n, Option.isSome_some, List.getElem?_cons_zero, List.getElem?_cons_succ, nI_add, nI_rem2, hgo, an, ln, iat_n, r4]
    exact k h hM0 Off.rf
  rw [if_neg c3] at k ⊢
  by_cases c4 : w = nI 4
  · rw [if_pos c4] at k ⊢
    simp (disch := first | assumption | exact wn2_i | exact wn2_r | exact wn2_n | exact Nat.le_of_ble_eq_true rfl | omega | (refine nI_z ?_ ?_ <;> omega)) only [s130_83, s130_84, wX_some, Option.toList_some, Option.toList_none, List.cons_append, List.nil_append, List.map_cons, List.map_nil, List.sum_cons, List.sum_nil, Value.category, wn2_i, wn2_r, wn2_n, Option.isSome_some, List.getElem?_cons_zero, List.getElem?_cons_succ, nI_add, nI_rem2]
    refine aside_wp hM hAG0 (fun h1 hM1 hs1 ho1 => ?_)
    have hMS := hM1.ms0 G2 hs1
    obtain ⟨_, _, _, _, _, _, hI, -⟩ := hM1.facts
    have hwo := fun Q l1 l2 => wealthOfAll_wp (sc := sc) (Q := Q) (l1 := l1) (l2 := l2) hMS G2
    simp (disch := first | assumption | exact wn2_i | exact wn2_r | exact wn2_n | exact Nat.le_of_ble_eq_true rfl | omega | (refine nI_z ?_ ?_ <;> omega)) only [s130_87, s130_88, s130_91, wX_some, Option.toList_some, Option.toList_none, List.cons_append, List.nil_append, List.map_cons, List.map_nil, List.sum_cons, List.sum_nil, Value.category, wn2_i, wn2_r, wn2_n, Option.isSome_some, List.getElem?_cons_zero, List.getElem?_cons_succ, nI_add, nI_rem2, hwo]
    exact k h1 ⟨k1, u2, hM1⟩ (ho1.wide (by omega) (by omega))
  rw [if_neg c4] at k ⊢
  by_cases c5 : w = nI 5
  · rw [if_pos c5] at k ⊢
    simp (disch := first | assumption | exact wn2_i | exact wn2_r | exact wn2_n | exact Nat.le_of_ble_eq_true rfl | omega | (refine nI_z ?_ ?_ <;> omega)) only [s130_92, s130_93, s130_96, s130_98, s130_99, wX_some, Option.toList_some, Option.toList_none, List.cons_append, List.nil_append, List.map_cons, List.map_nil, List.sum_cons, List.sum_nil, Value.category, wn2_i, wn2_r, wn2_n, Option.isSome_some, List.getElem?_cons_zero, List.getElem?_cons_succ, nI_add, nI_rem2, hgo, an, ln, iat_n, r5]
    exact k h hM0 Off.rf
  rw [if_neg c5] at k ⊢
  by_cases c6 : w = nI 6
  · rw [if_pos c6] at k ⊢
    simp (disch := first | assumption | exact wn2_i | exact wn2_r | exact wn2_n | exact Nat.le_of_ble_eq_true rfl | omega | (refine nI_z ?_ ?_ <;> omega)) only [s130_100, s130_101, s130_104, s130_106, s130_107, s130_108, s130_111, s130_112, s130_113, s130_114, wX_some, Option.toList_some, Option.toList_none, List.cons_append, List.nil_append, List.map_cons, List.map_nil, List.sum_cons, List.sum_nil, Value.category, wn2_i, wn2_r, wn2_n, Option.isSome_some, List.getElem?_cons_zero, List.getElem?_cons_succ, nI_add, nI_rem2, hgo, an, ln, at1, lt1, iat_n, r3, q2, hrm]
    exact k h hM0 Off.rf
  rw [if_neg c6] at k ⊢
  by_cases c7 : w = nI 7
  · rw [if_pos c7] at k ⊢
    simp (disch := first | assumption | exact wn2_i | exact wn2_r | exact wn2_n | exact Nat.le_of_ble_eq_true rfl | omega | (refine nI_z ?_ ?_ <;> omega)) only [s130_115, s130_116, s130_119, wX_some, Option.toList_some, Option.toList_none, List.cons_append, List.nil_append, List.map_cons, List.map_nil, List.sum_cons, List.sum_nil, Value.category, wn2_i, wn2_r, wn2_n, Option.isSome_some, List.getElem?_cons_zero, List.getElem?_cons_succ, nI_add, nI_rem2, hgo]
    exact k h hM0 Off.rf
  rw [if_neg c7] at k ⊢
  by_cases c8 : w = nI 8
  · rw [if_pos c8] at k ⊢
    simp (disch := first | assumption | exact wn2_i | exact wn2_r | exact wn2_n | exact Nat.le_of_ble_eq_true rfl | omega | (refine nI_z ?_ ?_ <;> omega)) only [s130_120, s130_121, s130_124, wX_some, Option.toList_some, Option.toList_none, List.cons_append, List.nil_append, List.map_cons, List.map_nil, List.sum_cons, List.sum_nil, Value.category, wn2_i, wn2_r, wn2_n, Option.isSome_some, List.getElem?_cons_zero, List.getElem?_cons_succ, nI_add, nI_rem2, hgo]
    exact k h hM0 Off.rf
  rw [if_neg c8] at k ⊢
  by_cases c9 : w = nI 9
  · rw [if_pos c9] at k ⊢
    simp (disch := first | assumption | exact wn2_i | exact wn2_r | exact wn2_n | exact Nat.le_of_ble_eq_true rfl | omega | (refine nI_z ?_ ?_ <;> omega)) only [s130_125, s130_126, s130_129, wX_some, Option.toList_some, Option.toList_none, List.cons_append, List.nil_append, List.map_cons, List.map_nil, List.sum_cons, List.sum_nil, Value.category, wn2_i, wn2_r, wn2_n, Option.isSome_some, List.getElem?_cons_zero, List.getElem?_cons_succ, nI_add, nI_rem2, hgo]
    exact k h hM0 Off.rf
  rw [if_neg c9] at k ⊢
  by_cases c10 : w = nI 10
  · rw [if_pos c10] at k ⊢
    simp (disch := first | assumption | exact wn2_i | exact wn2_r | exact wn2_n | exact Nat.le_of_ble_eq_true rfl | omega | (refine nI_z ?_ ?_ <;> omega)) only [s130_130, s130_131, s130_134, wX_some, Option.toList_some, Option.toList_none, List.cons_append, List.nil_append, List.map_cons, List.map_nil, List.sum_cons, List.sum_nil, Value.category, wn2_i, wn2_r, wn2_n, Option.isSome_some, List.getElem?_cons_zero, List.getElem?_cons_succ, nI_add, nI_rem2, hgo]
    exact k h hM0 Off.rf
  rw [if_neg c10] at k ⊢
  simp (disch := first | assumption | exact wn2_i | exact wn2_r | exact wn2_n | exact Nat.le_of_ble_eq_true rfl | omega | (refine nI_z ?_ ?_ <;> omega)) only [s130_135, s130_136, wX_some, Option.toList_some, Option.toList_none, List.cons_append, List.nil_append, List.map_cons, List.map_nil, List.sum_cons, List.sum_nil, Value.category, wn2_i, wn2_r, wn2_n, Option.isSome_some, List.getElem?_cons_zero, List.getElem?_cons_succ, nI_add, nI_rem2]
  exact k h hM0 Off.rf
end M67

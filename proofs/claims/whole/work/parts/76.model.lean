-- the model reads the text: fault, lay
section M76
variable {sc : List Int32} {h h1 : List ms_C} {Q : Option Value → List ms_C → Prop} {k1 u2 : Int32} {T : Nat → Nat} {m : Nat} {A E : AS} {U K : List AS} {L : List (Nat × Nat)} {S : GS} {p : Nat}
theorem mempty_wp (hM : MJ h (-4) k1 (-4) u2 T m A U K L) {l1 : Option Value} (k : ∀ h1, MJ h1 (-4) k1 (-4) u2 T m A U K L → AR h1 100 14 (fun l => KA (fun i => l.getD i 0) emA) → AR h1 101 27 (rdR emA) → Off h h1 97 13 → Q none h1) : WP sc 76 0 [some (.ref 97), l1] [] h Q := by
  obtain ⟨⟨sp, z1⟩, ⟨a98, a99, a100, a101, a102, a104, a105, a106, a107, a108, a109⟩, a103⟩ := hM
  obtain ⟨rd, d1, d2, -⟩ := a100
  obtain ⟨rr, r1, r2, -⟩ := a101
  have key2 : ∀ i, i ≤ 27 → ∀ h1 l, h1[101]? = some (ms_ia l) → l.length = 27 → (∀ j, j < i → l.getD j 0 = if j = 25 then -4 else nI 0) → AR h1 100 14 (fun l => ∀ j, j < 14 → l.getD j 0 = nI 0) → OffX h h1 (fun i => i = 100 ∨ i = 101) → WP sc 76 23 [some (.ref 97), some (.int (nI i))] [] h1 Q := by
    refine loop_up ?_ ?_
    · intro h1 l x1 x2 x3 hd ho
      have hge : nI 27 ≤ nI 27 := nI_le (Nat.le_refl _) (by omega)
      rw [s76_23]
      simp (disch := first | assumption | exact wn2_i | exact wn2_r | exact wn2_n | exact Nat.le_of_ble_eq_true rfl | omega | (refine nI_z ?_ ?_ <;> omega)) only [s76_24, s76_26, s76_53, wX_some, Option.toList_some, Option.toList_none, List.cons_append, List.nil_append, List.map_cons, List.map_nil, List.sum_cons, List.sum_nil, Value.category, wn2_i, wn2_r, wn2_n, Option.isSome_some, List.getElem?_cons_zero, List.getElem?_cons_succ, nI_add, nI_rem2, hge, if_true]
      obtain ⟨rd', d1', d2', d3'⟩ := hd
      have q100 : AR h1 100 14 (fun l => KA (fun i => l.getD i 0) emA) := ⟨rd', d1', d2', d3' 0 (by omega), d3' 1 (by omega), fun s hs => absurd hs (Nat.not_lt_zero s)⟩
      have q101 : AR h1 101 27 (rdR emA) := by
        refine ⟨l, x1, x2, ⟨fun s hs => absurd hs (Nat.not_lt_zero s), fun s hs => absurd hs (Nat.not_lt_zero s), ?_, ?_, ?_⟩, fun s hs hs6 => ⟨?_, ?_⟩⟩
        · exact x3 24 (by omega)
        · exact x3 25 (by omega)
        · exact x3 26 (by omega)
        · rw [x3 (6 + s) (by omega), if_neg (by omega)]
        · rw [x3 (12 + s) (by omega), if_neg (by omega)]
      refine k h1 ⟨⟨sp, (ho.2 97 (by omega)).trans z1⟩, ⟨a98.off (ho.2 98 (by omega)), a99.off (ho.2 99 (by omega)), ?_, ?_, a102.off (ho.2 102 (by omega)), a104.off (ho.2 104 (by omega)), a105.off (ho.2 105 (by omega)), a106.off (ho.2 106 (by omega)), a107.off (ho.2 107 (by omega)), a108.off (ho.2 108 (by omega)), a109.off (ho.2 109 (by omega))⟩, a103.off (ho.2 103 (by omega))⟩ q100 q101 (ho.off (fun i hi => by omega))
      · exact ⟨rd', d1', d2', trivial⟩
      · exact ⟨l, x1, x2, trivial⟩
    · intro i hi ih h1 l x1 x2 x3 hd ho
      have hge : ¬ nI 27 ≤ nI i := nI_ge hi (by omega)
      have hg := fun k => g_obj (k := k) ((ho.2 97 (by omega)).trans z1)
      have av := a_arr x1
      rw [s76_23]
      by_cases c : i = 25
      · have e1 : (nI i = nI 25) ↔ True := ⟨fun _ => trivial, fun _ => by rw [c]⟩
        have hl : (l.set i (-4)).length = 27 := by rw [List.length_set]; exact x2
        have kk := ih (h1.set 101 (ms_ia (l.set i (-4)))) _ (s_eq (lt_of_some x1)) hl (fun j hj => by
          rw [gset (by omega)]
          by_cases e : i = j
          · rw [if_pos e, if_pos (by omega)]
          · rw [if_neg e]; exact x3 j (by omega)) (hd.off (by rw [List.getElem?_set_ne (by omega)])) (ho.st (Or.inr rfl))
        simp (disch := first | assumption | exact wn2_i | exact wn2_r | exact wn2_n | exact Nat.le_of_ble_eq_true rfl | omega | (refine nI_z ?_ ?_ <;> omega)) only [s76_24, s76_26, s76_29, s76_30, s76_33, s76_34, s76_35, s76_37, s76_40, s76_42, s76_45, s76_46, s76_47, s76_50, wX_some, Option.toList_some, Option.toList_none, List.cons_append, List.nil_append, List.map_cons, List.map_nil, List.sum_cons, List.sum_nil, Value.category, wn2_i, wn2_r, wn2_n, Option.isSome_some, List.getElem?_cons_zero, List.getElem?_cons_succ, nI_add, nI_rem2, hge, if_false, hg, av, x2, iat_n, e1, if_true]
        exact kk
      · have e1 : (nI i = nI 25) ↔ False := ⟨fun q => c ((nI_eq (by omega) (by omega)).mp q), False.elim⟩
        have hl : (l.set i (nI 0)).length = 27 := by rw [List.length_set]; exact x2
        have kk := ih (h1.set 101 (ms_ia (l.set i (nI 0)))) _ (s_eq (lt_of_some x1)) hl (fun j hj => by
          rw [gset (by omega)]
          by_cases e : i = j
          · rw [if_pos e, if_neg (by omega)]
          · rw [if_neg e]; exact x3 j (by omega)) (hd.off (by rw [List.getElem?_set_ne (by omega)])) (ho.st (Or.inr rfl))
        simp (disch := first | assumption | exact wn2_i | exact wn2_r | exact wn2_n | exact Nat.le_of_ble_eq_true rfl | omega | (refine nI_z ?_ ?_ <;> omega)) only [s76_24, s76_26, s76_29, s76_30, s76_33, s76_34, s76_35, s76_37, s76_40, s76_42, s76_45, s76_46, s76_47, s76_50, wX_some, Option.toList_some, Option.toList_none, List.cons_append, List.nil_append, List.map_cons, List.map_nil, List.sum_cons, List.sum_nil, Value.category, wn2_i, wn2_r, wn2_n, Option.isSome_some, List.getElem?_cons_zero, List.getElem?_cons_succ, nI_add, nI_rem2, hge, if_false, hg, av, x2, iat_n, e1]
        exact kk
  have key1 : ∀ i, i ≤ 14 → ∀ h1 l, h1[100]? = some (ms_ia l) → l.length = 14 → (∀ j, j < i → l.getD j 0 = nI 0) → OffX h h1 (fun i => i = 100) → WP sc 76 2 [some (.ref 97), some (.int (nI i))] [] h1 Q := by
    refine loop_up ?_ ?_
    · intro h1 l x1 x2 x3 ho
      have hge : nI 14 ≤ nI 14 := nI_le (Nat.le_refl _) (by omega)
      have kk := key2 0 (by omega) h1 rr ((ho.2 101 (by omega)).trans r1) r2 (fun j hj => by omega) ⟨l, x1, x2, x3⟩ ⟨ho.1, fun i hi => ho.2 i (fun e => hi (Or.inl e))⟩
      rw [s76_2]
      simp (disch := first | assumption | exact wn2_i | exact wn2_r | exact wn2_n | exact Nat.le_of_ble_eq_true rfl | omega | (refine nI_z ?_ ?_ <;> omega)) only [s76_3, s76_5, s76_21, s76_22, wX_some, Option.toList_some, Option.toList_none, List.cons_append, List.nil_append, List.map_cons, List.map_nil, List.sum_cons, List.sum_nil, Value.category, wn2_i, wn2_r, wn2_n, Option.isSome_some, List.getElem?_cons_zero, List.getElem?_cons_succ, nI_add, nI_rem2, hge, if_true]
      exact kk
    · intro i hi ih h1 l x1 x2 x3 ho
      have hge : ¬ nI 14 ≤ nI i := nI_ge hi (by omega)
      have hg := fun k => g_obj (k := k) ((ho.2 97 (by omega)).trans z1)
      have av := a_arr x1
      have hl : (l.set i (nI 0)).length = 14 := by rw [List.length_set]; exact x2
      have kk := ih (h1.set 100 (ms_ia (l.set i (nI 0)))) _ (s_eq (lt_of_some x1)) hl (fun j hj => by
        rw [gset (by omega)]
        by_cases e : i = j
        · rw [if_pos e]
        · rw [if_neg e]; exact x3 j (by omega)) (ho.st rfl)
      rw [s76_2]
      simp (disch := first | assumption | exact wn2_i | exact wn2_r | exact wn2_n | exact Nat.le_of_ble_eq_true rfl | omega | (refine nI_z ?_ ?_ <;> omega)) only [s76_3, s76_5, s76_8, s76_9, s76_12, s76_13, s76_14, s76_15, s76_18, wX_some, Option.toList_some, Option.toList_none, List.cons_append, List.nil_append, List.map_cons, List.map_nil, List.sum_cons, List.sum_nil, Value.category, wn2_i, wn2_r, wn2_n, Option.isSome_some, List.getElem?_cons_zero, List.getElem?_cons_succ, nI_add, nI_rem2, hge, if_false, hg, av, x2, iat_n]
      exact kk
  simp (disch := first | assumption | exact wn2_i | exact wn2_r | exact wn2_n | exact Nat.le_of_ble_eq_true rfl | omega | (refine nI_z ?_ ?_ <;> omega)) only [s76_0, s76_1, wX_some, Option.toList_some, Option.toList_none, List.cons_append, List.nil_append, List.map_cons, List.map_nil, List.sum_cons, List.sum_nil, Value.category, wn2_i, wn2_r, wn2_n, Option.isSome_some, List.getElem?_cons_zero, List.getElem?_cons_succ, nI_add, nI_rem2]
  exact key1 0 (by omega) h rd d1 d2 (fun j hj => by omega) OffX.rf
theorem readAll_wp (hM : MJ h (-4) k1 (-4) u2 T m A U K L) (hm : m ≤ 200) {l1 : Option Value} (k : ∀ h1 q, MK h1 k1 u2 T m A U K L q (rdF T m 200 emA 0).2 → Off h h1 97 13 → Q (some (.int (fO (rdF T m 200 emA 0).1))) h1) : WP sc 84 0 [some (.ref 97), l1] [] h Q := by
  obtain ⟨_, _, _, _, _, _, hI, -⟩ := hM.facts
  simp (disch := first | assumption | exact wn2_i | exact wn2_r | exact wn2_n | exact Nat.le_of_ble_eq_true rfl | omega | (refine nI_z ?_ ?_ <;> omega)) only [s84_0, s84_1, wX_some, Option.toList_some, Option.toList_none, List.cons_append, List.nil_append, List.map_cons, List.map_nil, List.sum_cons, List.sum_nil, Value.category, wn2_i, wn2_r, wn2_n, Option.isSome_some, List.getElem?_cons_zero, List.getElem?_cons_succ, nI_add, nI_rem2]
  refine mempty_wp hM (fun h1 hM1 q1 q2 ho1 => ?_)
  obtain ⟨R, hRR⟩ : ∃ R, rdF T m 200 emA 0 = R := ⟨_, rfl⟩
  rw [hRR] at k
  have key : ∀ fu i, i + fu = 200 → ∀ E p l1 h1, i ≤ p → p ≤ m → RG E → MK h1 k1 u2 T m A U K L p E → Off h h1 97 13 → rdF T m fu E p = R → WP sc 84 9 [some (.ref 97), l1] [] h1 Q := by
    intro fu
    induction fu with
    | zero =>
      intro i hi E p l1 h1 hip hpm hr hK1 ho hob
      have n1 : nI m ≤ nI p := nI_le (by omega) (by omega)
      have hg := fun k => g_obj (k := k) hK1.2.1
      rw [s84_9]
      simp (disch := first | assumption | exact wn2_i | exact wn2_r | exact wn2_n | exact Nat.le_of_ble_eq_true rfl | omega | (refine nI_z ?_ ?_ <;> omega)) only [s84_10, s84_13, s84_14, s84_17, s84_37, s84_39, wX_some, Option.toList_some, Option.toList_none, List.cons_append, List.nil_append, List.map_cons, List.map_nil, List.sum_cons, List.sum_nil, Value.category, wn2_i, wn2_r, wn2_n, Option.isSome_some, List.getElem?_cons_zero, List.getElem?_cons_succ, nI_add, nI_rem2, hg, n1, if_true]
      have := k h1 p (by rw [← hob]; exact hK1) ho
      rw [← hob] at this
      exact this
    | succ fu ih =>
      intro i hi E p l1 h1 hip hpm hr hK1 ho hob
      have hg := fun k => g_obj (k := k) hK1.2.1
      have hI : (ms_is h1 97 6).isSome = true := by rw [i_obj hK1.2.1]; rfl
      by_cases hlt : p < m
      · have n2 : ¬ nI m ≤ nI p := nI_ge hlt (by omega)
        rw [s84_9]
        simp (disch := first | assumption | exact wn2_i | exact wn2_r | exact wn2_n | exact Nat.le_of_ble_eq_true rfl | omega | (refine nI_z ?_ ?_ <;> omega)) only [s84_10, s84_13, s84_14, s84_17, s84_20, s84_21, s84_24, s84_25, s84_26, wX_some, Option.toList_some, Option.toList_none, List.cons_append, List.nil_append, List.map_cons, List.map_nil, List.sum_cons, List.sum_nil, Value.category, wn2_i, wn2_r, wn2_n, Option.isSome_some, List.getElem?_cons_zero, List.getElem?_cons_succ, nI_add, nI_rem2, hg, n2, if_false]
        refine item_wp hK1 hm hlt hr (fun hno h2 q hK2 ho2 => ?_) (fun E' q hy h2 hK2 ho2 => ?_)
        · have he : rdF T m (fu + 1) E p = (some p, E) := by rw [rdF, if_pos hlt, hno]
          simp (disch := first | assumption | exact wn2_i | exact wn2_r | exact wn2_n | exact Nat.le_of_ble_eq_true rfl | omega | (refine nI_z ?_ ?_ <;> omega)) only [s84_29, s84_32, s84_33, wX_some, Option.toList_some, Option.toList_none, List.cons_append, List.nil_append, List.map_cons, List.map_nil, List.sum_cons, List.sum_nil, Value.category, wn2_i, wn2_r, wn2_n, Option.isSome_some, List.getElem?_cons_zero, List.getElem?_cons_succ, nI_add, nI_rem2, nI_eq0, if_true]
          have := k h2 q (by rw [← hob, he]; exact hK2) (ho.tr ho2)
          rw [← hob, he] at this
          exact this
        · have he : rdF T m (fu + 1) E p = rdF T m fu E' q := by rw [rdF, if_pos hlt, hy]
          obtain ⟨y1, y2, y3⟩ := itm_ok hr hy
          have kk := ih (i + 1) (by omega) E' q (some (.int (nI p))) h2 (by omega) y3 y1 hK2 (ho.tr ho2) (by rw [← hob, he])
          simp (disch := first | assumption | exact wn2_i | exact wn2_r | exact wn2_n | exact Nat.le_of_ble_eq_true rfl | omega | (refine nI_z ?_ ?_ <;> omega)) only [s84_29, s84_32, s84_33, s84_34, wX_some, Option.toList_some, Option.toList_none, List.cons_append, List.nil_append, List.map_cons, List.map_nil, List.sum_cons, List.sum_nil, Value.category, wn2_i, wn2_r, wn2_n, Option.isSome_some, List.getElem?_cons_zero, List.getElem?_cons_succ, nI_add, nI_rem2, nI_eq0, if_false, Nat.reduceEqDiff]
          exact kk
      · have n2 : nI m ≤ nI p := nI_le (by omega) (by omega)
        have he : rdF T m (fu + 1) E p = (none, E) := by rw [rdF, if_neg hlt]
        rw [s84_9]
        simp (disch := first | assumption | exact wn2_i | exact wn2_r | exact wn2_n | exact Nat.le_of_ble_eq_true rfl | omega | (refine nI_z ?_ ?_ <;> omega)) only [s84_10, s84_13, s84_14, s84_17, s84_37, s84_39, wX_some, Option.toList_some, Option.toList_none, List.cons_append, List.nil_append, List.map_cons, List.map_nil, List.sum_cons, List.sum_nil, Value.category, wn2_i, wn2_r, wn2_n, Option.isSome_some, List.getElem?_cons_zero, List.getElem?_cons_succ, nI_add, nI_rem2, hg, n2, if_true]
        have := k h1 p (by rw [← hob, he]; exact hK1) ho
        rw [← hob, he] at this
        exact this
  obtain ⟨sp, z1, hset⟩ := hM1.obj
  have his := i_obj z1
  have hx : OffX h1 (h1.set 97 (ms_obj 6 (MO (nI m) (nI U.length) (nI K.length) (nI L.length) (nI 0) (-4) k1 (-4) u2))) (fun i => i = 97) := OffX.rf.st rfl
  have hK0 : MK (h1.set 97 (ms_obj 6 (MO (nI m) (nI U.length) (nI K.length) (nI L.length) (nI 0) (-4) k1 (-4) u2))) k1 u2 T m A U K L 0 emA := ⟨hset (nI 0) (-4) k1 (-4) u2, s_eq (lt_of_some z1), q1.off (hx.2 100 (by omega)), q2.off (hx.2 101 (by omega))⟩
  have kk := key 200 0 (by omega) emA 0 l1 _ (by omega) (by omega) RG.em hK0 (ho1.tr (hx.off (fun i hi => by omega))) hRR
  simp (disch := first | assumption | exact wn2_i | exact wn2_r | exact wn2_n | exact Nat.le_of_ble_eq_true rfl | omega | (refine nI_z ?_ ?_ <;> omega)) only [s84_4, s84_5, s84_6, wX_some, Option.toList_some, Option.toList_none, List.cons_append, List.nil_append, List.map_cons, List.map_nil, List.sum_cons, List.sum_nil, Value.category, wn2_i, wn2_r, wn2_n, Option.isSome_some, List.getElem?_cons_zero, List.getElem?_cons_succ, nI_add, nI_rem2, his, List.set_cons_succ, List.set_cons_zero, List.length_cons, List.length_nil, Nat.reduceAdd, Nat.reduceLT, true_and]
  exact kk
theorem m_fault (hM : MIS h S) (hg : GIS S) (k : ∀ h1, MIS h1 (op_fault S).2 → Off h h1 97 13 → Q (some (.int (op_fault S).1)) h1) : WP sc 83 0 [some (.ref 97)] [] h Q := by
  obtain ⟨⟨T, m⟩, A, U, K, L⟩ := S
  obtain ⟨k1, u2, hM⟩ := hM
  have hg : GI m A U K L := hg
  have hM : MJ h (-4) k1 (-4) u2 T m A U K L := hM
  obtain ⟨_, _, _, _, _, _, hI, -⟩ := hM.facts
  simp (disch := first | assumption | exact wn2_i | exact wn2_r | exact wn2_n | exact Nat.le_of_ble_eq_true rfl | omega | (refine nI_z ?_ ?_ <;> omega)) only [s83_0, s83_1, wX_some, Option.toList_some, Option.toList_none, List.cons_append, List.nil_append, List.map_cons, List.map_nil, List.sum_cons, List.sum_nil, Value.category, wn2_i, wn2_r, wn2_n, Option.isSome_some, List.getElem?_cons_zero, List.getElem?_cons_succ, nI_add, nI_rem2]
  refine readAll_wp hM hg.1 (fun h1 q hK1 ho1 => ?_)
  simp (disch := first | assumption | exact wn2_i | exact wn2_r | exact wn2_n | exact Nat.le_of_ble_eq_true rfl | omega | (refine nI_z ?_ ?_ <;> omega)) only [s83_4, wX_some, Option.toList_some, Option.toList_none, List.cons_append, List.nil_append, List.map_cons, List.map_nil, List.sum_cons, List.sum_nil, Value.category, wn2_i, wn2_r, wn2_n, Option.isSome_some, List.getElem?_cons_zero, List.getElem?_cons_succ, nI_add, nI_rem2]
  exact k h1 ⟨k1, u2, hK1.1⟩ ho1
theorem begin_wp (hK : MK h k1 u2 T m A U K L p E) (hR : RG E) {l1 : Option Value} (k : ∀ h1, MJ h1 (-4) k1 (-4) u2 T m E [] [] [] → Off h h1 97 13 → Q none h1) : WP sc 79 0 [some (.ref 97), l1] [] h Q := by
  obtain ⟨⟨⟨sp, z1⟩, ⟨a98, a99, a100, a101, a102, a104, a105, a106, a107, a108, a109⟩, a103⟩, z2, ⟨rd, d1, d2, d3⟩, ⟨rr, r1, r2, r3⟩⟩ := hK
  obtain ⟨td, t1, t2, -⟩ := a99
  obtain ⟨nw, n1, n2, -⟩ := a102
  have hg0 := fun k => g_obj (k := k) z2
  have key2 : ∀ i, i ≤ 27 → ∀ h1 l, h1[102]? = some (ms_ia l) → CPY nw l rr 0 0 i → AR h1 99 14 (fun l => KA (fun i => l.getD i 0) E) → OffX h h1 (fun i => i = 99 ∨ i = 102) → WP sc 79 28 [some (.ref 97), some (.int (nI i))] [] h1 Q := by
    refine loop_up ?_ ?_
    · intro h1 l x1 hc hd ho
      have hge : nI 27 ≤ nI 27 := nI_le (Nat.le_refl _) (by omega)
      have y1 := (ho.2 97 (by omega)).trans z2
      have hi1 := i_obj y1
      have b1 := lt_of_some y1
      have y2 := s_eq (c := ms_obj 6 (MO (nI m) (nI U.length) (nI K.length) (nI 0) (nI p) (-4) k1 (-4) u2)) b1
      have hi2 := i_obj y2
      have b2 := lt_of_some y2
      have y3 := s_eq (c := ms_obj 6 (MO (nI m) (nI 0) (nI K.length) (nI 0) (nI p) (-4) k1 (-4) u2)) b2
      have hi3 := i_obj y3
      have b3 := lt_of_some y3
      have y4 := s_eq (c := ms_obj 6 (MO (nI m) (nI 0) (nI 0) (nI 0) (nI p) (-4) k1 (-4) u2)) b3
      rw [s79_28]
      simp (disch := first | assumption | exact wn2_i | exact wn2_r | exact wn2_n | exact Nat.le_of_ble_eq_true rfl | omega | (refine nI_z ?_ ?_ <;> omega)) only [s79_29, s79_31, s79_52, s79_53, s79_54, wX_some, Option.toList_some, Option.toList_none, List.cons_append, List.nil_append, List.map_cons, List.map_nil, List.sum_cons, List.sum_nil, Value.category, wn2_i, wn2_r, wn2_n, Option.isSome_some, List.getElem?_cons_zero, List.getElem?_cons_succ, nI_add, nI_rem2, hge, if_true, hi1, List.set_cons_succ, List.set_cons_zero, List.length_cons, List.length_nil, Nat.reduceAdd, Nat.reduceLT, true_and]
      simp (disch := first | assumption | exact wn2_i | exact wn2_r | exact wn2_n | exact Nat.le_of_ble_eq_true rfl | omega | (refine nI_z ?_ ?_ <;> omega)) only [s79_57, s79_58, s79_59, wX_some, Option.toList_some, Option.toList_none, List.cons_append, List.nil_append, List.map_cons, List.map_nil, List.sum_cons, List.sum_nil, Value.category, wn2_i, wn2_r, wn2_n, Option.isSome_some, List.getElem?_cons_zero, List.getElem?_cons_succ, nI_add, nI_rem2, hi2, List.set_cons_succ, List.set_cons_zero, List.length_cons, List.length_nil, Nat.reduceAdd, Nat.reduceLT, true_and]
      simp (disch := first | assumption | exact wn2_i | exact wn2_r | exact wn2_n | exact Nat.le_of_ble_eq_true rfl | omega | (refine nI_z ?_ ?_ <;> omega)) only [s79_62, s79_63, s79_64, s79_67, wX_some, Option.toList_some, Option.toList_none, List.cons_append, List.nil_append, List.map_cons, List.map_nil, List.sum_cons, List.sum_nil, Value.category, wn2_i, wn2_r, wn2_n, Option.isSome_some, List.getElem?_cons_zero, List.getElem?_cons_succ, nI_add, nI_rem2, hi3, List.set_cons_succ, List.set_cons_zero, List.length_cons, List.length_nil, Nat.reduceAdd, Nat.reduceLT, true_and]
      have ho2 : OffX h (((h1.set 97 (ms_obj 6 (MO (nI m) (nI U.length) (nI K.length) (nI 0) (nI p) (-4) k1 (-4) u2))).set 97 (ms_obj 6 (MO (nI m) (nI 0) (nI K.length) (nI 0) (nI p) (-4) k1 (-4) u2))).set 97 (ms_obj 6 (MO (nI m) (nI 0) (nI 0) (nI 0) (nI p) (-4) k1 (-4) u2))) (fun i => i = 97 ∨ i = 99 ∨ i = 102) := by
        have o : OffX h h1 (fun i => i = 97 ∨ i = 99 ∨ i = 102) := ⟨ho.1, fun i hi => ho.2 i (fun e => hi (Or.inr e))⟩
        exact ((o.st (Or.inl rfl)).st (Or.inl rfl)).st (Or.inl rfl)
      have x2 : (((h1.set 97 (ms_obj 6 (MO (nI m) (nI U.length) (nI K.length) (nI 0) (nI p) (-4) k1 (-4) u2))).set 97 (ms_obj 6 (MO (nI m) (nI 0) (nI K.length) (nI 0) (nI p) (-4) k1 (-4) u2))).set 97 (ms_obj 6 (MO (nI m) (nI 0) (nI 0) (nI 0) (nI p) (-4) k1 (-4) u2)))[102]? = some (ms_ia l) := s_ne (by omega) (s_ne (by omega) (s_ne (by omega) x1))
      have a99b := hd.off (h1 := ((h1.set 97 (ms_obj 6 (MO (nI m) (nI U.length) (nI K.length) (nI 0) (nI p) (-4) k1 (-4) u2))).set 97 (ms_obj 6 (MO (nI m) (nI 0) (nI K.length) (nI 0) (nI p) (-4) k1 (-4) u2))).set 97 (ms_obj 6 (MO (nI m) (nI 0) (nI 0) (nI 0) (nI p) (-4) k1 (-4) u2))) (by rw [List.getElem?_set_ne (by omega), List.getElem?_set_ne (by omega), List.getElem?_set_ne (by omega)])
      generalize ((h1.set 97 (ms_obj 6 (MO (nI m) (nI U.length) (nI K.length) (nI 0) (nI p) (-4) k1 (-4) u2))).set 97 (ms_obj 6 (MO (nI m) (nI 0) (nI K.length) (nI 0) (nI p) (-4) k1 (-4) u2))).set 97 (ms_obj 6 (MO (nI m) (nI 0) (nI 0) (nI 0) (nI p) (-4) k1 (-4) u2)) = h2 at y4 ho2 x2 a99b ⊢
      have hl : l.length = 27 := hc.1.trans n2
      have g0 : AR h2 104 216 (rowU []) := by
        obtain ⟨l, a, b, -⟩ := a104.off (ho2.2 104 (by omega))
        exact ⟨l, a, b, fun i B hi => by simp at hi⟩
      have g1 : AR h2 105 54 (rowU []) := by
        obtain ⟨l, a, b, -⟩ := a105.off (ho2.2 105 (by omega))
        exact ⟨l, a, b, fun i B hi => by simp at hi⟩
      have g2 : AR h2 106 12 (rowL []) := by
        obtain ⟨l, a, b, -⟩ := a106.off (ho2.2 106 (by omega))
        exact ⟨l, a, b, fun i B hi => by simp at hi⟩
      refine k h2 ⟨⟨nI p, y4⟩, ⟨a98.off (ho2.2 98 (by omega)), a99b, a100.off (ho2.2 100 (by omega)), a101.off (ho2.2 101 (by omega)), ⟨l, x2, hl, ?_⟩, g0, g1, g2, a107.off (ho2.2 107 (by omega)), a108.off (ho2.2 108 (by omega)), a109.off (ho2.2 109 (by omega))⟩, a103.off (ho2.2 103 (by omega))⟩ (ho2.off (fun i hi => by omega))
      refine r3.1.cong hR.1 hR.2.1 (fun i hi => ?_)
      have := hc.2.1 i hi
      simpa using this
    · intro i hi ih h1 l x1 hc hd ho
      have hge : ¬ nI 27 ≤ nI i := nI_ge hi (by omega)
      have hg := fun k => g_obj (k := k) ((ho.2 97 (by omega)).trans z2)
      have av := a_arr x1
      have av2 := a_arr ((ho.2 101 (by omega)).trans r1)
      have hl : l.length = 27 := hc.1.trans n2
      have hcn := hc.nx (x := rr.getD i 0) (by omega) (by rw [Nat.zero_add])
      rw [Nat.zero_add] at hcn
      have kk := ih (h1.set 102 (ms_ia (l.set i (rr.getD i 0)))) _ (s_eq (lt_of_some x1)) hcn (hd.off (by rw [List.getElem?_set_ne (by omega)])) (ho.st (Or.inr rfl))
      rw [s79_28]
      simp (disch := first | assumption | exact wn2_i | exact wn2_r | exact wn2_n | exact Nat.le_of_ble_eq_true rfl | omega | (refine nI_z ?_ ?_ <;> omega)) only [s79_29, s79_31, s79_34, s79_35, s79_38, s79_39, s79_40, s79_43, s79_44, s79_45, s79_46, s79_49, wX_some, Option.toList_some, Option.toList_none, List.cons_append, List.nil_append, List.map_cons, List.map_nil, List.sum_cons, List.sum_nil, Value.category, wn2_i, wn2_r, wn2_n, Option.isSome_some, List.getElem?_cons_zero, List.getElem?_cons_succ, nI_add, nI_rem2, hge, if_false, hg, av, av2, r2, hl, iat_n]
      exact kk
  have key1 : ∀ i, i ≤ 14 → ∀ h1 l, h1[99]? = some (ms_ia l) → CPY td l rd 0 0 i → OffX h h1 (fun i => i = 99) → WP sc 79 2 [some (.ref 97), some (.int (nI i))] [] h1 Q := by
    refine loop_up ?_ ?_
    · intro h1 l x1 hc ho
      have hge : nI 14 ≤ nI 14 := nI_le (Nat.le_refl _) (by omega)
      have hl : l.length = 14 := hc.1.trans t2
      have hd : AR h1 99 14 (fun l => KA (fun i => l.getD i 0) E) := by
        have e : ∀ i, i < 14 → l.getD i 0 = rd.getD i 0 := fun i hi => by
          have := hc.2.1 i hi
          simpa using this
        have h6 := hR.1
        refine ⟨l, x1, hl, ?_, ?_, fun s hs => ⟨?_, ?_⟩⟩
        · dsimp only; rw [e 0 (by omega)]; exact d3.1
        · dsimp only; rw [e 1 (by omega)]; exact d3.2.1
        · dsimp only; rw [e (2 + s) (by omega)]; exact (d3.2.2 s hs).1
        · dsimp only; rw [e (8 + s) (by omega)]; exact (d3.2.2 s hs).2
      have kk := key2 0 (by omega) h1 nw ((ho.2 102 (by omega)).trans n1) CPY.z hd ⟨ho.1, fun i hi => ho.2 i (fun e => hi (Or.inl e))⟩
      rw [s79_2]
      simp (disch := first | assumption | exact wn2_i | exact wn2_r | exact wn2_n | exact Nat.le_of_ble_eq_true rfl | omega | (refine nI_z ?_ ?_ <;> omega)) only [s79_3, s79_5, s79_26, s79_27, wX_some, Option.toList_some, Option.toList_none, List.cons_append, List.nil_append, List.map_cons, List.map_nil, List.sum_cons, List.sum_nil, Value.category, wn2_i, wn2_r, wn2_n, Option.isSome_some, List.getElem?_cons_zero, List.getElem?_cons_succ, nI_add, nI_rem2, hge, if_true]
      exact kk
    · intro i hi ih h1 l x1 hc ho
      have hge : ¬ nI 14 ≤ nI i := nI_ge hi (by omega)
      have hg := fun k => g_obj (k := k) ((ho.2 97 (by omega)).trans z2)
      have av := a_arr x1
      have av2 := a_arr ((ho.2 100 (by omega)).trans d1)
      have hl : l.length = 14 := hc.1.trans t2
      have hcn := hc.nx (x := rd.getD i 0) (by omega) (by rw [Nat.zero_add])
      rw [Nat.zero_add] at hcn
      have kk := ih (h1.set 99 (ms_ia (l.set i (rd.getD i 0)))) _ (s_eq (lt_of_some x1)) hcn (ho.st rfl)
      rw [s79_2]
      simp (disch := first | assumption | exact wn2_i | exact wn2_r | exact wn2_n | exact Nat.le_of_ble_eq_true rfl | omega | (refine nI_z ?_ ?_ <;> omega)) only [s79_3, s79_5, s79_8, s79_9, s79_12, s79_13, s79_14, s79_17, s79_18, s79_19, s79_20, s79_23, wX_some, Option.toList_some, Option.toList_none, List.cons_append, List.nil_append, List.map_cons, List.map_nil, List.sum_cons, List.sum_nil, Value.category, wn2_i, wn2_r, wn2_n, Option.isSome_some, List.getElem?_cons_zero, List.getElem?_cons_succ, nI_add, nI_rem2, hge, if_false, hg, av, av2, d2, hl, iat_n]
      exact kk
  simp (disch := first | assumption | exact wn2_i | exact wn2_r | exact wn2_n | exact Nat.le_of_ble_eq_true rfl | omega | (refine nI_z ?_ ?_ <;> omega)) only [s79_0, s79_1, wX_some, Option.toList_some, Option.toList_none, List.cons_append, List.nil_append, List.map_cons, List.map_nil, List.sum_cons, List.sum_nil, Value.category, wn2_i, wn2_r, wn2_n, Option.isSome_some, List.getElem?_cons_zero, List.getElem?_cons_succ, nI_add, nI_rem2]
  exact key1 0 (by omega) h td t1 CPY.z OffX.rf
theorem m_lay (hM : MIS h S) (hg : GIS S) (k : ∀ h1, MIS h1 (op_lay S).2 → Off h h1 97 13 → Q (some (.int (op_lay S).1)) h1) : WP sc 88 0 [some (.ref 97)] [] h Q := by
  obtain ⟨⟨T, m⟩, A, U, K, L⟩ := S
  obtain ⟨k1, u2, hM⟩ := hM
  have hg : GI m A U K L := hg
  have hM : MJ h (-4) k1 (-4) u2 T m A U K L := hM
  have hm200 : m ≤ 200 := hg.1
  obtain ⟨_, _, _, _, _, _, hI, -⟩ := hM.facts
  unfold op_lay at k
  dsimp only at k
  have hrg := rdF_rg (T := T) (m := m) 200 emA 0 RG.em
  have hlt : ∀ v, (rdF T m 200 emA 0).1 = some v → v < 2 ^ 31 := fun v hv => by have := rdF_lt 200 emA 0 v hv; omega
  simp (disch := first | assumption | exact wn2_i | exact wn2_r | exact wn2_n | exact Nat.le_of_ble_eq_true rfl | omega | (refine nI_z ?_ ?_ <;> omega)) only [s88_0, s88_1, wX_some, Option.toList_some, Option.toList_none, List.cons_append, List.nil_append, List.map_cons, List.map_nil, List.sum_cons, List.sum_nil, Value.category, wn2_i, wn2_r, wn2_n, Option.isSome_some, List.getElem?_cons_zero, List.getElem?_cons_succ, nI_add, nI_rem2]
  refine readAll_wp hM hm200 (fun h1 q hK1 ho1 => ?_)
  revert hK1 hrg hlt k
  generalize rdF T m 200 emA 0 = R
  intro k hrg hlt hK1
  obtain ⟨o, E⟩ := R
  dsimp only at k hrg hlt hK1
  have hK1' := hK1
  obtain ⟨hM1, z2, ⟨rd, d1, d2, d3⟩, _⟩ := hK1'
  have hg1 := fun k => g_obj (k := k) z2
  have hI1 : (ms_is h1 97 6).isSome = true := by rw [i_obj z2]; rfl
  have av := a_arr d1
  have v0 : rd.getD 0 0 = nI (E 7 0) := d3.1
  have v1 : rd.getD 1 0 = nI (E 7 1) := d3.2.1
  obtain ⟨r1, r2, r3, r4, r5, r6, r7⟩ := hrg
  have hfo := fO_eq hlt
  by_cases hn : o = none ∧ 2 ≤ E 7 0 ∧ 1 ≤ E 7 1
  · obtain ⟨n1, n2, n3⟩ := hn
    rw [if_pos ⟨n1, n2, n3⟩] at k
    have e1 : (fO o = -4) ↔ True := ⟨fun _ => trivial, fun _ => hfo.mpr n1⟩
    have e2 : ¬ nI (E 7 0) < nI 2 := nI_nlt n2 (by omega)
    have e3 : (nI (E 7 1) = 0) ↔ False := ⟨fun q => by have := (nI_eq0 (by omega)).mp q; omega, False.elim⟩
    simp (disch := first | assumption | exact wn2_i | exact wn2_r | exact wn2_n | exact Nat.le_of_ble_eq_true rfl | omega | (refine nI_z ?_ ?_ <;> omega)) only [s88_4, s88_6, s88_9, s88_10, s88_13, s88_14, s88_15, s88_16, s88_19, s88_20, s88_23, s88_24, s88_25, s88_28, s88_30, s88_31, s88_32, wX_some, Option.toList_some, Option.toList_none, List.cons_append, List.nil_append, List.map_cons, List.map_nil, List.sum_cons, List.sum_nil, Value.category, wn2_i, wn2_r, wn2_n, Option.isSome_some, List.getElem?_cons_zero, List.getElem?_cons_succ, nI_add, nI_rem2, e1, e2, e3, if_true, if_false, hg1, av, d2, iat_n, v0, v1]
    refine begin_wp hK1 ⟨r1, r2, r3, r4, r5, r6, r7⟩ (fun h2 hM2 ho2 => ?_)
    obtain ⟨sp, td, nw, sd, hgo, his, hI, at1, an, as1, lt1, ln, ls1, ⟨q1, q2, q3⟩, hR, b97, b102, b103⟩ := hM2.facts
    dsimp only at q1
    simp (disch := first | assumption | exact wn2_i | exact wn2_r | exact wn2_n | exact Nat.le_of_ble_eq_true rfl | omega | (refine nI_z ?_ ?_ <;> omega)) only [s88_35, s88_36, s88_39, s88_40, s88_41, wX_some, Option.toList_some, Option.toList_none, List.cons_append, List.nil_append, List.map_cons, List.map_nil, List.sum_cons, List.sum_nil, Value.category, wn2_i, wn2_r, wn2_n, Option.isSome_some, List.getElem?_cons_zero, List.getElem?_cons_succ, nI_add, nI_rem2, hgo, at1, lt1, iat_n, q1]
    exact k h2 ⟨k1, u2, hM2⟩ (ho1.tr ho2)
  · rw [if_neg hn] at k
    have kk := k h1 ⟨k1, u2, hM1⟩ ho1
    by_cases e1 : fO o = -4
    · have n1 := hfo.mp e1
      have e1' : (fO o = -4) ↔ True := ⟨fun _ => trivial, fun _ => e1⟩
      by_cases n2 : E 7 0 < 2
      · have e2 : nI (E 7 0) < nI 2 := nI_lt n2 (by omega)
        simp (disch := first | assumption | exact wn2_i | exact wn2_r | exact wn2_n | exact Nat.le_of_ble_eq_true rfl | omega | (refine nI_z ?_ ?_ <;> omega)) only [s88_4, s88_6, s88_9, s88_10, s88_13, s88_14, s88_15, s88_16, s88_19, s88_20, s88_23, s88_24, s88_25, s88_28, s88_30, wX_some, Option.toList_some, Option.toList_none, List.cons_append, List.nil_append, List.map_cons, List.map_nil, List.sum_cons, List.sum_nil, Value.category, wn2_i, wn2_r, wn2_n, Option.isSome_some, List.getElem?_cons_zero, List.getElem?_cons_succ, nI_add, nI_rem2, e1', e2, if_true, hg1, av, d2, iat_n, v0]
        exact kk
      · have e2 : ¬ nI (E 7 0) < nI 2 := nI_nlt (by omega) (by omega)
        have n3 : E 7 1 = 0 := by
          by_cases h3 : 1 ≤ E 7 1
          · exact absurd ⟨n1, by omega, h3⟩ hn
          · omega
        have e3 : (nI (E 7 1) = 0) ↔ True := ⟨fun _ => trivial, fun _ => (nI_eq0 (by omega)).mpr n3⟩
        simp (disch := first | assumption | exact wn2_i | exact wn2_r | exact wn2_n | exact Nat.le_of_ble_eq_true rfl | omega | (refine nI_z ?_ ?_ <;> omega)) only [s88_4, s88_6, s88_9, s88_10, s88_13, s88_14, s88_15, s88_16, s88_19, s88_20, s88_23, s88_24, s88_25, s88_28, s88_30, wX_some, Option.toList_some, Option.toList_none, List.cons_append, List.nil_append, List.map_cons, List.map_nil, List.sum_cons, List.sum_nil, Value.category, wn2_i, wn2_r, wn2_n, Option.isSome_some, List.getElem?_cons_zero, List.getElem?_cons_succ, nI_add, nI_rem2, e1', e2, e3, if_true, if_false, hg1, av, d2, iat_n, v0, v1]
        exact kk
    · simp (disch := first | assumption | exact wn2_i | exact wn2_r | exact wn2_n | exact Nat.le_of_ble_eq_true rfl | omega | (refine nI_z ?_ ?_ <;> omega)) only [s88_4, s88_6, s88_9, s88_10, s88_13, s88_14, s88_15, s88_16, s88_19, s88_20, s88_23, s88_24, s88_25, s88_28, s88_30, wX_some, Option.toList_some, Option.toList_none, List.cons_append, List.nil_append, List.map_cons, List.map_nil, List.sum_cons, List.sum_nil, Value.category, wn2_i, wn2_r, wn2_n, Option.isSome_some, List.getElem?_cons_zero, List.getElem?_cons_succ, nI_add, nI_rem2, e1, if_false]
      exact kk
end M76

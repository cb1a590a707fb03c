-- the model's calls: the next order
def OR (h : List ms_C) (c w : Nat) (t : List Nat) : Prop := AR h c 6 (fun l => ∀ i, i < w → l.getD i 0 = nI (t.getD i 0))
theorem gsetN {l : List Nat} {i j : Nat} {x : Nat} (hi : i < l.length) : (l.set i x).getD j 0 = if i = j then x else l.getD j 0 := by
  simp only [List.getD_eq_getElem?_getD, List.getElem?_set]
  by_cases h : i = j
  · subst h; simp [hi]
  · simp [h]
section M72
variable {sc : List Int32} {h h1 : List ms_C} {Q : Option Value → List ms_C → Prop} {o1 k1 o2 u2 : Int32} {T : Nat → Nat} {m : Nat} {A B : AS} {U K : List AS} {L : List (Nat × Nat)} {S : GS} {t : List Nat}
theorem MJ.c108 (hM : MJ h o1 k1 o2 u2 T m A U K L) {l : List Int32} (hl : l.length = 6) : MJ (h.set 108 (ms_ia l)) o1 k1 o2 u2 T m A U K L := by
  obtain ⟨⟨sp, z1⟩, ⟨a98, a99, a100, a101, a102, a104, a105, a106, a107, a108, a109⟩, a103⟩ := hM
  have hx : OffX h (h.set 108 (ms_ia l)) (fun i => i = 108) := OffX.rf.st rfl
  obtain ⟨l', x1, -⟩ := a108
  exact ⟨⟨sp, s_ne (by omega) z1⟩, ⟨a98.off (hx.2 98 (by omega)), a99.off (hx.2 99 (by omega)), a100.off (hx.2 100 (by omega)), a101.off (hx.2 101 (by omega)), a102.off (hx.2 102 (by omega)), a104.off (hx.2 104 (by omega)), a105.off (hx.2 105 (by omega)), a106.off (hx.2 106 (by omega)), a107.off (hx.2 107 (by omega)), ⟨l, s_eq (lt_of_some x1), hl, trivial⟩, a109.off (hx.2 109 (by omega))⟩, a103.off (hx.2 103 (by omega))⟩
theorem MJ.c109 (hM : MJ h o1 k1 o2 u2 T m A U K L) {l : List Int32} (hl : l.length = 6) : MJ (h.set 109 (ms_ia l)) o1 k1 o2 u2 T m A U K L := by
  obtain ⟨⟨sp, z1⟩, ⟨a98, a99, a100, a101, a102, a104, a105, a106, a107, a108, a109⟩, a103⟩ := hM
  have hx : OffX h (h.set 109 (ms_ia l)) (fun i => i = 109) := OffX.rf.st rfl
  obtain ⟨l', x1, -⟩ := a109
  exact ⟨⟨sp, s_ne (by omega) z1⟩, ⟨a98.off (hx.2 98 (by omega)), a99.off (hx.2 99 (by omega)), a100.off (hx.2 100 (by omega)), a101.off (hx.2 101 (by omega)), a102.off (hx.2 102 (by omega)), a104.off (hx.2 104 (by omega)), a105.off (hx.2 105 (by omega)), a106.off (hx.2 106 (by omega)), a107.off (hx.2 107 (by omega)), a108.off (hx.2 108 (by omega)), ⟨l, s_eq (lt_of_some x1), hl, trivial⟩⟩, a103.off (hx.2 103 (by omega))⟩
theorem mswap_wp (hM : MJ h o1 k1 o2 u2 T m A U K L) {w : Nat} (hO : OR h 108 w t) (ht : TB t) (hw : w ≤ 6) {i j : Nat} (hi : i < w) (hj : j < w) {l3 : Option Value} (k : ∀ h1, MJ h1 o1 k1 o2 u2 T m A U K L → OR h1 108 w (swp t i j) → Off h h1 108 1 → Q none h1) : WP sc 115 0 [some (.ref 97), some (.int (nI i)), some (.int (nI j)), l3] [] h Q := by
  obtain ⟨l, x1, x2, x3⟩ := hO
  obtain ⟨sp, z1, -⟩ := hM.obj
  have hg := fun k => g_obj (k := k) z1
  have av := a_arr x1
  have vi := x3 i hi
  have vj := x3 j hj
  simp (disch := first | assumption | exact wn2_i | exact wn2_r | exact wn2_n | exact Nat.le_of_ble_eq_true rfl | omega | (refine nI_z ?_ ?_ <;> omega)) only [s115_0, s115_1, s115_4, s115_5, s115_6, s115_7, s115_8, s115_11, s115_12, s115_13, s115_16, s115_17, s115_18, wX_some, Option.toList_some, Option.toList_none, List.cons_append, List.nil_append, List.map_cons, List.map_nil, List.sum_cons, List.sum_nil, Value.category, wn2_i, wn2_r, wn2_n, Option.isSome_some, List.getElem?_cons_zero, List.getElem?_cons_succ, nI_add, nI_rem2, hg, av, x2, iat_n, vi, vj]
  have hl1 : (l.set i (nI (t.getD j 0))).length = 6 := by rw [List.length_set]; exact x2
  have hM1 : MJ (h.set 108 (ms_ia (l.set i (nI (t.getD j 0))))) o1 k1 o2 u2 T m A U K L := hM.c108 hl1
  have y1 : (h.set 108 (ms_ia (l.set i (nI (t.getD j 0)))))[108]? = some (ms_ia (l.set i (nI (t.getD j 0)))) := s_eq (lt_of_some x1)
  have ho1 : Off h (h.set 108 (ms_ia (l.set i (nI (t.getD j 0))))) 108 1 := Off.rf.st (by omega) (by omega)
  generalize h.set 108 (ms_ia (l.set i (nI (t.getD j 0)))) = h1 at hM1 y1 ho1 ⊢
  obtain ⟨sp, z1, -⟩ := hM1.obj
  have hg := fun k => g_obj (k := k) z1
  have av := a_arr y1
  simp (disch := first | assumption | exact wn2_i | exact wn2_r | exact wn2_n | exact Nat.le_of_ble_eq_true rfl | omega | (refine nI_z ?_ ?_ <;> omega)) only [s115_19, s115_20, s115_23, s115_24, s115_25, s115_26, wX_some, Option.toList_some, Option.toList_none, List.cons_append, List.nil_append, List.map_cons, List.map_nil, List.sum_cons, List.sum_nil, Value.category, wn2_i, wn2_r, wn2_n, Option.isSome_some, List.getElem?_cons_zero, List.getElem?_cons_succ, nI_add, nI_rem2, hg, av, hl1, iat_n]
  have hl2 : ((l.set i (nI (t.getD j 0))).set j (nI (t.getD i 0))).length = 6 := by rw [List.length_set]; exact hl1
  refine k _ (hM1.c108 hl2) ⟨_, s_eq (lt_of_some y1), hl2, fun x hx => ?_⟩ (ho1.st (by omega) (by omega))
  unfold swp
  rw [gset (by omega), gset (by omega), gsetN (by rw [List.length_set, ht.1]; omega), gsetN (by rw [ht.1]; omega)]
  split
  · rfl
  · split
    · rfl
    · exact x3 x hx
theorem nextOrder_wp (hM : MJ h o1 k1 o2 u2 T m A U K L) {w : Nat} (hw9 : w = A 7 1) (hO : OR h 108 w t) (ht : TB t) (hw : 1 ≤ w ∧ w ≤ 6) {l1 l2 l3 l4 l5 : Option Value} (k0 : adv w t = none → Q (some (.int (nI 0))) h) (k1' : ∀ h1 t', adv w t = some t' → MJ h1 o1 k1 o2 u2 T m A U K L → OR h1 108 w t' → Off h h1 108 1 → Q (some (.int (nI 1))) h1) : WP sc 114 0 [some (.ref 97), l1, l2, l3, l4, l5] [] h Q := by
  have hO0 := hO
  obtain ⟨l, x1, x2, x3⟩ := hO
  obtain ⟨sp, td, nw, sd, hg, his, hI, at1, an, as1, lt1, ln, ls1, ⟨q1, q2, q3⟩, hR, b97, b102, b103⟩ := hM.facts
  dsimp only at q2
  rw [← hw9] at q2
  have a1 := a_arr x1
  have bnd : ∀ i, t.getD i 0 < 2 ^ 31 := fun i => by have := ht.2 i; omega
  have z0 : (nI 0 = 0 ∨ nI 0 = 1) ↔ True := ⟨fun _ => trivial, fun _ => Or.inl rfl⟩
  have z1 : (nI 1 = 0 ∨ nI 1 = 1) ↔ True := ⟨fun _ => trivial, fun _ => Or.inr rfl⟩
  -- behind the pivot
  have part3 : ∀ p q, p < w - 1 → q ≤ w - 1 → adv w t = some (rvs 6 (swp t p q) (p + 1) (w - 1)) → WP sc 114 69 [some (.ref 97), some (.int (nI w)), some (.int (nI p)), some (.int (nI q)), l4, l5] [] h Q := by
    intro p q hpw hqw hadv
    simp (disch := first | assumption | exact wn2_i | exact wn2_r | exact wn2_n | exact Nat.le_of_ble_eq_true rfl | omega | (refine nI_z ?_ ?_ <;> omega)) only [s114_69, s114_70, s114_71, s114_72, wX_some, Option.toList_some, Option.toList_none, List.cons_append, List.nil_append, List.map_cons, List.map_nil, List.sum_cons, List.sum_nil, Value.category, wn2_i, wn2_r, wn2_n, Option.isSome_some, List.getElem?_cons_zero, List.getElem?_cons_succ, nI_add, nI_rem2]
    refine mswap_wp hM hO0 ht hw.2 (by omega) (by omega) (fun h1 hM1 hO1 ho1 => ?_)
    have e2 : nI w - nI 1 = nI (w - 1) := nI_sub (by omega)
    simp (disch := first | assumption | exact wn2_i | exact wn2_r | exact wn2_n | exact Nat.le_of_ble_eq_true rfl | omega | (refine nI_z ?_ ?_ <;> omega)) only [s114_75, s114_76, s114_77, s114_78, s114_80, s114_81, s114_82, s114_83, wX_some, Option.toList_some, Option.toList_none, List.cons_append, List.nil_append, List.map_cons, List.map_nil, List.sum_cons, List.sum_nil, Value.category, wn2_i, wn2_r, wn2_n, Option.isSome_some, List.getElem?_cons_zero, List.getElem?_cons_succ, nI_add, nI_rem2, e2]
    have key : ∀ f lo hi t1 h1, hi ≤ w - 1 → lo ≤ 6 → hi < lo + 2 * f → TB t1 → MJ h1 o1 k1 o2 u2 T m A U K L → OR h1 108 w t1 → Off h h1 108 1 → adv w t = some (rvs f t1 lo hi) → WP sc 114 85 [some (.ref 97), some (.int (nI w)), some (.int (nI p)), some (.int (nI q)), some (.int (nI lo)), some (.int (nI hi))] [] h1 Q := by
      intro f
      induction f with
      | zero =>
        intro lo hi t1 h1 y1 y2 y3 ht1 hM1 hO1 ho1 hadv
        have hge : nI hi ≤ nI lo := nI_le (by omega) (by omega)
        rw [s114_85]
        simp (disch := first | assumption | exact wn2_i | exact wn2_r | exact wn2_n | exact Nat.le_of_ble_eq_true rfl | omega | (refine nI_z ?_ ?_ <;> omega)) only [s114_87, s114_89, s114_109, s114_110, wX_some, Option.toList_some, Option.toList_none, List.cons_append, List.nil_append, List.map_cons, List.map_nil, List.sum_cons, List.sum_nil, Value.category, wn2_i, wn2_r, wn2_n, Option.isSome_some, List.getElem?_cons_zero, List.getElem?_cons_succ, nI_add, nI_rem2, hge, if_true, z1, true_and]
        exact k1' _ _ hadv hM1 hO1 ho1
      | succ f ih =>
        intro lo hi t1 h1 y1 y2 y3 ht1 hM1 hO1 ho1 hadv
        by_cases hlt : lo < hi
        · have hge : ¬ nI hi ≤ nI lo := nI_ge hlt (by omega)
          obtain ⟨_, _, _, _, _, _, hI, -⟩ := hM1.facts
          rw [s114_85]
          simp (disch := first | assumption | exact wn2_i | exact wn2_r | exact wn2_n | exact Nat.le_of_ble_eq_true rfl | omega | (refine nI_z ?_ ?_ <;> omega)) only [s114_87, s114_89, s114_92, s114_93, s114_95, s114_97, wX_some, Option.toList_some, Option.toList_none, List.cons_append, List.nil_append, List.map_cons, List.map_nil, List.sum_cons, List.sum_nil, Value.category, wn2_i, wn2_r, wn2_n, Option.isSome_some, List.getElem?_cons_zero, List.getElem?_cons_succ, nI_add, nI_rem2, hge, if_false]
          refine mswap_wp hM1 hO1 ht1 hw.2 (by omega) (by omega) (fun h2 hM2 hO2 ho2 => ?_)
          have e3 : nI hi + -1 = nI (hi - 1) := sb_m1 (by omega)
          simp (disch := first | assumption | exact wn2_i | exact wn2_r | exact wn2_n | exact Nat.le_of_ble_eq_true rfl | omega | (refine nI_z ?_ ?_ <;> omega)) only [s114_100, s114_103, s114_106, wX_some, Option.toList_some, Option.toList_none, List.cons_append, List.nil_append, List.map_cons, List.map_nil, List.sum_cons, List.sum_nil, Value.category, wn2_i, wn2_r, wn2_n, Option.isSome_some, List.getElem?_cons_zero, List.getElem?_cons_succ, nI_add, nI_rem2, e3]
          refine ih (lo + 1) (hi - 1) _ _ (by omega) (by omega) (by omega) (swp_tb ht1) hM2 hO2 (ho1.tr ho2) ?_
          rw [hadv, rvs, if_pos hlt]
        · have hge : nI hi ≤ nI lo := nI_le (by omega) (by omega)
          rw [s114_85]
          simp (disch := first | assumption | exact wn2_i | exact wn2_r | exact wn2_n | exact Nat.le_of_ble_eq_true rfl | omega | (refine nI_z ?_ ?_ <;> omega)) only [s114_87, s114_89, s114_109, s114_110, wX_some, Option.toList_some, Option.toList_none, List.cons_append, List.nil_append, List.map_cons, List.map_nil, List.sum_cons, List.sum_nil, Value.category, wn2_i, wn2_r, wn2_n, Option.isSome_some, List.getElem?_cons_zero, List.getElem?_cons_succ, nI_add, nI_rem2, hge, if_true, z1, true_and]
          refine k1' _ _ ?_ hM1 hO1 ho1
          rw [hadv, rvs, if_neg hlt]
    exact key 6 (p + 1) (w - 1) _ _ (by omega) (by omega) (by omega) (swp_tb ht) hM1 hO1 ho1 hadv
  have part2 : ∀ p, p < w - 1 → pvt t (w - 1) = some p → ¬ t.getD (p + 1) 0 < t.getD p 0 → ∀ j, j ≤ w - 1 → p < j → nxt t p j = nxt t p (w - 1) → WP sc 114 48 [some (.ref 97), some (.int (nI w)), some (.int (nI p)), some (.int (nI j)), l4, l5] [] h Q := by
    intro p hpw hpv hpn j
    have hadv : adv w t = some (rvs 6 (swp t p (nxt t p (w - 1))) (p + 1) (w - 1)) := by unfold adv; rw [hpv]
    induction j with
    | zero => intro _ h9 _; omega
    | succ j ih =>
      intro hj hpj hn
      have vj := x3 (j + 1) (by omega)
      have vp := x3 p (by omega)
      by_cases hc2 : t.getD (j + 1) 0 < t.getD p 0
      · have n1 : ¬ nI (t.getD p 0) ≤ nI (t.getD (j + 1) 0) := nI_ge hc2 (bnd _)
        have hn2 : nxt t p j = nxt t p (w - 1) := by rw [← hn, nxt, if_pos ⟨by omega, hc2⟩]
        have e3 : nI (j + 1) + -1 = nI j := sb_m1 (by omega)
        have hpj2 : p < j := by
          by_cases e : p = j
          · subst e; exact absurd hc2 hpn
          · omega
        rw [s114_48]
        simp (disch := first | assumption | exact wn2_i | exact wn2_r | exact wn2_n | exact Nat.le_of_ble_eq_true rfl | omega | (refine nI_z ?_ ?_ <;> omega)) only [s114_49, s114_52, s114_53, s114_54, s114_55, s114_58, s114_59, s114_60, s114_63, s114_66, wX_some, Option.toList_some, Option.toList_none, List.cons_append, List.nil_append, List.map_cons, List.map_nil, List.sum_cons, List.sum_nil, Value.category, wn2_i, wn2_r, wn2_n, Option.isSome_some, List.getElem?_cons_zero, List.getElem?_cons_succ, nI_add, nI_rem2, hg, a1, x2, iat_n, vj, vp, n1, if_false, e3]
        exact ih (by omega) hpj2 hn2
      · have n1 : nI (t.getD p 0) ≤ nI (t.getD (j + 1) 0) := nI_le (by omega) (bnd _)
        have hn2 : nxt t p (w - 1) = j + 1 := by rw [← hn, nxt, if_neg (fun q => hc2 q.2)]
        rw [s114_48]
        simp (disch := first | assumption | exact wn2_i | exact wn2_r | exact wn2_n | exact Nat.le_of_ble_eq_true rfl | omega | (refine nI_z ?_ ?_ <;> omega)) only [s114_49, s114_52, s114_53, s114_54, s114_55, s114_58, s114_59, s114_60, s114_63, s114_66, wX_some, Option.toList_some, Option.toList_none, List.cons_append, List.nil_append, List.map_cons, List.map_nil, List.sum_cons, List.sum_nil, Value.category, wn2_i, wn2_r, wn2_n, Option.isSome_some, List.getElem?_cons_zero, List.getElem?_cons_succ, nI_add, nI_rem2, hg, a1, x2, iat_n, vj, vp, n1, if_true]
        exact part3 p (j + 1) hpw hj (by rw [hadv, hn2])
  have part1 : ∀ k, k ≤ w - 1 → pvt t k = pvt t (w - 1) → ∀ x : Int32, x = (match k with | 0 => -1 | i + 1 => nI i) → WP sc 114 11 [some (.ref 97), some (.int (nI w)), some (.int x), l3, l4, l5] [] h Q := by
    intro k
    induction k with
    | zero =>
      intro _ hn x hx
      subst hx
      have n1 : (-1 : Int32) < 0 := by decide
      have n2 : ¬ (0 : Int32) ≤ -1 := by decide
      rw [s114_11]
      simp (disch := first | assumption | exact wn2_i | exact wn2_r | exact wn2_n | exact Nat.le_of_ble_eq_true rfl | omega | (refine nI_z ?_ ?_ <;> omega)) only [s114_12, s114_38, s114_39, s114_42, s114_43, wX_some, Option.toList_some, Option.toList_none, List.cons_append, List.nil_append, List.map_cons, List.map_nil, List.sum_cons, List.sum_nil, Value.category, wn2_i, wn2_r, wn2_n, Option.isSome_some, List.getElem?_cons_zero, List.getElem?_cons_succ, nI_add, nI_rem2, n1, n2, if_true, if_false, z0, true_and]
      refine k0 ?_
      unfold adv
      rw [← hn]
      rfl
    | succ k ih =>
      intro hk hn x hx
      have hx : x = nI k := hx
      subst hx
      have n1 : ¬ nI k < 0 := nI_pos (by omega)
      have n2 : 0 ≤ nI k := nI_pos' (by omega)
      have va := x3 k (by omega)
      have vb := x3 (k + 1) (by omega)
      by_cases hc : t.getD (k + 1) 0 < t.getD k 0
      · have n3 : ¬ nI (t.getD k 0) ≤ nI (t.getD (k + 1) 0) := nI_ge hc (bnd _)
        have hn2 : pvt t k = pvt t (w - 1) := by rw [← hn, pvt, if_pos hc]
        rw [s114_11]
        simp (disch := first | assumption | exact wn2_i | exact wn2_r | exact wn2_n | exact Nat.le_of_ble_eq_true rfl | omega | (refine nI_z ?_ ?_ <;> omega)) only [s114_12, s114_15, s114_16, s114_19, s114_20, s114_21, s114_22, s114_25, s114_26, s114_27, s114_28, s114_29, s114_32, s114_35, wX_some, Option.toList_some, Option.toList_none, List.cons_append, List.nil_append, List.map_cons, List.map_nil, List.sum_cons, List.sum_nil, Value.category, wn2_i, wn2_r, wn2_n, Option.isSome_some, List.getElem?_cons_zero, List.getElem?_cons_succ, nI_add, nI_rem2, n1, if_false, hg, a1, x2, iat_n, va, vb, n3]
        refine ih (by omega) hn2 _ ?_
        cases k with
        | zero => rfl
        | succ k => exact sb_m1 (by omega)
      · have n3 : nI (t.getD k 0) ≤ nI (t.getD (k + 1) 0) := nI_le (by omega) (bnd _)
        have hpv : pvt t (w - 1) = some k := by rw [← hn, pvt, if_neg hc]
        have e2 : nI w - nI 1 = nI (w - 1) := nI_sub (by omega)
        rw [s114_11]
        simp (disch := first | assumption | exact wn2_i | exact wn2_r | exact wn2_n | exact Nat.le_of_ble_eq_true rfl | omega | (refine nI_z ?_ ?_ <;> omega)) only [s114_12, s114_15, s114_16, s114_19, s114_20, s114_21, s114_22, s114_25, s114_26, s114_27, s114_28, s114_29, s114_32, s114_35, s114_38, s114_39, s114_42, s114_43, s114_44, s114_45, s114_46, s114_47, wX_some, Option.toList_some, Option.toList_none, List.cons_append, List.nil_append, List.map_cons, List.map_nil, List.sum_cons, List.sum_nil, Value.category, wn2_i, wn2_r, wn2_n, Option.isSome_some, List.getElem?_cons_zero, List.getElem?_cons_succ, nI_add, nI_rem2, n1, n2, if_true, if_false, hg, a1, x2, iat_n, va, vb, n3, e2]
        exact part2 k (by omega) hpv hc (w - 1) (Nat.le_refl _) (by omega) rfl
  simp (disch := first | assumption | exact wn2_i | exact wn2_r | exact wn2_n | exact Nat.le_of_ble_eq_true rfl | omega | (refine nI_z ?_ ?_ <;> omega)) only [s114_0, s114_1, s114_4, s114_5, s114_6, s114_7, s114_8, s114_9, s114_10, wX_some, Option.toList_some, Option.toList_none, List.cons_append, List.nil_append, List.map_cons, List.map_nil, List.sum_cons, List.sum_nil, Value.category, wn2_i, wn2_r, wn2_n, Option.isSome_some, List.getElem?_cons_zero, List.getElem?_cons_succ, nI_add, nI_rem2, hg, at1, lt1, iat_n, q2]
  refine part1 (w - 1) (Nat.le_refl _) rfl _ ?_
  rcases (by omega : w = 1 ∨ 2 ≤ w) with h9 | h9
  · rw [h9]; rfl
  · rw [nI_sub (by omega)]
    have : w - 1 = (w - 2) + 1 := by omega
    rw [this]
end M72
def fin (w : Nat) : Nat → List Nat → Bool
  | 0, t => (adv w t).isNone
  | f + 1, t => match adv w t with
    | none => true
    | some t' => fin w f t'
theorem fin_all : ∀ w, w < 6 → fin (w + 1) 719 [0, 1, 2, 3, 4, 5] = true := by decide +kernel

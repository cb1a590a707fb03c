-- the model reads the text: items
section M75
variable {sc : List Int32} {h h1 : List ms_C} {Q : Option Value → List ms_C → Prop} {k1 u2 : Int32} {T : Nat → Nat} {m : Nat} {A E : AS} {U K : List AS} {L : List (Nat × Nat)} {S : GS} {p : Nat}
theorem numN.z {l : List Int32} {vs : Nat → Nat} : numN 0 vs l := fun i hi => absurd hi (Nat.not_lt_zero i)
theorem AR.z {c n : Nat} {q : List Int32 → Prop} {vs : Nat → Nat} (ha : AR h c n q) : AR h c n (numN 0 vs) := by
  obtain ⟨l, a, b, -⟩ := ha
  exact ⟨l, a, b, numN.z⟩
theorem num_ret {mn : Nat} {l3 l4 : Option Value} : WP sc 87 2 [some (.ref 97), some (.int (nI mn)), some (.int (nI mn)), l3, l4] [] h Q ↔ Q (some (.int (nI 1))) h := by
  have n1 : nI mn ≤ nI mn := Int32.le_refl _
  have b11' : (nI 1 = 0 ∨ nI 1 = 1) ↔ True := ⟨fun _ => trivial, fun _ => Or.inr rfl⟩
  simp (disch := first | assumption | exact wn2_i | exact wn2_r | exact wn2_n | exact Nat.le_of_ble_eq_true rfl | omega | (refine nI_z ?_ ?_ <;> omega)) only [s87_2, s87_3, s87_4, s87_136, s87_137, wX_some, Option.toList_some, Option.toList_none, List.cons_append, List.nil_append, List.map_cons, List.map_nil, List.sum_cons, List.sum_nil, Value.category, wn2_i, wn2_r, wn2_n, Option.isSome_some, List.getElem?_cons_zero, List.getElem?_cons_succ, nI_add, nI_rem2, n1, if_true, b11', true_and]
theorem numbers1 (hK : MK h k1 u2 T m A U K L p E) (hm : m ≤ 200) (hp : p ≤ 800) {l2 l3 l4 : Option Value}
    (kn : pN T m 59 p = none → ∀ h1 q, MK h1 k1 u2 T m A U K L q E → OffX h h1 (fun i => i = 97 ∨ i = 107) → Q (some (.int (nI 0))) h1)
    (ky : ∀ v q, pN T m 59 p = some (v, q) → ∀ h1, MK h1 k1 u2 T m A U K L q E → AR h1 107 3 (fun l => l.getD 0 0 = nI v) → OffX h h1 (fun i => i = 97 ∨ i = 107) → Q (some (.int (nI 1))) h1) : WP sc 87 0 [some (.ref 97), some (.int (nI 1)), l2, l3, l4] [] h Q := by
  obtain ⟨_, ⟨a98, a99, a100, a101, a102, a104, a105, a106, a107, a108, a109⟩, _⟩ := hK.1
  simp (disch := first | assumption | exact wn2_i | exact wn2_r | exact wn2_n | exact Nat.le_of_ble_eq_true rfl | omega | (refine nI_z ?_ ?_ <;> omega)) only [s87_0, s87_1, wX_some, Option.toList_some, Option.toList_none, List.cons_append, List.nil_append, List.map_cons, List.map_nil, List.sum_cons, List.sum_nil, Value.category, wn2_i, wn2_r, wn2_n, Option.isSome_some, List.getElem?_cons_zero, List.getElem?_cons_succ, nI_add, nI_rem2]
  refine num_wp (mn := 1) (x := 0) (vs := fun _ => 0) hK hm hp (by omega) (by omega) a107.z (fun e => kn e) (fun v q e h1 l3 l4 hK1 hN1 ho1 => ?_)
  refine num_ret.mpr (ky v q e h1 hK1 ?_ ho1)
  obtain ⟨l, x1, x2, x3⟩ := hN1
  exact ⟨l, x1, x2, x3 0 (by omega)⟩
theorem numbers3 (hK : MK h k1 u2 T m A U K L p E) (hm : m ≤ 200) (hp : p ≤ 800) {l2 l3 l4 : Option Value}
    (kn : (∀ k q1 w q2 u q3, ¬ (pN T m 44 p = some (k, q1) ∧ pN T m 44 q1 = some (w, q2) ∧ pN T m 59 q2 = some (u, q3))) → ∀ h1 q, MK h1 k1 u2 T m A U K L q E → OffX h h1 (fun i => i = 97 ∨ i = 107) → Q (some (.int (nI 0))) h1)
    (ky : ∀ k q1 w q2 u q3, pN T m 44 p = some (k, q1) → pN T m 44 q1 = some (w, q2) → pN T m 59 q2 = some (u, q3) → ∀ h1, MK h1 k1 u2 T m A U K L q3 E → AR h1 107 3 (fun l => l.getD 0 0 = nI k ∧ l.getD 1 0 = nI w ∧ l.getD 2 0 = nI u) → OffX h h1 (fun i => i = 97 ∨ i = 107) → Q (some (.int (nI 1))) h1) : WP sc 87 0 [some (.ref 97), some (.int (nI 3)), l2, l3, l4] [] h Q := by
  obtain ⟨_, ⟨a98, a99, a100, a101, a102, a104, a105, a106, a107, a108, a109⟩, _⟩ := hK.1
  simp (disch := first | assumption | exact wn2_i | exact wn2_r | exact wn2_n | exact Nat.le_of_ble_eq_true rfl | omega | (refine nI_z ?_ ?_ <;> omega)) only [s87_0, s87_1, wX_some, Option.toList_some, Option.toList_none, List.cons_append, List.nil_append, List.map_cons, List.map_nil, List.sum_cons, List.sum_nil, Value.category, wn2_i, wn2_r, wn2_n, Option.isSome_some, List.getElem?_cons_zero, List.getElem?_cons_succ, nI_add, nI_rem2]
  refine num_wp (mn := 3) (x := 0) (vs := fun _ => 0) hK hm hp (by omega) (by omega) a107.z (fun e => kn (fun k q1 w q2 u q3 z => by rw [show pN T m 44 p = none from e] at z; cases z.1)) (fun v q e h1 l3 l4 hK1 hN1 ho1 => ?_)
  have e : pN T m 44 p = some (v, q) := e
  have hq := pN_ok (by omega) e
  refine num_wp (mn := 3) (x := 1) hK1 hm (by omega) (by omega) (by omega) hN1 (fun e2 h2 q2 hK2 ho2 => kn (fun k q1 w q2 u q3 z => by
    rw [e] at z
    have z1 := z.1
    cases z1
    rw [show pN T m 44 q = none from e2] at z
    cases z.2.1) h2 q2 hK2 (ho1.tr ho2)) (fun v2 q2 e2 h2 l3 l4 hK2 hN2 ho2 => ?_)
  have e2 : pN T m 44 q = some (v2, q2) := e2
  have hq2 := pN_ok (by omega) e2
  refine num_wp (mn := 3) (x := 2) hK2 hm (by omega) (by omega) (by omega) hN2 (fun e3 h3 q3 hK3 ho3 => kn (fun k q1' w q2' u q3 z => by
    rw [e] at z
    have z1 := z.1
    cases z1
    rw [e2] at z
    have z2 := z.2.1
    cases z2
    rw [show pN T m 59 q2 = none from e3] at z
    cases z.2.2) h3 q3 hK3 ((ho1.tr ho2).tr ho3)) (fun v3 q3 e3 h3 l3 l4 hK3 hN3 ho3 => ?_)
  refine num_ret.mpr (ky v q v2 q2 v3 q3 e e2 e3 h3 hK3 ?_ ((ho1.tr ho2).tr ho3))
  obtain ⟨l, x1, x2, x3⟩ := hN3
  exact ⟨l, x1, x2, x3 0 (by omega), x3 1 (by omega), x3 2 (by omega)⟩
theorem streetIs_wp (hK : MK h k1 u2 T m A U K L p E) (hR : RG E) (hn : E 7 0 < 6) {k w u : Nat} (kk : ∀ h1, MK h1 k1 u2 T m A U K L p (adS E k w u) → OffX h h1 (fun i => i = 100 ∨ i = 101) → Q none h1) : WP sc 77 0 [some (.ref 97), some (.int (nI k)), some (.int (nI w)), some (.int (nI u))] [] h Q := by
  obtain ⟨⟨⟨sp, z1⟩, ⟨a98, a99, a100, a101, a102, a104, a105, a106, a107, a108, a109⟩, a103⟩, z2, ⟨rd, d1, d2, d3⟩, ⟨rr, r1, r2, r3⟩⟩ := hK
  have hg := fun k => g_obj (k := k) z2
  have av1 := a_arr d1
  have av2 := a_arr r1
  have v0 : rd.getD 0 0 = nI (E 7 0) := d3.1
  have b100 := lt_of_some d1
  have b101 := lt_of_some r1
  have hl1 : 2 + E 7 0 < 14 := by omega
  have hl2 : 8 + E 7 0 < 14 := by omega
  have hl3 : E 7 0 < 27 := by omega
  -- the kind
  simp (disch := first | assumption | exact wn2_i | exact wn2_r | exact wn2_n | exact Nat.le_of_ble_eq_true rfl | omega | (refine nI_z ?_ ?_ <;> omega)) only [s77_0, s77_1, s77_4, s77_5, s77_6, s77_9, s77_10, s77_11, s77_12, s77_13, wX_some, Option.toList_some, Option.toList_none, List.cons_append, List.nil_append, List.map_cons, List.map_nil, List.sum_cons, List.sum_nil, Value.category, wn2_i, wn2_r, wn2_n, Option.isSome_some, List.getElem?_cons_zero, List.getElem?_cons_succ, nI_add, nI_rem2, hg, av1, d2, iat_n, v0]
  have e1 : (rd.set (2 + E 7 0) (nI k)).length = 14 := by rw [List.length_set]; exact d2
  have g1 : (rd.set (2 + E 7 0) (nI k)).getD 0 0 = nI (E 7 0) := by rw [gset (by omega), if_neg (by omega)]; exact v0
  have x1 : (h.set 100 (ms_ia (rd.set (2 + E 7 0) (nI k))))[97]? = _ := s_ne (by omega) z2
  have hg1 := fun k => g_obj (k := k) x1
  have w1 := a_arr (s_eq (c := ms_ia (rd.set (2 + E 7 0) (nI k))) b100)
  simp (disch := first | assumption | exact wn2_i | exact wn2_r | exact wn2_n | exact Nat.le_of_ble_eq_true rfl | omega | (refine nI_z ?_ ?_ <;> omega)) only [s77_14, s77_15, s77_18, s77_20, s77_21, s77_24, s77_25, s77_26, s77_27, s77_28, wX_some, Option.toList_some, Option.toList_none, List.cons_append, List.nil_append, List.map_cons, List.map_nil, List.sum_cons, List.sum_nil, Value.category, wn2_i, wn2_r, wn2_n, Option.isSome_some, List.getElem?_cons_zero, List.getElem?_cons_succ, nI_add, nI_rem2, hg1, w1, e1, iat_n, g1]
  have e2 : ((rd.set (2 + E 7 0) (nI k)).set (8 + E 7 0) (nI u)).length = 14 := by rw [List.length_set]; exact e1
  have g2 : ((rd.set (2 + E 7 0) (nI k)).set (8 + E 7 0) (nI u)).getD 0 0 = nI (E 7 0) := by rw [gset (by omega), if_neg (by omega)]; exact g1
  have y1 : ((h.set 100 (ms_ia (rd.set (2 + E 7 0) (nI k)))).set 100 (ms_ia ((rd.set (2 + E 7 0) (nI k)).set (8 + E 7 0) (nI u))))[97]? = _ := s_ne (by omega) x1
  have y2 : ((h.set 100 (ms_ia (rd.set (2 + E 7 0) (nI k)))).set 100 (ms_ia ((rd.set (2 + E 7 0) (nI k)).set (8 + E 7 0) (nI u))))[100]? = some (ms_ia ((rd.set (2 + E 7 0) (nI k)).set (8 + E 7 0) (nI u))) := s_eq (by rw [List.length_set]; exact b100)
  have y3 : ((h.set 100 (ms_ia (rd.set (2 + E 7 0) (nI k)))).set 100 (ms_ia ((rd.set (2 + E 7 0) (nI k)).set (8 + E 7 0) (nI u))))[101]? = some (ms_ia rr) := s_ne (by omega) (s_ne (by omega) r1)
  have ho : OffX h ((h.set 100 (ms_ia (rd.set (2 + E 7 0) (nI k)))).set 100 (ms_ia ((rd.set (2 + E 7 0) (nI k)).set (8 + E 7 0) (nI u)))) (fun i => i = 100 ∨ i = 101) := (OffX.rf.st (Or.inl rfl)).st (Or.inl rfl)
  generalize (h.set 100 (ms_ia (rd.set (2 + E 7 0) (nI k)))).set 100 (ms_ia ((rd.set (2 + E 7 0) (nI k)).set (8 + E 7 0) (nI u))) = ha at y1 y2 y3 ho ⊢
  have hg2 := fun k => g_obj (k := k) y1
  have w2 := a_arr y2
  have w3 := a_arr y3
  simp (disch := first | assumption | exact wn2_i | exact wn2_r | exact wn2_n | exact Nat.le_of_ble_eq_true rfl | omega | (refine nI_z ?_ ?_ <;> omega)) only [s77_29, s77_30, s77_33, s77_34, s77_35, s77_38, s77_39, s77_40, s77_41, s77_42, wX_some, Option.toList_some, Option.toList_none, List.cons_append, List.nil_append, List.map_cons, List.map_nil, List.sum_cons, List.sum_nil, Value.category, wn2_i, wn2_r, wn2_n, Option.isSome_some, List.getElem?_cons_zero, List.getElem?_cons_succ, nI_add, nI_rem2, hg2, w2, w3, e2, r2, iat_n, g2, Nat.zero_add]
  have t1 : (ha.set 101 (ms_ia (rr.set (E 7 0) (nI w))))[97]? = _ := s_ne (by omega) y1
  have t2 : (ha.set 101 (ms_ia (rr.set (E 7 0) (nI w))))[100]? = some (ms_ia ((rd.set (2 + E 7 0) (nI k)).set (8 + E 7 0) (nI u))) := s_ne (by omega) y2
  have t3 : (ha.set 101 (ms_ia (rr.set (E 7 0) (nI w))))[101]? = some (ms_ia (rr.set (E 7 0) (nI w))) := s_eq (lt_of_some y3)
  have ho2 : OffX h (ha.set 101 (ms_ia (rr.set (E 7 0) (nI w)))) (fun i => i = 100 ∨ i = 101) := ho.st (Or.inr rfl)
  generalize ha.set 101 (ms_ia (rr.set (E 7 0) (nI w))) = hb at t1 t2 t3 ho2 ⊢
  have hg3 := fun k => g_obj (k := k) t1
  have w4 := a_arr t2
  simp (disch := first | assumption | exact wn2_i | exact wn2_r | exact wn2_n | exact Nat.le_of_ble_eq_true rfl | omega | (refine nI_z ?_ ?_ <;> omega)) only [s77_43, s77_44, s77_47, s77_48, s77_49, s77_50, s77_51, s77_52, s77_53, wX_some, Option.toList_some, Option.toList_none, List.cons_append, List.nil_append, List.map_cons, List.map_nil, List.sum_cons, List.sum_nil, Value.category, wn2_i, wn2_r, wn2_n, Option.isSome_some, List.getElem?_cons_zero, List.getElem?_cons_succ, nI_add, nI_rem2, hg3, w4, e2, iat_n, g2]
  have ho3 : OffX h (hb.set 100 (ms_ia (((rd.set (2 + E 7 0) (nI k)).set (8 + E 7 0) (nI u)).set 0 (nI (E 7 0 + 1))))) (fun i => i = 100 ∨ i = 101) := ho2.st (Or.inl rfl)
  have q100 : AR (hb.set 100 (ms_ia (((rd.set (2 + E 7 0) (nI k)).set (8 + E 7 0) (nI u)).set 0 (nI (E 7 0 + 1))))) 100 14 (fun l => KA (fun i => l.getD i 0) (adS E k w u)) := by
    refine ⟨_, s_eq (lt_of_some t2), by rw [List.length_set]; exact e2, ?_, ?_, fun s hs => ?_⟩
    · dsimp only
      rw [gset (by omega), if_pos rfl]
      rfl
    · dsimp only
      rw [gset (by omega), if_neg (by omega), gset (by omega), if_neg (by omega), gset (by omega), if_neg (by omega)]
      exact d3.2.1
    · have hs : s < E 7 0 + 1 := hs
      dsimp only
      have f1 : (((rd.set (2 + E 7 0) (nI k)).set (8 + E 7 0) (nI u)).set 0 (nI (E 7 0 + 1))).getD (2 + s) 0 = if 2 + E 7 0 = 2 + s then nI k else rd.getD (2 + s) 0 := by
        rw [gset (by omega), if_neg (by omega), gset (by omega), if_neg (by omega), gset (by omega)]
      have f2 : (((rd.set (2 + E 7 0) (nI k)).set (8 + E 7 0) (nI u)).set 0 (nI (E 7 0 + 1))).getD (8 + s) 0 = if 8 + E 7 0 = 8 + s then nI u else rd.getD (8 + s) 0 := by
        rw [gset (by omega), if_neg (by omega), gset (by omega)]
        split
        · rfl
        · rw [gset (by omega), if_neg (by omega)]
      rw [f1, f2]
      show _ = nI (up1 (E 5) (E 7 0) k s) ∧ _ = nI (up1 (E 6) (E 7 0) u s)
      unfold up1
      by_cases e : s = E 7 0
      · rw [if_pos (by omega), if_pos e, if_pos (by omega), if_pos e]
        exact ⟨rfl, rfl⟩
      · rw [if_neg (by omega), if_neg e, if_neg (by omega), if_neg e]
        exact d3.2.2 s (by omega)
  have q101 : AR (hb.set 100 (ms_ia (((rd.set (2 + E 7 0) (nI k)).set (8 + E 7 0) (nI u)).set 0 (nI (E 7 0 + 1))))) 101 27 (rdR (adS E k w u)) := by
    have h71 := hR.2.1
    obtain ⟨⟨c1, c2, c3, c4, c5⟩, c6⟩ := r3
    dsimp only at c1 c2 c3 c4 c5
    refine ⟨_, s_ne (by omega) t3, by rw [List.length_set]; exact r2, ⟨fun s hs => ?_, fun x hx => ?_, ?_, ?_, ?_⟩, fun s hs hs6 => ?_⟩
    · have hs : s < E 7 0 + 1 := hs
      dsimp only
      rw [gset (by omega), gset (by omega), gset (by omega), if_neg (show ¬ E 7 0 = 6 + s by omega), if_neg (show ¬ E 7 0 = 12 + s by omega)]
      show _ = nI (up1 (E 0) (E 7 0) w s) ∧ _ = nI (up1 (E 1) (E 7 0) 0 s) ∧ _ = nI (up1 (E 2) (E 7 0) 0 s)
      unfold up1
      by_cases e : s = E 7 0
      · rw [if_pos e.symm, if_pos e, if_pos e, if_pos e]
        exact ⟨rfl, c6 s (by omega) (by omega)⟩
      · rw [if_neg (fun q => e q.symm), if_neg e, if_neg e, if_neg e]
        exact c1 s (by omega)
    · have hx : x < E 7 1 := hx
      dsimp only
      rw [gset (by omega), if_neg (by omega)]
      exact c2 x hx
    · dsimp only
      rw [gset (by omega), if_neg (by omega)]; exact c3
    · dsimp only
      rw [gset (by omega), if_neg (by omega)]; exact c4
    · dsimp only
      rw [gset (by omega), if_neg (by omega)]; exact c5
    · have hs : E 7 0 + 1 ≤ s := hs
      rw [gset (by omega), gset (by omega), if_neg (by omega), if_neg (by omega)]
      exact c6 s (by omega) hs6
  refine kk _ ⟨⟨⟨sp, (ho3.2 97 (by omega)).trans z1⟩, ⟨a98.off (ho3.2 98 (by omega)), a99.off (ho3.2 99 (by omega)), ?_, ?_, a102.off (ho3.2 102 (by omega)), a104.off (ho3.2 104 (by omega)), a105.off (ho3.2 105 (by omega)), a106.off (ho3.2 106 (by omega)), a107.off (ho3.2 107 (by omega)), a108.off (ho3.2 108 (by omega)), a109.off (ho3.2 109 (by omega))⟩, a103.off (ho3.2 103 (by omega))⟩, (ho3.2 97 (by omega)).trans z2, q100, q101⟩ ho3
  · obtain ⟨l, a, b, -⟩ := q100; exact ⟨l, a, b, trivial⟩
  · obtain ⟨l, a, b, -⟩ := q101; exact ⟨l, a, b, trivial⟩
theorem workIs_wp (hK : MK h k1 u2 T m A U K L p E) (hR : RG E) (hn : E 7 1 < 6) {v : Nat} (kk : ∀ h1, MK h1 k1 u2 T m A U K L p (adW E v) → OffX h h1 (fun i => i = 100 ∨ i = 101) → Q none h1) : WP sc 78 0 [some (.ref 97), some (.int (nI v))] [] h Q := by
  obtain ⟨⟨⟨sp, z1⟩, ⟨a98, a99, a100, a101, a102, a104, a105, a106, a107, a108, a109⟩, a103⟩, z2, ⟨rd, d1, d2, d3⟩, ⟨rr, r1, r2, r3⟩⟩ := hK
  have hg := fun k => g_obj (k := k) z2
  have av1 := a_arr d1
  have av2 := a_arr r1
  have v0 : rd.getD 1 0 = nI (E 7 1) := d3.2.1
  have b100 := lt_of_some d1
  have b101 := lt_of_some r1
  have hl1 : 18 + E 7 1 < 27 := by omega
  simp (disch := first | assumption | exact wn2_i | exact wn2_r | exact wn2_n | exact Nat.le_of_ble_eq_true rfl | omega | (refine nI_z ?_ ?_ <;> omega)) only [s78_0, s78_1, s78_4, s78_6, s78_7, s78_10, s78_11, s78_12, s78_13, s78_14, wX_some, Option.toList_some, Option.toList_none, List.cons_append, List.nil_append, List.map_cons, List.map_nil, List.sum_cons, List.sum_nil, Value.category, wn2_i, wn2_r, wn2_n, Option.isSome_some, List.getElem?_cons_zero, List.getElem?_cons_succ, nI_add, nI_rem2, hg, av1, av2, d2, r2, iat_n, v0]
  have t1 : (h.set 101 (ms_ia (rr.set (18 + E 7 1) (nI v))))[97]? = _ := s_ne (by omega) z2
  have t2 : (h.set 101 (ms_ia (rr.set (18 + E 7 1) (nI v))))[100]? = some (ms_ia rd) := s_ne (by omega) d1
  have t3 : (h.set 101 (ms_ia (rr.set (18 + E 7 1) (nI v))))[101]? = some (ms_ia (rr.set (18 + E 7 1) (nI v))) := s_eq b101
  have ho2 : OffX h (h.set 101 (ms_ia (rr.set (18 + E 7 1) (nI v)))) (fun i => i = 100 ∨ i = 101) := OffX.rf.st (Or.inr rfl)
  generalize h.set 101 (ms_ia (rr.set (18 + E 7 1) (nI v))) = hb at t1 t2 t3 ho2 ⊢
  have hg3 := fun k => g_obj (k := k) t1
  have w4 := a_arr t2
  simp (disch := first | assumption | exact wn2_i | exact wn2_r | exact wn2_n | exact Nat.le_of_ble_eq_true rfl | omega | (refine nI_z ?_ ?_ <;> omega)) only [s78_15, s78_16, s78_19, s78_20, s78_21, s78_22, s78_23, s78_24, s78_25, wX_some, Option.toList_some, Option.toList_none, List.cons_append, List.nil_append, List.map_cons, List.map_nil, List.sum_cons, List.sum_nil, Value.category, wn2_i, wn2_r, wn2_n, Option.isSome_some, List.getElem?_cons_zero, List.getElem?_cons_succ, nI_add, nI_rem2, hg3, w4, d2, iat_n, v0]
  have ho3 : OffX h (hb.set 100 (ms_ia (rd.set 1 (nI (E 7 1 + 1))))) (fun i => i = 100 ∨ i = 101) := ho2.st (Or.inl rfl)
  have q100 : AR (hb.set 100 (ms_ia (rd.set 1 (nI (E 7 1 + 1))))) 100 14 (fun l => KA (fun i => l.getD i 0) (adW E v)) := by
    refine ⟨_, s_eq (lt_of_some t2), by rw [List.length_set]; exact d2, ?_, ?_, fun s hs => ?_⟩
    · dsimp only
      rw [gset (by omega), if_neg (by omega)]
      exact d3.1
    · dsimp only
      rw [gset (by omega), if_pos rfl]
      rfl
    · have hs : s < E 7 0 := hs
      dsimp only
      rw [gset (by omega), gset (by omega), if_neg (by omega), if_neg (by omega)]
      exact d3.2.2 s hs
  have q101 : AR (hb.set 100 (ms_ia (rd.set 1 (nI (E 7 1 + 1))))) 101 27 (rdR (adW E v)) := by
    have h70 := hR.1
    obtain ⟨⟨c1, c2, c3, c4, c5⟩, c6⟩ := r3
    dsimp only at c1 c2 c3 c4 c5
    refine ⟨_, s_ne (by omega) t3, by rw [List.length_set]; exact r2, ⟨fun s hs => ?_, fun x hx => ?_, ?_, ?_, ?_⟩, fun s hs hs6 => ?_⟩
    · have hs : s < E 7 0 := hs
      dsimp only
      rw [gset (by omega), gset (by omega), gset (by omega), if_neg (by omega), if_neg (by omega), if_neg (by omega)]
      exact c1 s hs
    · have hx : x < E 7 1 + 1 := hx
      dsimp only
      rw [gset (by omega)]
      show _ = nI (up1 (E 3) (E 7 1) v x)
      unfold up1
      by_cases e : x = E 7 1
      · rw [if_pos (by omega), if_pos e]
      · rw [if_neg (by omega), if_neg e]
        exact c2 x (by omega)
    · dsimp only
      rw [gset (by omega), if_neg (by omega)]; exact c3
    · dsimp only
      rw [gset (by omega), if_neg (by omega)]; exact c4
    · dsimp only
      rw [gset (by omega), if_neg (by omega)]; exact c5
    · have hs : E 7 0 ≤ s := hs
      rw [gset (by omega), gset (by omega), if_neg (by omega), if_neg (by omega)]
      exact c6 s (by omega) hs6
  refine kk _ ⟨⟨⟨sp, (ho3.2 97 (by omega)).trans z1⟩, ⟨a98.off (ho3.2 98 (by omega)), a99.off (ho3.2 99 (by omega)), ?_, ?_, a102.off (ho3.2 102 (by omega)), a104.off (ho3.2 104 (by omega)), a105.off (ho3.2 105 (by omega)), a106.off (ho3.2 106 (by omega)), a107.off (ho3.2 107 (by omega)), a108.off (ho3.2 108 (by omega)), a109.off (ho3.2 109 (by omega))⟩, a103.off (ho3.2 103 (by omega))⟩, (ho3.2 97 (by omega)).trans z2, q100, q101⟩ ho3
  · obtain ⟨l, a, b, -⟩ := q100; exact ⟨l, a, b, trivial⟩
  · obtain ⟨l, a, b, -⟩ := q101; exact ⟨l, a, b, trivial⟩
theorem item_wp (hK : MK h k1 u2 T m A U K L p E) (hm : m ≤ 200) (hp : p < m) (hR : RG E) {l1 : Option Value}
    (kn : itm T m E p = none → ∀ h1 q, MK h1 k1 u2 T m A U K L q E → Off h h1 97 13 → Q (some (.int (nI 0))) h1)
    (ky : ∀ E' q, itm T m E p = some (E', q) → ∀ h1, MK h1 k1 u2 T m A U K L q E' → Off h h1 97 13 → Q (some (.int (nI 1))) h1) : WP sc 85 0 [some (.ref 97), l1] [] h Q := by
  have hM := hK.1
  have z1 := hK.2.1
  have hg := fun k => g_obj (k := k) z1
  have his := i_obj z1
  have hI : (ms_is h 97 6).isSome = true := by rw [his]; rfl
  have hla := fun Q => letterAt_wp (sc := sc) (Q := Q) hM hm (i := p) (by omega)
  have hc := chr_le hM (i := p)
  have b00 : (nI 0 = 0 ∨ nI 0 = 1) ↔ True := ⟨fun _ => trivial, fun _ => Or.inl rfl⟩
  have b11 : (nI 1 = 0 ∨ nI 1 = 1) ↔ True := ⟨fun _ => trivial, fun _ => Or.inr rfl⟩
  have hK1 := hK.spot (p + 1)
  have ho1 : Off h (h.set 97 (ms_obj 6 (MO (nI m) (nI U.length) (nI K.length) (nI L.length) (nI (p + 1)) (-4) k1 (-4) u2))) 97 13 := Off.rf.st (by omega) (by omega)
  simp (disch := first | assumption | exact wn2_i | exact wn2_r | exact wn2_n | exact Nat.le_of_ble_eq_true rfl | omega | (refine nI_z ?_ ?_ <;> omega)) only [s85_0, s85_1, s85_2, s85_5, s85_8, s85_9, s85_10, s85_11, s85_14, s85_15, s85_16, wX_some, Option.toList_some, Option.toList_none, List.cons_append, List.nil_append, List.map_cons, List.map_nil, List.sum_cons, List.sum_nil, Value.category, wn2_i, wn2_r, wn2_n, Option.isSome_some, List.getElem?_cons_zero, List.getElem?_cons_succ, nI_add, nI_rem2, hg, his, hla, List.set_cons_succ, List.set_cons_zero, List.length_cons, List.length_nil, Nat.reduceAdd, Nat.reduceLT, true_and]
  generalize h.set 97 (ms_obj 6 (MO (nI m) (nI U.length) (nI K.length) (nI L.length) (nI (p + 1)) (-4) k1 (-4) u2)) = h1 at hK1 ho1 ⊢
  obtain ⟨_, _, _, _, _, _, hI, -⟩ := hK1.1.facts
  have wx : ∀ {h2 : List ms_C}, OffX h1 h2 (fun i => i = 97 ∨ i = 107) → Off h h2 97 13 := fun o => ho1.tr (o.off (fun i hi => by omega))
  by_cases cS : chrT T m p = 115
  · have eS : (nI (chrT T m p) = nI 115) ↔ True := ⟨fun _ => trivial, fun _ => by rw [cS]⟩
    simp (disch := first | assumption | exact wn2_i | exact wn2_r | exact wn2_n | exact Nat.le_of_ble_eq_true rfl | omega | (refine nI_z ?_ ?_ <;> omega)) only [s85_19, s85_20, s85_22, s85_25, s85_26, s85_27, wX_some, Option.toList_some, Option.toList_none, List.cons_append, List.nil_append, List.map_cons, List.map_nil, List.sum_cons, List.sum_nil, Value.category, wn2_i, wn2_r, wn2_n, Option.isSome_some, List.getElem?_cons_zero, List.getElem?_cons_succ, nI_add, nI_rem2, eS, if_true]
    have hit : itm T m E p = itmS T m E p := by unfold itm; rw [if_pos cS]
    rw [hit] at kn ky
    refine numbers3 hK1 hm (by omega) (fun hno h2 q hK2 ho2 => ?_) (fun k q1 w q2 u q3 e1 e2 e3 h2 hK2 hN2 ho2 => ?_)
    · have e : itmS T m E p = none := by
        unfold itmS
        cases x1 : pN T m 44 (p + 1) with
        | none => rfl
        | some a =>
          obtain ⟨k, q1⟩ := a
          dsimp only
          cases x2 : pN T m 44 q1 with
          | none => rfl
          | some a =>
            obtain ⟨w, q2⟩ := a
            dsimp only
            cases x3 : pN T m 59 q2 with
            | none => rfl
            | some a =>
              obtain ⟨u, q3⟩ := a
              exact absurd ⟨x1, x2, x3⟩ (hno k q1 w q2 u q3)
      simp (disch := first | assumption | exact wn2_i | exact wn2_r | exact wn2_n | exact Nat.le_of_ble_eq_true rfl | omega | (refine nI_z ?_ ?_ <;> omega)) only [s85_30, s85_65, s85_66, wX_some, Option.toList_some, Option.toList_none, List.cons_append, List.nil_append, List.map_cons, List.map_nil, List.sum_cons, List.sum_nil, Value.category, wn2_i, wn2_r, wn2_n, Option.isSome_some, List.getElem?_cons_zero, List.getElem?_cons_succ, nI_add, nI_rem2, nI_eq0, if_true, true_or, true_and]
      exact kn e h2 q hK2 (wx ho2)
    · have e : itmS T m E p = if E 7 0 < 6 ∧ k ≤ 3 ∧ u ≤ 9 then some (adS E k w u, q3) else none := by
        unfold itmS
        rw [e1]; dsimp only; rw [e2]; dsimp only; rw [e3]
      have p1 := pN_ok (by omega) e1
      have p2 := pN_ok (by omega) e2
      have p3 := pN_ok (by omega) e3
      have hg2 := fun k => g_obj (k := k) hK2.2.1
      have hK2' := hK2
      obtain ⟨_, _, ⟨rd, d1, d2, d3⟩, _⟩ := hK2'
      have av := a_arr d1
      have v0 : rd.getD 0 0 = nI (E 7 0) := d3.1
      obtain ⟨nb, n1, n2, n3, n4, n5⟩ := hN2
      have an := a_arr n1
      have r6 := hR.1
      obtain ⟨_, _, _, _, _, _, hI2, -⟩ := hK2.1.facts
      by_cases c1 : E 7 0 = 6
      · have x1 : (nI (E 7 0) = nI 6) ↔ True := ⟨fun _ => trivial, fun _ => by rw [c1]⟩
        rw [if_neg (by omega)] at e
        simp (disch := first | assumption | exact wn2_i | exact wn2_r | exact wn2_n | exact Nat.le_of_ble_eq_true rfl | omega | (refine nI_z ?_ ?_ <;> omega)) only [s85_30, s85_33, s85_34, s85_37, s85_38, s85_39, s85_41, s85_44, s85_45, s85_48, s85_49, s85_50, s85_51, s85_54, s85_55, s85_58, s85_59, s85_60, s85_62, s85_65, s85_66, wX_some, Option.toList_some, Option.toList_none, List.cons_append, List.nil_append, List.map_cons, List.map_nil, List.sum_cons, List.sum_nil, Value.category, wn2_i, wn2_r, wn2_n, Option.isSome_some, List.getElem?_cons_zero, List.getElem?_cons_succ, nI_add, nI_rem2, nI_eq0, if_false, Nat.reduceEqDiff, hg2, av, d2, iat_n, v0, x1, if_true, true_or, true_and]
        exact kn e h2 _ hK2 (wx ho2)
      · have x1 : (nI (E 7 0) = nI 6) ↔ False := ⟨fun q => c1 ((nI_eq (by omega) (by omega)).mp q), False.elim⟩
        by_cases c2 : 3 < k
        · have x2 : nI 3 < nI k := nI_lt c2 (by omega)
          rw [if_neg (by omega)] at e
          simp (disch := first | assumption | exact wn2_i | exact wn2_r | exact wn2_n | exact Nat.le_of_ble_eq_true rfl | omega | (refine nI_z ?_ ?_ <;> omega)) only [s85_30, s85_33, s85_34, s85_37, s85_38, s85_39, s85_41, s85_44, s85_45, s85_48, s85_49, s85_50, s85_51, s85_54, s85_55, s85_58, s85_59, s85_60, s85_62, s85_65, s85_66, wX_some, Option.toList_some, Option.toList_none, List.cons_append, List.nil_append, List.map_cons, List.map_nil, List.sum_cons, List.sum_nil, Value.category, wn2_i, wn2_r, wn2_n, Option.isSome_some, List.getElem?_cons_zero, List.getElem?_cons_succ, nI_add, nI_rem2, nI_eq0, if_false, Nat.reduceEqDiff, hg2, av, d2, iat_n, v0, x1, an, n2, n3, x2, if_true, true_or, true_and]
          exact kn e h2 _ hK2 (wx ho2)
        · have x2 : ¬ nI 3 < nI k := nI_nlt (by omega) (by omega)
          by_cases c3 : u ≤ 9
          · have x3 : nI u ≤ nI 9 := nI_le c3 (by omega)
            rw [if_pos (by omega)] at e
            simp (disch := first | assumption | exact wn2_i | exact wn2_r | exact wn2_n | exact Nat.le_of_ble_eq_true rfl | omega | (refine nI_z ?_ ?_ <;> omega)) only [s85_30, s85_33, s85_34, s85_37, s85_38, s85_39, s85_41, s85_44, s85_45, s85_48, s85_49, s85_50, s85_51, s85_54, s85_55, s85_58, s85_59, s85_60, s85_62, s85_65, s85_66, s85_67, s85_68, s85_69, s85_72, s85_73, s85_74, s85_75, s85_78, s85_79, s85_80, s85_81, s85_84, s85_85, s85_86, wX_some, Option.toList_some, Option.toList_none, List.cons_append, List.nil_append, List.map_cons, List.map_nil, List.sum_cons, List.sum_nil, Value.category, wn2_i, wn2_r, wn2_n, Option.isSome_some, List.getElem?_cons_zero, List.getElem?_cons_succ, nI_add, nI_rem2, nI_eq0, if_false, Nat.reduceEqDiff, hg2, av, d2, iat_n, v0, x1, an, n2, n3, n4, n5, x2, x3, if_true]
            refine streetIs_wp hK2 hR (by omega) (fun h3 hK3 ho3 => ?_)
            simp (disch := first | assumption | exact wn2_i | exact wn2_r | exact wn2_n | exact Nat.le_of_ble_eq_true rfl | omega | (refine nI_z ?_ ?_ <;> omega)) only [s85_89, s85_90, wX_some, Option.toList_some, Option.toList_none, List.cons_append, List.nil_append, List.map_cons, List.map_nil, List.sum_cons, List.sum_nil, Value.category, wn2_i, wn2_r, wn2_n, Option.isSome_some, List.getElem?_cons_zero, List.getElem?_cons_succ, nI_add, nI_rem2, b11, true_and]
            exact ky _ _ e h3 hK3 ((wx ho2).tr (ho3.off (fun i hi => by omega)))
          · have x3 : ¬ nI u ≤ nI 9 := nI_ge (by omega) (by omega)
            rw [if_neg (by omega)] at e
            simp (disch := first | assumption | exact wn2_i | exact wn2_r | exact wn2_n | exact Nat.le_of_ble_eq_true rfl | omega | (refine nI_z ?_ ?_ <;> omega)) only [s85_30, s85_33, s85_34, s85_37, s85_38, s85_39, s85_41, s85_44, s85_45, s85_48, s85_49, s85_50, s85_51, s85_54, s85_55, s85_58, s85_59, s85_60, s85_62, s85_65, s85_66, wX_some, Option.toList_some, Option.toList_none, List.cons_append, List.nil_append, List.map_cons, List.map_nil, List.sum_cons, List.sum_nil, Value.category, wn2_i, wn2_r, wn2_n, Option.isSome_some, List.getElem?_cons_zero, List.getElem?_cons_succ, nI_add, nI_rem2, nI_eq0, if_false, Nat.reduceEqDiff, hg2, av, d2, iat_n, v0, x1, an, n2, n3, n5, x2, x3, true_or, true_and]
            exact kn e h2 _ hK2 (wx ho2)
  · have eS : (nI (chrT T m p) = nI 115) ↔ False := ⟨fun q => cS ((nI_eq (by omega) (by omega)).mp q), False.elim⟩
    by_cases cW : chrT T m p = 119
    · have eW : (nI (chrT T m p) = nI 119) ↔ True := ⟨fun _ => trivial, fun _ => by rw [cW]⟩
      simp (disch := first | assumption | exact wn2_i | exact wn2_r | exact wn2_n | exact Nat.le_of_ble_eq_true rfl | omega | (refine nI_z ?_ ?_ <;> omega)) only [s85_19, s85_20, s85_22, s85_91, s85_92, s85_94, s85_97, s85_98, s85_99, wX_some, Option.toList_some, Option.toList_none, List.cons_append, List.nil_append, List.map_cons, List.map_nil, List.sum_cons, List.sum_nil, Value.category, wn2_i, wn2_r, wn2_n, Option.isSome_some, List.getElem?_cons_zero, List.getElem?_cons_succ, nI_add, nI_rem2, eS, eW, if_false, if_true]
      have hit : itm T m E p = itmW T m E p := by unfold itm; rw [if_neg cS, if_pos cW]
      rw [hit] at kn ky
      refine numbers1 hK1 hm (by omega) (fun hno h2 q hK2 ho2 => ?_) (fun v q e1 h2 hK2 hN2 ho2 => ?_)
      · have e : itmW T m E p = none := by unfold itmW; rw [hno]
        simp (disch := first | assumption | exact wn2_i | exact wn2_r | exact wn2_n | exact Nat.le_of_ble_eq_true rfl | omega | (refine nI_z ?_ ?_ <;> omega)) only [s85_102, s85_133, s85_134, wX_some, Option.toList_some, Option.toList_none, List.cons_append, List.nil_append, List.map_cons, List.map_nil, List.sum_cons, List.sum_nil, Value.category, wn2_i, wn2_r, wn2_n, Option.isSome_some, List.getElem?_cons_zero, List.getElem?_cons_succ, nI_add, nI_rem2, nI_eq0, if_true, true_or, true_and]
        exact kn e h2 q hK2 (wx ho2)
      · have e : itmW T m E p = if E 7 1 < 6 ∧ 1 ≤ v ∧ v ≤ 40 then some (adW E v, q) else none := by
          unfold itmW
          rw [e1]
        have p1 := pN_ok (by omega) e1
        have hg2 := fun k => g_obj (k := k) hK2.2.1
        have hK2' := hK2
        obtain ⟨_, _, ⟨rd, d1, d2, d3⟩, _⟩ := hK2'
        have av := a_arr d1
        have v0 : rd.getD 1 0 = nI (E 7 1) := d3.2.1
        obtain ⟨nb, n1, n2, n3⟩ := hN2
        have an := a_arr n1
        have r6 := hR.2.1
        obtain ⟨_, _, _, _, _, _, hI2, -⟩ := hK2.1.facts
        by_cases c1 : E 7 1 = 6
        · have x1 : (nI (E 7 1) = nI 6) ↔ True := ⟨fun _ => trivial, fun _ => by rw [c1]⟩
          rw [if_neg (by omega)] at e
          simp (disch := first | assumption | exact wn2_i | exact wn2_r | exact wn2_n | exact Nat.le_of_ble_eq_true rfl | omega | (refine nI_z ?_ ?_ <;> omega)) only [s85_102, s85_105, s85_106, s85_109, s85_110, s85_111, s85_113, s85_116, s85_117, s85_120, s85_121, s85_122, s85_123, s85_124, s85_127, s85_130, s85_133, s85_134, wX_some, Option.toList_some, Option.toList_none, List.cons_append, List.nil_append, List.map_cons, List.map_nil, List.sum_cons, List.sum_nil, Value.category, wn2_i, wn2_r, wn2_n, Option.isSome_some, List.getElem?_cons_zero, List.getElem?_cons_succ, nI_add, nI_rem2, nI_eq0, if_false, Nat.reduceEqDiff, hg2, av, d2, iat_n, v0, x1, if_true, true_or, true_and]
          exact kn e h2 _ hK2 (wx ho2)
        · have x1 : (nI (E 7 1) = nI 6) ↔ False := ⟨fun q => c1 ((nI_eq (by omega) (by omega)).mp q), False.elim⟩
          by_cases c2 : 1 ≤ v ∧ v ≤ 40
          · have hr : rng 1 40 (nI v) = true := by rw [rng_c (by omega)]; exact decide_eq_true c2
            rw [if_pos ⟨by omega, c2⟩] at e
            simp (disch := first | assumption | exact wn2_i | exact wn2_r | exact wn2_n | exact Nat.le_of_ble_eq_true rfl | omega | (refine nI_z ?_ ?_ <;> omega)) only [s85_102, s85_105, s85_106, s85_109, s85_110, s85_111, s85_113, s85_116, s85_117, s85_120, s85_121, s85_122, s85_123, s85_124, s85_127, s85_130, s85_133, s85_134, s85_135, s85_136, s85_137, s85_140, s85_141, s85_142, wX_some, Option.toList_some, Option.toList_none, List.cons_append, List.nil_append, List.map_cons, List.map_nil, List.sum_cons, List.sum_nil, Value.category, wn2_i, wn2_r, wn2_n, Option.isSome_some, List.getElem?_cons_zero, List.getElem?_cons_succ, nI_add, nI_rem2, nI_eq0, if_false, Nat.reduceEqDiff, hg2, av, d2, iat_n, v0, x1, an, n2, n3, in_rng, hr, if_true]
            refine workIs_wp hK2 hR (by omega) (fun h3 hK3 ho3 => ?_)
            simp (disch := first | assumption | exact wn2_i | exact wn2_r | exact wn2_n | exact Nat.le_of_ble_eq_true rfl | omega | (refine nI_z ?_ ?_ <;> omega)) only [s85_145, s85_146, wX_some, Option.toList_some, Option.toList_none, List.cons_append, List.nil_append, List.map_cons, List.map_nil, List.sum_cons, List.sum_nil, Value.category, wn2_i, wn2_r, wn2_n, Option.isSome_some, List.getElem?_cons_zero, List.getElem?_cons_succ, nI_add, nI_rem2, b11, true_and]
            exact ky _ _ e h3 hK3 ((wx ho2).tr (ho3.off (fun i hi => by omega)))
          · have hr : rng 1 40 (nI v) = false := by rw [rng_c (by omega)]; exact decide_eq_false c2
            rw [if_neg (fun q => c2 q.2)] at e
            simp (disch := first | assumption | exact wn2_i | exact wn2_r | exact wn2_n | exact Nat.le_of_ble_eq_true rfl | omega | (refine nI_z ?_ ?_ <;> omega)) only [s85_102, s85_105, s85_106, s85_109, s85_110, s85_111, s85_113, s85_116, s85_117, s85_120, s85_121, s85_122, s85_123, s85_124, s85_127, s85_130, s85_133, s85_134, wX_some, Option.toList_some, Option.toList_none, List.cons_append, List.nil_append, List.map_cons, List.map_nil, List.sum_cons, List.sum_nil, Value.category, wn2_i, wn2_r, wn2_n, Option.isSome_some, List.getElem?_cons_zero, List.getElem?_cons_succ, nI_add, nI_rem2, nI_eq0, if_false, Nat.reduceEqDiff, hg2, av, d2, iat_n, v0, x1, an, n2, n3, in_rng, hr, Bool.false_eq_true, if_true, true_or, true_and]
            exact kn e h2 _ hK2 (wx ho2)
    · have eW : (nI (chrT T m p) = nI 119) ↔ False := ⟨fun q => cW ((nI_eq (by omega) (by omega)).mp q), False.elim⟩
      have hit : itm T m E p = none := by unfold itm; rw [if_neg cS, if_neg cW]
      simp (disch := first | assumption | exact wn2_i | exact wn2_r | exact wn2_n | exact Nat.le_of_ble_eq_true rfl | omega | (refine nI_z ?_ ?_ <;> omega)) only [s85_19, s85_20, s85_22, s85_91, s85_92, s85_94, s85_133, s85_134, wX_some, Option.toList_some, Option.toList_none, List.cons_append, List.nil_append, List.map_cons, List.map_nil, List.sum_cons, List.sum_nil, Value.category, wn2_i, wn2_r, wn2_n, Option.isSome_some, List.getElem?_cons_zero, List.getElem?_cons_succ, nI_add, nI_rem2, eS, eW, if_false, b00, true_and]
      exact kn hit h1 _ hK1 ho1
end M75

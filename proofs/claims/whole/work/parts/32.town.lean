-- Town: what writes
section TOWN3
variable {sc : List Int32} {h : List ms_C} {Q : Option Value → List ms_C → Prop} {a : Nat} {A : AS}
theorem enrich_wp (hT : TA h a A) {s m : Nat} (hs : s < A 7 0) (h6 : A 7 0 ≤ 6) (hb : A 0 s ≤ 2000) (hm : m ≤ 2000) (k : ∀ h1, TA h1 a (up2 A 0 s (cap (A 0 s + m))) → Off h h1 a 7 → Q none h1) : WP sc 35 0 [some (.ref a), some (.int (nI s)), some (.int (nI m))] [] h Q := by
  obtain ⟨kd, we, us, di, st, wo, hg, hi, hI, a1, a2, a3, a4, a5, a6, g1, g2, g3, g4, g5, g6, k1, k2, k3, k4, k5, k6, hlen⟩ := hT.facts
  have v2 := k2.2 s hs
  have hf : ∀ v, AL (we.set s (nI v)) (up1 (A 0) s v) (A 7 0) := fun v => k2.put (by omega)
  by_cases hc : 999 < A 0 s + m
  · have n1 : nI 999 < nI (A 0 s + m) := nI_lt hc (by omega)
    simp (disch := first | assumption | exact wn2_i | exact wn2_r | exact wn2_n | exact Nat.le_of_ble_eq_true rfl | omega | (refine nI_z ?_ ?_ <;> omega)) only [s35_0, s35_1, s35_4, s35_5, s35_6, s35_9, s35_10, s35_11, s35_12, s35_13, s35_16, s35_19, s35_20, wX_some, Option.toList_some, Option.toList_none, List.cons_append, List.nil_append, List.map_cons, List.map_nil, List.sum_cons, List.sum_nil, Value.category, wn2_i, wn2_r, wn2_n, Option.isSome_some, List.getElem?_cons_zero, List.getElem?_cons_succ, nI_add, nI_rem2, hg, a2, g2, iat_n, v2, n1, if_true]
    exact k _ (TA.arr (d := 1) hT (by omega) (by rw [cap, if_pos hc]; exact hf _)) (Off.rf.st (by omega) (by omega))
  · have n1 : ¬ nI 999 < nI (A 0 s + m) := nI_nlt (by omega) (by omega)
    simp (disch := first | assumption | exact wn2_i | exact wn2_r | exact wn2_n | exact Nat.le_of_ble_eq_true rfl | omega | (refine nI_z ?_ ?_ <;> omega)) only [s35_0, s35_1, s35_4, s35_5, s35_6, s35_9, s35_10, s35_11, s35_12, s35_13, s35_16, s35_19, s35_20, wX_some, Option.toList_some, Option.toList_none, List.cons_append, List.nil_append, List.map_cons, List.map_nil, List.sum_cons, List.sum_nil, Value.category, wn2_i, wn2_r, wn2_n, Option.isSome_some, List.getElem?_cons_zero, List.getElem?_cons_succ, nI_add, nI_rem2, hg, a2, g2, iat_n, v2, n1, if_false]
    exact k _ (TA.arr (d := 1) hT (by omega) (by rw [cap, if_neg hc]; exact hf _)) (Off.rf.st (by omega) (by omega))
theorem stand_wp (hT : TA h a A) {p : Nat} (hp : p < A 7 0) (hG : AG A) (hq : A 4 0 ≤ 200000) (k : ∀ h1, TA h1 a (stdA A p) → Off h h1 a 7 → Q none h1) : WP sc 32 0 [some (.ref a), some (.int (nI p))] [] h Q := by
  obtain ⟨⟨G1, G2⟩, ⟨G3, G4⟩, G5, G6, G7⟩ := hG
  obtain ⟨b1, b2, b3, b4⟩ := G5 p hp
  have tail : ∀ h1, TA h1 a (gotA A p) → Off h h1 a 7 → WP sc 32 59 [some (.ref a), some (.int (nI p))] [] h1 Q := by
    intro h1 hT1 ho1
    have e7 : gotA A p 7 0 = A 7 0 := by rw [gotA_7]
    obtain ⟨kd, we, us, di, st, wo, hg, hi, hI, a1, a2, a3, a4, a5, a6, g1, g2, g3, g4, g5, g6, k1, k2, k3, k4, k5, k6, hlen⟩ := hT1.facts
    rw [e7] at k4 k5
    simp (disch := first | assumption | exact wn2_i | exact wn2_r | exact wn2_n | exact Nat.le_of_ble_eq_true rfl | omega | (refine nI_z ?_ ?_ <;> omega)) only [s32_59, s32_60, s32_63, s32_64, s32_65, wX_some, Option.toList_some, Option.toList_none, List.cons_append, List.nil_append, List.map_cons, List.map_nil, List.sum_cons, List.sum_nil, Value.category, wn2_i, wn2_r, wn2_n, Option.isSome_some, List.getElem?_cons_zero, List.getElem?_cons_succ, nI_add, nI_rem2, hg, a4, g4, iat_n]
    have hT2 := TA.arr (d := 3) hT1 (by omega) (l := di.set p (nI 0)) (f := up1 (gotA A p 1) p 0) (by rw [show (if 3 = 5 then gotA A p 7 1 else gotA A p 7 0) = A 7 0 from e7]; exact k4.put (by omega))
    have hT2 : TA (h1.set (a + 4) (ms_ia (di.set p (nI 0)))) a (up2 (gotA A p) 1 p 0) := hT2
    have ho2 : Off h (h1.set (a + 4) (ms_ia (di.set p (nI 0)))) a 7 := ho1.st (by omega) (by omega)
    generalize h1.set (a + 4) (ms_ia (di.set p (nI 0))) = h2 at hT2 ho2 ⊢
    obtain ⟨kd, we, us, di, st, wo, hg, hi, hI, a1, a2, a3, a4, a5, a6, g1, g2, g3, g4, g5, g6, k1, k2, k3, k4, k5, k6, hlen⟩ := hT2.facts
    have e2 : up2 (gotA A p) 1 p 0 2 = A 2 := gotA_2
    rw [show up2 (gotA A p) 1 p 0 7 0 = A 7 0 from e7, e2] at k5
    have v5 := k5.2 p hp
    simp (disch := first | assumption | exact wn2_i | exact wn2_r | exact wn2_n | exact Nat.le_of_ble_eq_true rfl | omega | (refine nI_z ?_ ?_ <;> omega)) only [s32_66, s32_67, s32_70, s32_71, s32_72, s32_73, s32_74, s32_75, wX_some, Option.toList_some, Option.toList_none, List.cons_append, List.nil_append, List.map_cons, List.map_nil, List.sum_cons, List.sum_nil, Value.category, wn2_i, wn2_r, wn2_n, Option.isSome_some, List.getElem?_cons_zero, List.getElem?_cons_succ, nI_add, nI_rem2, hg, a5, g5, iat_n, v5]
    have hT3 : TA (h2.set (a + 5) (ms_ia (st.set p (nI (A 2 p + 1))))) a (up2 (up2 (gotA A p) 1 p 0) 2 p (A 2 p + 1)) := by
      have := TA.arr (d := 4) hT2 (by omega) (l := st.set p (nI (A 2 p + 1))) (f := up1 (A 2) p (A 2 p + 1)) (by rw [show (if 4 = 5 then up2 (gotA A p) 1 p 0 7 1 else up2 (gotA A p) 1 p 0 7 0) = A 7 0 from e7]; exact k5.put (by omega))
      have e9 : up2 (up2 (gotA A p) 1 p 0) 2 p (A 2 p + 1) = fun c => if c = 2 then up1 (A 2) p (A 2 p + 1) else up2 (gotA A p) 1 p 0 c := by
        show (fun d => if d = 2 then up1 (up2 (gotA A p) 1 p 0 2) p (A 2 p + 1) else up2 (gotA A p) 1 p 0 d) = _
        rw [e2]
      rw [e9]
      exact this
    have ho3 : Off h (h2.set (a + 5) (ms_ia (st.set p (nI (A 2 p + 1))))) a 7 := ho2.st (by omega) (by omega)
    generalize h2.set (a + 5) (ms_ia (st.set p (nI (A 2 p + 1)))) = h3 at hT3 ho3 ⊢
    obtain ⟨kd, we, us, di, st, wo, hg, hi, hI, -⟩ := hT3.facts
    simp (disch := first | assumption | exact wn2_i | exact wn2_r | exact wn2_n | exact Nat.le_of_ble_eq_true rfl | omega | (refine nI_z ?_ ?_ <;> omega)) only [s32_76, s32_77, s32_78, s32_81, wX_some, Option.toList_some, Option.toList_none, List.cons_append, List.nil_append, List.map_cons, List.map_nil, List.sum_cons, List.sum_nil, Value.category, wn2_i, wn2_r, wn2_n, Option.isSome_some, List.getElem?_cons_zero, List.getElem?_cons_succ, nI_add, nI_rem2, hg, hi, TO_len, TO_ch]
    exact ⟨by omega, k _ hT3.up (ho3.st (by omega) (by omega))⟩
  obtain ⟨kd, we, us, di, st, wo, hg, hi, hI, a1, a2, a3, a4, a5, a6, g1, g2, g3, g4, g5, g6, k1, k2, k3, k4, k5, k6, hlen⟩ := hT.facts
  have v2 := k2.2 p hp
  have v1 := k1.2 p hp
  have hlt : A 4 0 % A 7 1 < A 7 1 := Nat.mod_lt _ (by omega)
  have hv := G6 _ hlt
  by_cases hz : A 0 p = 0
  · simp (disch := first | assumption | exact wn2_i | exact wn2_r | exact wn2_n | exact Nat.le_of_ble_eq_true rfl | omega | (refine nI_z ?_ ?_ <;> omega)) only [s32_0, s32_1, s32_2, s32_5, s32_8, s32_9, s32_10, s32_13, s32_14, s32_15, s32_18, s32_19, s32_20, s32_23, s32_24, s32_25, s32_28, wX_some, Option.toList_some, Option.toList_none, List.cons_append, List.nil_append, List.map_cons, List.map_nil, List.sum_cons, List.sum_nil, Value.category, wn2_i, wn2_r, wn2_n, Option.isSome_some, List.getElem?_cons_zero, List.getElem?_cons_succ, nI_add, nI_rem2, hg, hi, hasStreet_in hT, a2, g2, iat_n, v2, hz, nI_eq0, if_true, if_false, Nat.reduceEqDiff, TO_len, TO_wood]
    refine ⟨by omega, tail _ ?_ (Off.rf.st (by omega) (by omega))⟩
    rw [gotA, if_pos hz]
    exact hT.up
  · have n0 : ¬ nI (A 0 p) = 0 := nI_z (by omega) (by omega)
    by_cases h3 : A 5 p = 3
    · simp (disch := first | assumption | exact wn2_i | exact wn2_r | exact wn2_n | exact Nat.le_of_ble_eq_true rfl | omega | (refine nI_z ?_ ?_ <;> omega)) only [s32_0, s32_1, s32_2, s32_5, s32_8, s32_9, s32_10, s32_13, s32_14, s32_15, s32_18, s32_19, s32_20, s32_23, s32_24, s32_25, s32_28, s32_31, s32_32, s32_33, s32_34, s32_37, s32_38, s32_39, s32_40, s32_43, s32_44, s32_47, s32_48, s32_49, s32_52, s32_53, s32_56, wX_some, Option.toList_some, Option.toList_none, List.cons_append, List.nil_append, List.map_cons, List.map_nil, List.sum_cons, List.sum_nil, Value.category, wn2_i, wn2_r, wn2_n, Option.isSome_some, List.getElem?_cons_zero, List.getElem?_cons_succ, nI_add, nI_rem2, hg, hi, hasStreet_in hT, a2, g2, iat_n, v2, nI_eq0, hz, if_true, if_false, Nat.reduceEqDiff, a1, g1, v1, h3, nI_eq, worthNow_wp hT, nI_div]
      refine enrich_wp hT hp G2 (by omega) (by omega) (fun h1 hT1 ho1 => ?_)
      simp only [wX_some, Option.toList_some, Option.toList_none, List.cons_append, List.nil_append, List.map_cons, List.map_nil, List.sum_cons, List.sum_nil, Value.category, wn2_i, wn2_r, wn2_n, Option.isSome_some, List.getElem?_cons_zero, List.getElem?_cons_succ, nI_add, nI_rem2]
      refine tail _ ?_ ho1
      rw [gotA, if_neg hz, valA, if_pos h3]
      exact hT1
    · simp (disch := first | assumption | exact wn2_i | exact wn2_r | exact wn2_n | exact Nat.le_of_ble_eq_true rfl | omega | (refine nI_z ?_ ?_ <;> omega)) only [s32_0, s32_1, s32_2, s32_5, s32_8, s32_9, s32_10, s32_13, s32_14, s32_15, s32_18, s32_19, s32_20, s32_23, s32_24, s32_25, s32_28, s32_31, s32_32, s32_33, s32_34, s32_37, s32_38, s32_39, s32_40, s32_43, s32_44, s32_47, s32_48, s32_49, s32_52, s32_53, s32_56, wX_some, Option.toList_some, Option.toList_none, List.cons_append, List.nil_append, List.map_cons, List.map_nil, List.sum_cons, List.sum_nil, Value.category, wn2_i, wn2_r, wn2_n, Option.isSome_some, List.getElem?_cons_zero, List.getElem?_cons_succ, nI_add, nI_rem2, hg, hi, hasStreet_in hT, a2, g2, iat_n, v2, nI_eq0, hz, if_true, if_false, Nat.reduceEqDiff, a1, g1, v1, h3, nI_eq, worthNow_wp hT]
      refine enrich_wp hT hp G2 (by omega) (by omega) (fun h1 hT1 ho1 => ?_)
      simp only [wX_some, Option.toList_some, Option.toList_none, List.cons_append, List.nil_append, List.map_cons, List.map_nil, List.sum_cons, List.sum_nil, Value.category, wn2_i, wn2_r, wn2_n, Option.isSome_some, List.getElem?_cons_zero, List.getElem?_cons_succ, nI_add, nI_rem2]
      refine tail _ ?_ ho1
      rw [gotA, if_neg hz, valA, if_neg h3]
      exact hT1
def decTo (A : AS) (i : Nat) : AS := fun c => if c = 0 then fun j => if j < i then A 0 j - A 6 j else A 0 j else A c
theorem nextQuarter_wp (hT : TA h a A) (hG : AG A) (hq : A 4 0 ≤ 200000) {lost : Bool} {l2 : Option Value} (k : ∀ h1, TA h1 a (nqA A lost) → Off h h1 a 7 → Q none h1) : WP sc 30 0 [some (.ref a), some (.int (if lost then nI 1 else nI 0)), l2] [] h Q := by
  have hG0 := hG
  obtain ⟨⟨G1, G2⟩, ⟨G3, G4⟩, G5, G6, G7⟩ := hG
  have tail : ∀ h1 l2, TA h1 a (decA A) → Off h h1 a 7 → WP sc 30 39 [some (.ref a), some (.int (if lost then nI 1 else nI 0)), l2] [] h1 Q := by
    intro h1 l2 hT1 ho1
    have hGd := decA_ag hG0
    obtain ⟨kd, we, us, di, st, wo, hg, hi, hI, -⟩ := hT1.facts
    have hb : ∀ s, s < decA A 7 0 → decA A 0 s ≤ 2000 ∧ decA A 1 s ≤ 2000 ∧ decA A 5 s ≤ 3 := fun s hs => by have := hGd.2.2.1 s hs; omega
    have hx : ∀ s, s < 6 → (nI s = -1 ↔ s = 6) := fun s hs => ⟨fun e => by rw [nI_m1 (by omega)] at e; exact e.elim, fun e => by omega⟩
    have fin : ∀ p, p < A 7 0 → whoA A lost = p → WP sc 32 0 [some (.ref a), some (.int (nI p))] [] h1 (fun r h1 => WP sc 30 62 [some (.ref a), some (.int (if lost then nI 1 else nI 0)), some (.int (nI (prn (decA A) 6)))] (r.toList ++ []) h1 Q) := by
      intro p hp hw
      refine stand_wp hT1 (p := p) hp hGd hq (fun h2 hT2 ho2 => ?_)
      obtain ⟨kd, we, us, di, st, wo, hg, hi, hI, -⟩ := hT2.facts
      have e4 : stdA (decA A) p 4 0 = A 4 0 := by show gotA (decA A) p 4 0 = _; rw [gotA_40]; rfl
      simp (disch := first | assumption | exact wn2_i | exact wn2_r | exact wn2_n | exact Nat.le_of_ble_eq_true rfl | omega | (refine nI_z ?_ ?_ <;> omega)) only [s30_62, s30_63, s30_64, s30_67, s30_68, s30_69, s30_72, wX_some, Option.toList_some, Option.toList_none, List.cons_append, List.nil_append, List.map_cons, List.map_nil, List.sum_cons, List.sum_nil, Value.category, wn2_i, wn2_r, wn2_n, Option.isSome_some, List.getElem?_cons_zero, List.getElem?_cons_succ, nI_add, nI_rem2, hg, hi, e4, TO_len, TO_q]
      refine ⟨by omega, k _ ?_ ((ho1.tr ho2).st (by omega) (by omega))⟩
      have := hT2.up (i := 0) (v := A 4 0 + 1)
      rw [nqA, hw]
      exact this
    have hp1 : prn (decA A) 6 < A 7 0 := prn_lt (A := decA A) G1
    cases lost with
    | false =>
      simp (disch := first | assumption | exact wn2_i | exact wn2_r | exact wn2_n | exact Nat.le_of_ble_eq_true rfl | omega | (refine nI_z ?_ ?_ <;> omega)) only [s30_39, s30_40, s30_41, s30_44, s30_45, s30_46, s30_47, s30_50, s30_51, s30_52, s30_55, s30_58, s30_59, wX_some, Option.toList_some, Option.toList_none, List.cons_append, List.nil_append, List.map_cons, List.map_nil, List.sum_cons, List.sum_nil, Value.category, wn2_i, wn2_r, wn2_n, Option.isSome_some, List.getElem?_cons_zero, List.getElem?_cons_succ, nI_add, nI_rem2, hI, poorestLooking_wp hT1 hx G1 G2 hb, nI_eq0, if_true, if_false, Nat.reduceEqDiff, Bool.false_eq_true]
      exact fin _ hp1 rfl
    | true =>
      have hx2 : ∀ s, s < 6 → (nI s = nI (prn (decA A) 6) ↔ s = prn (decA A) 6) := fun s hs => nI_eq (by omega) (by omega)
      simp (disch := first | assumption | exact wn2_i | exact wn2_r | exact wn2_n | exact Nat.le_of_ble_eq_true rfl | omega | (refine nI_z ?_ ?_ <;> omega)) only [s30_39, s30_40, s30_41, s30_44, s30_45, s30_46, s30_47, s30_50, s30_51, s30_52, s30_55, s30_58, s30_59, wX_some, Option.toList_some, Option.toList_none, List.cons_append, List.nil_append, List.map_cons, List.map_nil, List.sum_cons, List.sum_nil, Value.category, wn2_i, wn2_r, wn2_n, Option.isSome_some, List.getElem?_cons_zero, List.getElem?_cons_succ, nI_add, nI_rem2, hI, poorestLooking_wp hT1 hx G1 G2 hb, poorestLooking_wp hT1 hx2 G1 G2 hb, nI_eq0, if_true, if_false, Nat.reduceEqDiff]
      exact fin _ (prn_lt (A := decA A) G1) rfl
  have key : ∀ i, i ≤ A 7 0 → ∀ h1, TA h1 a (decTo A i) → Off h h1 a 7 → WP sc 30 2 [some (.ref a), some (.int (if lost then nI 1 else nI 0)), some (.int (nI i))] [] h1 Q := by
    refine loop_up ?_ ?_
    · intro h1 hT1 ho1
      have hge : nI (A 7 0) ≤ nI (A 7 0) := nI_le (Nat.le_refl _) (by omega)
      obtain ⟨kd, we, us, di, st, wo, hg, hi, hI, a1, a2, a3, a4, a5, a6, g1, g2, g3, g4, g5, g6, k1, k2, k3, k4, k5, k6, hlen⟩ := hT1.facts
      have hg6 := hg 6
      rw [s30_2]
      simp (disch := first | assumption | exact wn2_i | exact wn2_r | exact wn2_n | exact Nat.le_of_ble_eq_true rfl | omega | (refine nI_z ?_ ?_ <;> omega)) only [s30_3, s30_4, s30_7, wX_some, Option.toList_some, Option.toList_none, List.cons_append, List.nil_append, List.map_cons, List.map_nil, List.sum_cons, List.sum_nil, Value.category, wn2_i, wn2_r, wn2_n, Option.isSome_some, List.getElem?_cons_zero, List.getElem?_cons_succ, nI_add, nI_rem2, hg]
      rw [show nI (decTo A (A 7 0) 7 0) = nI (A 7 0) from rfl, if_pos hge]
      refine tail h1 _ ?_ ho1
      obtain ⟨kd, we, us, di, st, wo, z0, z1, j1, j2, j3, j4, j5, j6⟩ := hT1
      exact ⟨kd, we, us, di, st, wo, z0, z1, j1, j2.to (Nat.le_refl _) (fun i hi => by
        have hi : i < A 7 0 := hi
        show (if i < A 7 0 then A 0 i - A 6 i else A 0 i) = A 0 i - A 6 i
        rw [if_pos hi]), j3, j4, j5, j6⟩
    · intro i hlt ih h1 hT1 ho1
      have hge : ¬ nI (A 7 0) ≤ nI i := nI_ge hlt (by omega)
      obtain ⟨kd, we, us, di, st, wo, hg, hi, hI, a1, a2, a3, a4, a5, a6, g1, g2, g3, g4, g5, g6, k1, k2, k3, k4, k5, k6, hlen⟩ := hT1.facts
      have v2 := k2.2 i hlt
      have v3 := k3.2 i hlt
      have b := G5 i hlt
      have e2 : decTo A i 0 i = A 0 i := by show (if i < i then _ else _) = _; rw [if_neg (by omega)]
      have e3 : decTo A i 6 i = A 6 i := rfl
      rw [e2] at v2
      rw [e3] at v3
      have hg6 : ms_get h1 a 4 6 = some (.int (nI (A 7 0))) := hg 6
      have hg1 : ms_get h1 a 4 1 = some (.ref (a + 2)) := hg 1
      have hg2 : ms_get h1 a 4 2 = some (.ref (a + 3)) := hg 2
      rw [s30_2]
      simp (disch := first | assumption | exact wn2_i | exact wn2_r | exact wn2_n | exact Nat.le_of_ble_eq_true rfl | omega | (refine nI_z ?_ ?_ <;> omega)) only [s30_3, s30_4, s30_7, s30_10, s30_11, s30_14, s30_15, s30_16, s30_19, s30_20, s30_21, s30_22, s30_25, s30_26, s30_27, s30_28, s30_29, s30_32, s30_33, s30_36, wX_some, Option.toList_some, Option.toList_none, List.cons_append, List.nil_append, List.map_cons, List.map_nil, List.sum_cons, List.sum_nil, Value.category, wn2_i, wn2_r, wn2_n, Option.isSome_some, List.getElem?_cons_zero, List.getElem?_cons_succ, nI_add, nI_rem2, hg6, hg1, hg2, hge, if_false, a2, a3, g2, g3, iat_n, v2, v3, mx_sub]
      refine ih _ ?_ (ho1.st (by omega) (by omega))
      have := TA.arr (d := 1) hT1 (by omega) (l := we.set i (nI (A 0 i - A 6 i))) (f := up1 (decTo A i 0) i (A 0 i - A 6 i)) (k2.put (by omega))
      have e9 : decTo A (i + 1) = fun c => if c = 0 then up1 (decTo A i 0) i (A 0 i - A 6 i) else decTo A i c := by
        funext c
        by_cases hc : c = 0
        · subst hc
          funext j
          show (if j < i + 1 then _ else _) = (if j = i then _ else if j < i then _ else _)
          by_cases hj : j = i
          · subst hj; simp
          · by_cases hj2 : j < i
            · rw [if_pos (by omega), if_neg hj, if_pos hj2]
            · rw [if_neg (by omega), if_neg hj, if_neg hj2]
        · simp [decTo, hc]
      rw [e9]
      exact this
  simp (disch := first | assumption | exact wn2_i | exact wn2_r | exact wn2_n | exact Nat.le_of_ble_eq_true rfl | omega | (refine nI_z ?_ ?_ <;> omega)) only [s30_0, s30_1, wX_some, Option.toList_some, Option.toList_none, List.cons_append, List.nil_append, List.map_cons, List.map_nil, List.sum_cons, List.sum_nil, Value.category, wn2_i, wn2_r, wn2_n, Option.isSome_some, List.getElem?_cons_zero, List.getElem?_cons_succ, nI_add, nI_rem2]
  refine key 0 (by omega) h ?_ Off.rf
  have : decTo A 0 = A := by
    funext c
    by_cases hc : c = 0
    · subst hc; funext j; simp [decTo]
    · simp [decTo, hc]
  rw [this]
  exact hT
theorem letPass_wp (hT : TA h a A) (hG : AG A) {n : Nat} (hn : n ≤ 1000) (hq : A 4 0 + n ≤ 200000) {l2 : Option Value} (k : ∀ h1, TA h1 a (lpA A n) → Off h h1 a 7 → Q none h1) : WP sc 29 0 [some (.ref a), some (.int (nI n)), l2] [] h Q := by
  have key : ∀ i, i ≤ n → ∀ h1, TA h1 a (lpA A i) → Off h h1 a 7 → WP sc 29 2 [some (.ref a), some (.int (nI n)), some (.int (nI i))] [] h1 Q := by
    refine loop_up ?_ ?_
    · intro h1 hT1 ho1
      have hge : nI n ≤ nI n := nI_le (Nat.le_refl _) (by omega)
      rw [s29_2]
      simp (disch := first | assumption | exact wn2_i | exact wn2_r | exact wn2_n | exact Nat.le_of_ble_eq_true rfl | omega | (refine nI_z ?_ ?_ <;> omega)) only [s29_3, s29_4, s29_7, s29_8, s29_9, s29_12, s29_15, s29_18, wX_some, Option.toList_some, Option.toList_none, List.cons_append, List.nil_append, List.map_cons, List.map_nil, List.sum_cons, List.sum_nil, Value.category, wn2_i, wn2_r, wn2_n, Option.isSome_some, List.getElem?_cons_zero, List.getElem?_cons_succ, nI_add, nI_rem2, hge, if_true]
      exact k _ hT1 ho1
    · intro i hlt ih h1 hT1 ho1
      have hge : ¬ nI n ≤ nI i := nI_ge hlt (by omega)
      obtain ⟨kd, we, us, di, st, wo, hg, hi, hI, -⟩ := hT1.facts
      rw [s29_2]
      simp (disch := first | assumption | exact wn2_i | exact wn2_r | exact wn2_n | exact Nat.le_of_ble_eq_true rfl | omega | (refine nI_z ?_ ?_ <;> omega)) only [s29_3, s29_4, s29_7, s29_8, s29_9, wX_some, Option.toList_some, Option.toList_none, List.cons_append, List.nil_append, List.map_cons, List.map_nil, List.sum_cons, List.sum_nil, Value.category, wn2_i, wn2_r, wn2_n, Option.isSome_some, List.getElem?_cons_zero, List.getElem?_cons_succ, nI_add, nI_rem2, hge, if_false]
      refine nextQuarter_wp (lost := false) hT1 (lpA_ag hG i) (by rw [(lpA_s i).2.2.2.2]; omega) (fun h2 hT2 ho2 => ?_)
      simp (disch := first | assumption | exact wn2_i | exact wn2_r | exact wn2_n | exact Nat.le_of_ble_eq_true rfl | omega | (refine nI_z ?_ ?_ <;> omega)) only [s29_12, s29_15, wX_some, Option.toList_some, Option.toList_none, List.cons_append, List.nil_append, List.map_cons, List.map_nil, List.sum_cons, List.sum_nil, Value.category, wn2_i, wn2_r, wn2_n, Option.isSome_some, List.getElem?_cons_zero, List.getElem?_cons_succ, nI_add, nI_rem2]
      exact ih _ hT2 (ho1.tr ho2)
  simp (disch := first | assumption | exact wn2_i | exact wn2_r | exact wn2_n | exact Nat.le_of_ble_eq_true rfl | omega | (refine nI_z ?_ ?_ <;> omega)) only [s29_0, s29_1, wX_some, Option.toList_some, Option.toList_none, List.cons_append, List.nil_append, List.map_cons, List.map_nil, List.sum_cons, List.sum_nil, Value.category, wn2_i, wn2_r, wn2_n, Option.isSome_some, List.getElem?_cons_zero, List.getElem?_cons_succ, nI_add, nI_rem2]
  exact key 0 (by omega) h hT Off.rf
end TOWN3

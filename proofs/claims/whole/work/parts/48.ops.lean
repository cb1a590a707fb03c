-- MayorsChair's calls: seen, forget, count
def op_seen (n s : Int32) (S : GS) : OPR := if rng 1 40 n && inS S.2.1 s then if S.2.2.2.2.length < 6 then (nI (S.2.2.2.2.length + 1), (S.1, S.2.1, S.2.2.1, S.2.2.2.1, S.2.2.2.2 ++ [(nat n, nat s)])) else (-3, S) else (-1, S)
def op_forget (S : GS) : OPR := (nI S.2.2.2.2.length, (S.1, S.2.1, S.2.2.1, S.2.2.2.1, []))
def op_count (w : Int32) (S : GS) : OPR := (if w = nI 0 then nI (S.2.1 7 0) else if w = nI 1 then nI (S.2.1 7 1) else if w = nI 2 then nI (S.2.1 4 0) else if w = nI 3 then chI (S.2.1 4 2) else if w = nI 4 then nI (smW S.2.1 (S.2.1 7 0)) else if w = nI 5 then nI (S.2.1 4 1) else if w = nI 6 then nI (S.2.1 4 0 % S.2.1 7 1) else if w = nI 7 then nI S.2.2.2.2.length else if w = nI 8 then nI S.2.2.1.length else if w = nI 9 then nI S.2.2.2.1.length else if w = nI 10 then nI S.1.2 else -1, S)
theorem GA.obj {h : List ms_C} {a : Nat} {L : List (Nat × Nat)} (hp : GA h a L) : h[a]? = some (ms_obj 3 [.ref (a + 1), .ref (a + 2), .int (nI L.length)]) := by
  obtain ⟨qs, ps, h0, r⟩ := hp
  exact h0
section CSEEN
variable {sc : List Int32} {h : List ms_C} {Q : Option Value → List ms_C → Prop} {S : GS}
theorem CI.sights {T : Nat → Nat} {m : Nat} {A : AS} {U K : List AS} {L L' : List (Nat × Nat)} {h1 : List ms_C} (hc : CI h T m A U K L) (hG1 : GA h1 cG L') (ho : Off h h1 cG 3) : CI h1 T m A U K L' := by
  have lay := cLay
  obtain ⟨h0, ⟨p', hs⟩, hT, ⟨B', hR⟩, hP, hK', hG, ⟨t, be, htb, hO⟩⟩ := hc
  have hx : OffX h h1 (fun i => cG ≤ i ∧ i < cG + 3) := ho.x (fun i x1 x2 => ⟨x1, x2⟩)
  exact ⟨(hx.2 0 (by omega)).trans h0, ⟨p', hs.offX hx (fun i x1 x2 => by omega)⟩, hT.offX hx (fun i x1 x2 => by omega), ⟨B', hR.offX hx (fun i x1 x2 => by omega)⟩, hP.offX hx (fun i x1 x2 => by omega), hK'.offX hx (fun i x1 x2 => by omega), hG1, ⟨t, be, htb, hO.offX hx (fun i x1 x2 => by omega)⟩⟩
theorem c_seen (hc : CIS h S) (hg : GIS S) {n s : Int32} (k : ∀ h1, CIS h1 (op_seen n s S).2 → Off h h1 0 97 → Q (some (.int (op_seen n s S).1)) h1) : WP sc 62 0 [some (.ref 0), some (.int n), some (.int s)] [] h Q := by
  obtain ⟨⟨T, m⟩, A, U, K, L⟩ := S
  have lay := cLay
  have hc : CI h T m A U K L := hc
  have hg : GI m A U K L := hg
  have hc0 := hc
  obtain ⟨g5, i0, iS, iT, iR, iP, iK, iG, iO⟩ := CI.facts hc
  obtain ⟨-, hAG, hq, hU, hK, hUl, hKl, hLl, hL⟩ := hg
  obtain ⟨⟨G1, G2⟩, ⟨G3, G4⟩, G5, G6, G7⟩ := hAG
  have hw := fun Q x => hasStreet_rng (sc := sc) (Q := Q) hc.2.2.1 (by omega) G2 (x := x)
  unfold op_seen inS at k
  dsimp only at k
  cases hr : rng 1 40 n with
  | false =>
    rw [hr, Bool.false_and, if_neg (by decide)] at k
    simp (disch := first | assumption | exact wn2_i | exact wn2_r | exact wn2_n | exact Nat.le_of_ble_eq_true rfl | omega | (refine nI_z ?_ ?_ <;> omega)) only [s62_0, s62_1, s62_2, s62_4, s62_7, s62_10, s62_11, s62_14, s62_15, s62_18, s62_21, s62_22, s62_23, s62_24, s62_27, s62_28, s62_29, s62_32, s62_35, s62_36, s62_39, s62_42, s62_45, s62_47, wX_some, Option.toList_some, Option.toList_none, List.cons_append, List.nil_append, List.map_cons, List.map_nil, List.sum_cons, List.sum_nil, Value.category, wn2_i, wn2_r, wn2_n, Option.isSome_some, List.getElem?_cons_zero, List.getElem?_cons_succ, nI_add, nI_rem2, within_rng, hr, Bool.false_eq_true, if_false, nI_eq0, if_true]
    exact k h hc0 Off.rf
  | true =>
    cases hr2 : rng 0 (A 7 0 - 1) s with
    | false =>
      rw [hr2, Bool.and_false, if_neg (by decide)] at k
      simp (disch := first | assumption | exact wn2_i | exact wn2_r | exact wn2_n | exact Nat.le_of_ble_eq_true rfl | omega | (refine nI_z ?_ ?_ <;> omega)) only [s62_0, s62_1, s62_2, s62_4, s62_7, s62_10, s62_11, s62_14, s62_15, s62_18, s62_21, s62_22, s62_23, s62_24, s62_27, s62_28, s62_29, s62_32, s62_35, s62_36, s62_39, s62_42, s62_45, s62_47, wX_some, Option.toList_some, Option.toList_none, List.cons_append, List.nil_append, List.map_cons, List.map_nil, List.sum_cons, List.sum_nil, Value.category, wn2_i, wn2_r, wn2_n, Option.isSome_some, List.getElem?_cons_zero, List.getElem?_cons_succ, nI_add, nI_rem2, g5, hw, hr, hr2, within_rng, Bool.false_eq_true, if_false, nI_eq0, if_true, Nat.reduceEqDiff]
      exact k h hc0 Off.rf
    | true =>
      rw [hr, hr2, Bool.and_true, if_pos rfl] at k
      obtain ⟨i, i1, i2, rfl⟩ := rng_nI (by omega) hr
      obtain ⟨j, j1, j2, rfl⟩ := rng_nI (by omega) hr2
      rw [nat_nI (by omega), nat_nI (by omega)] at k
      by_cases hl : L.length < 6
      · rw [if_pos hl] at k
        simp (disch := first | assumption | exact wn2_i | exact wn2_r | exact wn2_n | exact Nat.le_of_ble_eq_true rfl | omega | (refine nI_z ?_ ?_ <;> omega)) only [s62_0, s62_1, s62_2, s62_4, s62_7, s62_10, s62_11, s62_14, s62_15, s62_18, s62_21, s62_22, s62_23, s62_24, s62_27, s62_28, s62_29, wX_some, Option.toList_some, Option.toList_none, List.cons_append, List.nil_append, List.map_cons, List.map_nil, List.sum_cons, List.sum_nil, Value.category, wn2_i, wn2_r, wn2_n, Option.isSome_some, List.getElem?_cons_zero, List.getElem?_cons_succ, nI_add, nI_rem2, g5, hw, hr, hr2, within_rng, if_false, nI_eq0, if_true, Nat.reduceEqDiff]
        refine sappend_wp hc.2.2.2.2.2.2.1 hl (fun h1 hG1 ho1 => ?_)
        have hc1 : CI h1 T m A U K (L ++ [(i, j)]) := CI.sights hc hG1 ho1
        obtain ⟨g5, -⟩ := CI.facts hc1
        have hgp := g_obj hG1.obj
        have hll : (L ++ [(i, j)]).length = L.length + 1 := by simp
        rw [hll] at hgp
        simp (disch := first | assumption | exact wn2_i | exact wn2_r | exact wn2_n | exact Nat.le_of_ble_eq_true rfl | omega | (refine nI_z ?_ ?_ <;> omega)) only [s62_32, s62_35, s62_36, s62_39, s62_42, s62_45, s62_47, wX_some, Option.toList_some, Option.toList_none, List.cons_append, List.nil_append, List.map_cons, List.map_nil, List.sum_cons, List.sum_nil, Value.category, wn2_i, wn2_r, wn2_n, Option.isSome_some, List.getElem?_cons_zero, List.getElem?_cons_succ, nI_add, nI_rem2, nI_eq0, if_false, Nat.reduceEqDiff, g5, hgp]
        exact k h1 hc1 (ho1.wide (by omega) (by omega))
      · rw [if_neg hl] at k
        have hap := fun Q x y => sappend_full (sc := sc) (Q := Q) hc.2.2.2.2.2.2.1 (by omega) (x := x) (y := y)
        simp (disch := first | assumption | exact wn2_i | exact wn2_r | exact wn2_n | exact Nat.le_of_ble_eq_true rfl | omega | (refine nI_z ?_ ?_ <;> omega)) only [s62_0, s62_1, s62_2, s62_4, s62_7, s62_10, s62_11, s62_14, s62_15, s62_18, s62_21, s62_22, s62_23, s62_24, s62_27, s62_28, s62_29, s62_32, s62_35, s62_36, s62_39, s62_42, s62_45, s62_47, wX_some, Option.toList_some, Option.toList_none, List.cons_append, List.nil_append, List.map_cons, List.map_nil, List.sum_cons, List.sum_nil, Value.category, wn2_i, wn2_r, wn2_n, Option.isSome_some, List.getElem?_cons_zero, List.getElem?_cons_succ, nI_add, nI_rem2, g5, hw, hr, hr2, within_rng, hap, if_false, nI_eq0, if_true, Nat.reduceEqDiff]
        exact k h hc0 Off.rf
theorem c_forget (hc : CIS h S) {l1 : Option Value} (k : ∀ h1, CIS h1 (op_forget S).2 → Off h h1 0 97 → Q (some (.int (op_forget S).1)) h1) : WP sc 63 0 [some (.ref 0), l1] [] h Q := by
  obtain ⟨⟨T, m⟩, A, U, K, L⟩ := S
  have lay := cLay
  have hc : CI h T m A U K L := hc
  obtain ⟨g5, i0, iS, iT, iR, iP, iK, iG, iO⟩ := CI.facts hc
  have hG := hc.2.2.2.2.2.2.1
  have hgp := g_obj hG.obj
  have hip := i_obj hG.obj
  simp (disch := first | assumption | exact wn2_i | exact wn2_r | exact wn2_n | exact Nat.le_of_ble_eq_true rfl | omega | (refine nI_z ?_ ?_ <;> omega)) only [s63_0, s63_1, s63_4, s63_7, s63_8, s63_9, s63_12, s63_13, s63_16, s63_17, wX_some, Option.toList_some, Option.toList_none, List.cons_append, List.nil_append, List.map_cons, List.map_nil, List.sum_cons, List.sum_nil, Value.category, wn2_i, wn2_r, wn2_n, Option.isSome_some, List.getElem?_cons_zero, List.getElem?_cons_succ, nI_add, nI_rem2, g5, hgp, hip, List.set_cons_succ, List.set_cons_zero, List.length_cons, List.length_nil, Nat.reduceAdd, Nat.reduceLT, true_and]
  have ho : Off h (h.set cG (ms_obj 3 [.ref (cG + 1), .ref (cG + 2), .int (nI 0)])) cG 3 := Off.rf.st (by omega) (by omega)
  exact k _ (CI.sights hc hG.zero ho) (ho.wide (by omega) (by omega))
theorem c_count (hc : CIS h S) (hg : GIS S) {w : Int32} (k : ∀ h1, CIS h1 (op_count w S).2 → Off h h1 0 97 → Q (some (.int (op_count w S).1)) h1) : WP sc 74 0 [some (.ref 0), some (.int w)] [] h Q := by
  obtain ⟨⟨T, m⟩, A, U, K, L⟩ := S
  have lay := cLay
  have hc : CI h T m A U K L := hc
  have hg : GI m A U K L := hg
  have hc0 := hc
  have k := fun (_ : True) => k h hc0 Off.rf
  obtain ⟨g5, i0, iS, iT, iR, iP, iK, iG, iO⟩ := CI.facts hc
  obtain ⟨-, hAG, hq, hU, hK, hUl, hKl, hLl, hL⟩ := hg
  obtain ⟨⟨G1, G2⟩, ⟨G3, G4⟩, G5, G6, G7⟩ := hAG
  obtain ⟨h0, ⟨p, hs⟩, hT, hR, hP, hK, hG, ⟨t, be, htb, hO⟩⟩ := hc
  obtain ⟨_, _, _, _, _, _, hgT, -⟩ := hT.facts
  obtain ⟨_, hgS, -⟩ := hs.facts
  have hgG := g_obj hG.obj
  have hgP := g_obj hP.obj
  have hgK := g_obj hK.obj
  have htot := fun Q => totalWealth_wp (sc := sc) (Q := Q) (l1 := none) (l2 := none) hT G2
  have hturn := fun Q => turn_wp (sc := sc) (Q := Q) hT G3 G4 (by omega)
  unfold op_count at k
  dsimp only at k
  have k := k trivial
  rw [s74_0, s74_1]
  by_cases c0 : w = nI 0
  · rw [if_pos c0] at k ⊢
    simp (disch := first | assumption | exact wn2_i | exact wn2_r | exact wn2_n | exact Nat.le_of_ble_eq_true rfl | omega | (refine nI_z ?_ ?_ <;> omega)) only [s74_60, s74_61, s74_64, s74_67, wX_some, Option.toList_some, Option.toList_none, List.cons_append, List.nil_append, List.map_cons, List.map_nil, List.sum_cons, List.sum_nil, Value.category, wn2_i, wn2_r, wn2_n, Option.isSome_some, List.getElem?_cons_zero, List.getElem?_cons_succ, nI_add, nI_rem2, g5, hgT]
    exact k
  rw [if_neg c0] at k ⊢
  by_cases c1 : w = nI 1
  · rw [if_pos c1] at k ⊢
    simp (disch := first | assumption | exact wn2_i | exact wn2_r | exact wn2_n | exact Nat.le_of_ble_eq_true rfl | omega | (refine nI_z ?_ ?_ <;> omega)) only [s74_68, s74_69, s74_72, s74_75, wX_some, Option.toList_some, Option.toList_none, List.cons_append, List.nil_append, List.map_cons, List.map_nil, List.sum_cons, List.sum_nil, Value.category, wn2_i, wn2_r, wn2_n, Option.isSome_some, List.getElem?_cons_zero, List.getElem?_cons_succ, nI_add, nI_rem2, g5, hgT]
    exact k
  rw [if_neg c1] at k ⊢
  by_cases c2 : w = nI 2
  · rw [if_pos c2] at k ⊢
    simp (disch := first | assumption | exact wn2_i | exact wn2_r | exact wn2_n | exact Nat.le_of_ble_eq_true rfl | omega | (refine nI_z ?_ ?_ <;> omega)) only [s74_76, s74_77, s74_80, s74_83, wX_some, Option.toList_some, Option.toList_none, List.cons_append, List.nil_append, List.map_cons, List.map_nil, List.sum_cons, List.sum_nil, Value.category, wn2_i, wn2_r, wn2_n, Option.isSome_some, List.getElem?_cons_zero, List.getElem?_cons_succ, nI_add, nI_rem2, g5, hgT]
    exact k
  rw [if_neg c2] at k ⊢
  by_cases c3 : w = nI 3
  · rw [if_pos c3] at k ⊢
    simp (disch := first | assumption | exact wn2_i | exact wn2_r | exact wn2_n | exact Nat.le_of_ble_eq_true rfl | omega | (refine nI_z ?_ ?_ <;> omega)) only [s74_84, s74_85, s74_88, s74_91, wX_some, Option.toList_some, Option.toList_none, List.cons_append, List.nil_append, List.map_cons, List.map_nil, List.sum_cons, List.sum_nil, Value.category, wn2_i, wn2_r, wn2_n, Option.isSome_some, List.getElem?_cons_zero, List.getElem?_cons_succ, nI_add, nI_rem2, g5, hgT]
    exact k
  rw [if_neg c3] at k ⊢
  by_cases c4 : w = nI 4
  · rw [if_pos c4] at k ⊢
    simp (disch := first | assumption | exact wn2_i | exact wn2_r | exact wn2_n | exact Nat.le_of_ble_eq_true rfl | omega | (refine nI_z ?_ ?_ <;> omega)) only [s74_92, s74_93, s74_96, s74_99, wX_some, Option.toList_some, Option.toList_none, List.cons_append, List.nil_append, List.map_cons, List.map_nil, List.sum_cons, List.sum_nil, Value.category, wn2_i, wn2_r, wn2_n, Option.isSome_some, List.getElem?_cons_zero, List.getElem?_cons_succ, nI_add, nI_rem2, g5, htot]
    exact k
  rw [if_neg c4] at k ⊢
  by_cases c5 : w = nI 5
  · rw [if_pos c5] at k ⊢
    simp (disch := first | assumption | exact wn2_i | exact wn2_r | exact wn2_n | exact Nat.le_of_ble_eq_true rfl | omega | (refine nI_z ?_ ?_ <;> omega)) only [s74_100, s74_101, s74_104, s74_107, wX_some, Option.toList_some, Option.toList_none, List.cons_append, List.nil_append, List.map_cons, List.map_nil, List.sum_cons, List.sum_nil, Value.category, wn2_i, wn2_r, wn2_n, Option.isSome_some, List.getElem?_cons_zero, List.getElem?_cons_succ, nI_add, nI_rem2, g5, hgT]
    exact k
  rw [if_neg c5] at k ⊢
  by_cases c6 : w = nI 6
  · rw [if_pos c6] at k ⊢
    simp (disch := first | assumption | exact wn2_i | exact wn2_r | exact wn2_n | exact Nat.le_of_ble_eq_true rfl | omega | (refine nI_z ?_ ?_ <;> omega)) only [s74_108, s74_109, s74_112, s74_115, wX_some, Option.toList_some, Option.toList_none, List.cons_append, List.nil_append, List.map_cons, List.map_nil, List.sum_cons, List.sum_nil, Value.category, wn2_i, wn2_r, wn2_n, Option.isSome_some, List.getElem?_cons_zero, List.getElem?_cons_succ, nI_add, nI_rem2, g5, hturn]
    exact k
  rw [if_neg c6] at k ⊢
  by_cases c7 : w = nI 7
  · rw [if_pos c7] at k ⊢
    simp (disch := first | assumption | exact wn2_i | exact wn2_r | exact wn2_n | exact Nat.le_of_ble_eq_true rfl | omega | (refine nI_z ?_ ?_ <;> omega)) only [s74_116, s74_117, s74_120, s74_123, wX_some, Option.toList_some, Option.toList_none, List.cons_append, List.nil_append, List.map_cons, List.map_nil, List.sum_cons, List.sum_nil, Value.category, wn2_i, wn2_r, wn2_n, Option.isSome_some, List.getElem?_cons_zero, List.getElem?_cons_succ, nI_add, nI_rem2, g5, hgG]
    exact k
  rw [if_neg c7] at k ⊢
  by_cases c8 : w = nI 8
  · rw [if_pos c8] at k ⊢
    simp (disch := first | assumption | exact wn2_i | exact wn2_r | exact wn2_n | exact Nat.le_of_ble_eq_true rfl | omega | (refine nI_z ?_ ?_ <;> omega)) only [s74_124, s74_125, s74_128, s74_131, wX_some, Option.toList_some, Option.toList_none, List.cons_append, List.nil_append, List.map_cons, List.map_nil, List.sum_cons, List.sum_nil, Value.category, wn2_i, wn2_r, wn2_n, Option.isSome_some, List.getElem?_cons_zero, List.getElem?_cons_succ, nI_add, nI_rem2, g5, hgP]
    exact k
  rw [if_neg c8] at k ⊢
  by_cases c9 : w = nI 9
  · rw [if_pos c9] at k ⊢
    simp (disch := first | assumption | exact wn2_i | exact wn2_r | exact wn2_n | exact Nat.le_of_ble_eq_true rfl | omega | (refine nI_z ?_ ?_ <;> omega)) only [s74_132, s74_133, s74_136, s74_139, wX_some, Option.toList_some, Option.toList_none, List.cons_append, List.nil_append, List.map_cons, List.map_nil, List.sum_cons, List.sum_nil, Value.category, wn2_i, wn2_r, wn2_n, Option.isSome_some, List.getElem?_cons_zero, List.getElem?_cons_succ, nI_add, nI_rem2, g5, hgK]
    exact k
  rw [if_neg c9] at k ⊢
  by_cases c10 : w = nI 10
  · rw [if_pos c10] at k ⊢
    simp (disch := first | assumption | exact wn2_i | exact wn2_r | exact wn2_n | exact Nat.le_of_ble_eq_true rfl | omega | (refine nI_z ?_ ?_ <;> omega)) only [s74_140, s74_141, s74_144, s74_147, wX_some, Option.toList_some, Option.toList_none, List.cons_append, List.nil_append, List.map_cons, List.map_nil, List.sum_cons, List.sum_nil, Value.category, wn2_i, wn2_r, wn2_n, Option.isSome_some, List.getElem?_cons_zero, List.getElem?_cons_succ, nI_add, nI_rem2, g5, hgS]
    exact k
  rw [if_neg c10] at k ⊢
  simp (disch := first | assumption | exact wn2_i | exact wn2_r | exact wn2_n | exact Nat.le_of_ble_eq_true rfl | omega | (refine nI_z ?_ ?_ <;> omega)) only [s74_148, s74_149, wX_some, Option.toList_some, Option.toList_none, List.cons_append, List.nil_append, List.map_cons, List.map_nil, List.sum_cons, List.sum_nil, Value.category, wn2_i, wn2_r, wn2_n, Option.isSome_some, List.getElem?_cons_zero, List.getElem?_cons_succ, nI_add, nI_rem2]
  exact k
end CSEEN

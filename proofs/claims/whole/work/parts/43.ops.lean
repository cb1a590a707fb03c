-- MayorsChair's calls: wipe, fault, lay, street, work
theorem PA.zero {h : List ms_C} {p K : Nat} {As : List AS} (hp : PA h p K As) : PA (h.set p (ms_obj 1 [.ref (p + 1), .int (nI 0)])) p K [] := by
  obtain ⟨js, a, b, c, d, e, f⟩ := hp
  refine ⟨js, a, Nat.zero_le _, s_eq (lt_of_some c), s_ne (by omega) d, fun j hj => ?_, fun i A hi => by simp at hi⟩
  obtain ⟨A, hA⟩ := e j hj
  exact ⟨A, hA.off (b := p) (n := 1) (Off.rf.st (by omega) (by omega)) (by unfold pad; omega)⟩
theorem PA.obj {h : List ms_C} {p K : Nat} {As : List AS} (hp : PA h p K As) : h[p]? = some (ms_obj 1 [.ref (p + 1), .int (nI As.length)]) := by
  obtain ⟨js, a, b, c, r⟩ := hp
  exact c
theorem GA.zero {h : List ms_C} {a : Nat} {L : List (Nat × Nat)} (hp : GA h a L) : GA (h.set a (ms_obj 3 [.ref (a + 1), .ref (a + 2), .int (nI 0)])) a [] := by
  obtain ⟨qs, ps, h0, h1, h2, g1, g2, g3, g4⟩ := hp
  exact ⟨qs, ps, s_eq (lt_of_some h0), s_ne (by omega) h1, s_ne (by omega) h2, g1, g2, Nat.zero_le _, fun i q hq => by simp at hq⟩
section CTOWN2
variable {sc : List Int32} {h : List ms_C} {Q : Option Value → List ms_C → Prop} {S : GS}
theorem c_wipe (hc : CIS h S) {l1 : Option Value} (k : ∀ h1, CIS h1 (op_wipe S).2 → Off h h1 0 97 → Q (some (.int (op_wipe S).1)) h1) : WP sc 45 0 [some (.ref 0), l1] [] h Q := by
  obtain ⟨⟨T, m⟩, A, U, K, L⟩ := S
  have lay := cLay
  obtain ⟨g5, i0, iS, iT, iR, iP, iK, iG, iO⟩ := CI.facts hc
  obtain ⟨h0, ⟨p, hs⟩, hT, ⟨B, hR⟩, hP, hK, hG, ⟨t, be, htb, hO⟩⟩ := hc
  obtain ⟨l, hgs, his, -⟩ := hs.facts
  simp (disch := first | assumption | exact wn2_i | exact wn2_r | exact wn2_n | exact Nat.le_of_ble_eq_true rfl | omega | (refine nI_z ?_ ?_ <;> omega)) only [s45_0, s45_1, s45_4, s45_7, s45_8, s45_9, s45_12, s45_13, s45_16, s45_17, wX_some, Option.toList_some, Option.toList_none, List.cons_append, List.nil_append, List.map_cons, List.map_nil, List.sum_cons, List.sum_nil, Value.category, wn2_i, wn2_r, wn2_n, Option.isSome_some, List.getElem?_cons_zero, List.getElem?_cons_succ, nI_add, nI_rem2, g5, hgs, his, List.set_cons_succ, List.set_cons_zero, List.length_cons, List.length_nil, Nat.reduceAdd, Nat.reduceLT, true_and]
  have ho : Off h (h.set cS (ms_obj 2 [.ref (cS + 1), .int (nI 0), .int (nI p)])) cS 1 := Off.rf.st (by omega) (by omega)
  have hx : OffX h (h.set cS (ms_obj 2 [.ref (cS + 1), .int (nI 0), .int (nI p)])) (fun i => i = cS) := ho.x (fun i x1 x2 => by omega)
  obtain ⟨l', z0, z1, z2, z3, z4⟩ := hs
  refine k _ ⟨s_ne (by omega) h0, ⟨p, l', s_eq (lt_of_some z0), s_ne (by omega) z1, z2, Nat.zero_le _, fun i hi => absurd hi (Nat.not_lt_zero i)⟩, hT.off ho (by omega), ⟨B, hR.off ho (by omega)⟩, hP.offX hx (fun i x1 x2 => by omega), hK.offX hx (fun i x1 x2 => by omega), hG.offX hx (fun i x1 x2 => by omega), ⟨t, be, htb, hO.offX hx (fun i x1 x2 => by omega)⟩⟩ (ho.wide (by omega) (by omega))
theorem CI.scroll {T : Nat → Nat} {m : Nat} {A : AS} {U K : List AS} {L : List (Nat × Nat)} {h1 : List ms_C} {p : Nat} {B : AS} (hc : CI h T m A U K L) (hs1 : SA h1 cS T m p) (hR1 : TA h1 cR B) (hx : OffX h h1 (fun i => i = cS ∨ (cR ≤ i ∧ i < cR + 7))) : CI h1 T m A U K L := by
  have lay := cLay
  obtain ⟨h0, ⟨p', hs⟩, hT, ⟨B', hR⟩, hP, hK, hG, ⟨t, be, htb, hO⟩⟩ := hc
  exact ⟨(hx.2 0 (by omega)).trans h0, ⟨p, hs1⟩, hT.offX hx (fun i x1 x2 => by omega), ⟨B, hR1⟩, hP.offX hx (fun i x1 x2 => by omega), hK.offX hx (fun i x1 x2 => by omega), hG.offX hx (fun i x1 x2 => by omega), ⟨t, be, htb, hO.offX hx (fun i x1 x2 => by omega)⟩⟩
theorem c_fault (hc : CIS h S) (k : ∀ h1, CIS h1 (op_fault S).2 → Off h h1 0 97 → Q (some (.int (op_fault S).1)) h1) : WP sc 46 0 [some (.ref 0)] [] h Q := by
  obtain ⟨⟨T, m⟩, A, U, K, L⟩ := S
  have lay := cLay
  obtain ⟨g5, i0, iS, iT, iR, iP, iK, iG, iO⟩ := CI.facts hc
  have hc0 := hc
  obtain ⟨h0, ⟨p, hs⟩, hT, hR, hP, hK, hG, ⟨t, be, htb, hO⟩⟩ := hc
  simp (disch := first | assumption | exact wn2_i | exact wn2_r | exact wn2_n | exact Nat.le_of_ble_eq_true rfl | omega | (refine nI_z ?_ ?_ <;> omega)) only [s46_0, s46_1, s46_4, s46_5, s46_8, wX_some, Option.toList_some, Option.toList_none, List.cons_append, List.nil_append, List.map_cons, List.map_nil, List.sum_cons, List.sum_nil, Value.category, wn2_i, wn2_r, wn2_n, Option.isSome_some, List.getElem?_cons_zero, List.getElem?_cons_succ, nI_add, nI_rem2, g5]
  refine readInto_wp hs hR (by omega) (fun h1 p1 hs1 hR1 hx => ?_)
  simp (disch := first | assumption | exact wn2_i | exact wn2_r | exact wn2_n | exact Nat.le_of_ble_eq_true rfl | omega | (refine nI_z ?_ ?_ <;> omega)) only [s46_11, wX_some, Option.toList_some, Option.toList_none, List.cons_append, List.nil_append, List.map_cons, List.map_nil, List.sum_cons, List.sum_nil, Value.category, wn2_i, wn2_r, wn2_n, Option.isSome_some, List.getElem?_cons_zero, List.getElem?_cons_succ, nI_add, nI_rem2]
  exact k h1 (CI.scroll hc0 hs1 hR1 hx) (hx.off (fun i hi => by omega))
end CTOWN2
theorem fO_eq {o : Option Nat} (h : ∀ v, o = some v → v < 2 ^ 31) : (fO o = -4) ↔ o = none := by
  cases o with
  | none => exact ⟨fun _ => rfl, fun _ => rfl⟩
  | some v =>
    refine ⟨fun e => ?_, fun e => by cases e⟩
    have := congrArg Int32.toInt e
    unfold fO at this
    rw [nI_toInt (h v rfl)] at this
    have e4 : (-4 : Int32).toInt = -4 := rfl
    omega
theorem rdF_lt {T : Nat → Nat} {m : Nat} : ∀ (f : Nat) (E : AS) (p v : Nat), (rdF T m f E p).1 = some v → v < m := by
  intro f
  induction f with
  | zero => intro E p v h; cases h
  | succ f ih =>
    intro E p v h
    unfold rdF at h
    split at h
    · rename_i hlt
      cases he : itm T m E p with
      | none => rw [he] at h; cases h; exact hlt
      | some q =>
        obtain ⟨E', p'⟩ := q
        rw [he] at h
        exact ih _ _ _ h
    · cases h
section CTOWN3
variable {sc : List Int32} {h : List ms_C} {Q : Option Value → List ms_C → Prop} {S : GS}
theorem c_work (hc : CIS h S) (hg : GIS S) {x : Int32} (k : ∀ h1, CIS h1 (op_work x S).2 → Off h h1 0 97 → Q (some (.int (op_work x S).1)) h1) : WP sc 49 0 [some (.ref 0), some (.int x)] [] h Q := by
  obtain ⟨⟨T, m⟩, A, U, K, L⟩ := S
  have hc : CI h T m A U K L := hc
  have hg : GI m A U K L := hg
  have hc0 := hc
  obtain ⟨g5, i0, iS, iT, iR, iP, iK, iG, iO⟩ := CI.facts hc
  obtain ⟨h0, ⟨p, hs⟩, hT, hR, hP, hK, hG, ⟨t, be, htb, hO⟩⟩ := hc
  obtain ⟨-, ⟨⟨G1, G2⟩, ⟨G3, G4⟩, G5, G6, G7⟩, -⟩ := hg
  obtain ⟨kd, we, us, di, st, wo, hg, hi, hI, a1, a2, a3, a4, a5, a6, g1, g2, g3, g4, g5', g6, k1, k2, k3, k4, k5, k6, hlen⟩ := hT.facts
  unfold op_work inW at k
  dsimp only at k
  have hw := fun Q => hasWork_rng (sc := sc) (Q := Q) hT G3 G4 (x := x)
  cases hr : rng 0 (A 7 1 - 1) x with
  | false =>
    rw [hr, if_neg (by decide)] at k
    simp (disch := first | assumption | exact wn2_i | exact wn2_r | exact wn2_n | exact Nat.le_of_ble_eq_true rfl | omega | (refine nI_z ?_ ?_ <;> omega)) only [s49_0, s49_1, s49_4, s49_5, s49_8, s49_11, s49_12, s49_15, s49_18, s49_19, s49_20, s49_23, s49_24, wX_some, Option.toList_some, Option.toList_none, List.cons_append, List.nil_append, List.map_cons, List.map_nil, List.sum_cons, List.sum_nil, Value.category, wn2_i, wn2_r, wn2_n, Option.isSome_some, List.getElem?_cons_zero, List.getElem?_cons_succ, nI_add, nI_rem2, g5, hw, hr, Bool.false_eq_true, if_false, nI_eq0, if_true]
    exact k h hc0 Off.rf
  | true =>
    rw [hr, if_pos rfl] at k
    obtain ⟨j, j1, j2, rfl⟩ := rng_nI (by omega) hr
    rw [nat_nI (by omega)] at k
    have v := k6.2 j (by omega)
    simp (disch := first | assumption | exact wn2_i | exact wn2_r | exact wn2_n | exact Nat.le_of_ble_eq_true rfl | omega | (refine nI_z ?_ ?_ <;> omega)) only [s49_0, s49_1, s49_4, s49_5, s49_8, s49_11, s49_12, s49_15, s49_18, s49_19, s49_20, s49_23, s49_24, wX_some, Option.toList_some, Option.toList_none, List.cons_append, List.nil_append, List.map_cons, List.map_nil, List.sum_cons, List.sum_nil, Value.category, wn2_i, wn2_r, wn2_n, Option.isSome_some, List.getElem?_cons_zero, List.getElem?_cons_succ, nI_add, nI_rem2, g5, hw, hr, if_true, nI_eq0, if_false, Nat.reduceEqDiff, hg, a6, g6, iat_n, v]
    exact k h hc0 Off.rf
theorem c_street (hc : CIS h S) (hg : GIS S) {x y : Int32} (k : ∀ h1, CIS h1 (op_street x y S).2 → Off h h1 0 97 → Q (some (.int (op_street x y S).1)) h1) : WP sc 48 0 [some (.ref 0), some (.int x), some (.int y)] [] h Q := by
  obtain ⟨⟨T, m⟩, A, U, K, L⟩ := S
  have hc : CI h T m A U K L := hc
  have hg : GI m A U K L := hg
  have hc0 := hc
  obtain ⟨g5, i0, iS, iT, iR, iP, iK, iG, iO⟩ := CI.facts hc
  obtain ⟨h0, ⟨p, hs⟩, hT, hR, hP, hK, hG, ⟨t, be, htb, hO⟩⟩ := hc
  obtain ⟨-, ⟨⟨G1, G2⟩, ⟨G3, G4⟩, G5, G6, G7⟩, -⟩ := hg
  obtain ⟨kd, we, us, di, st, wo, hg, hi, hI, a1, a2, a3, a4, a5, a6, g1, g2, g3, g4, g5', g6, k1, k2, k3, k4, k5, k6, hlen⟩ := hT.facts
  unfold op_street inS at k
  dsimp only at k
  have hw := fun Q => hasStreet_rng (sc := sc) (Q := Q) hT (by omega) G2 (x := x)
  cases hr : rng 0 (A 7 0 - 1) x with
  | false =>
    rw [hr, if_neg (by decide)] at k
    simp (disch := first | assumption | exact wn2_i | exact wn2_r | exact wn2_n | exact Nat.le_of_ble_eq_true rfl | omega | (refine nI_z ?_ ?_ <;> omega)) only [s48_0, s48_1, s48_4, s48_5, s48_8, s48_11, s48_12, s48_13, s48_14, s48_52, s48_53, s48_56, s48_59, s48_60, s48_61, s48_62, s48_63, s48_66, s48_69, s48_70, s48_71, s48_72, s48_73, s48_76, s48_79, s48_80, s48_81, s48_82, s48_83, s48_86, s48_87, s48_90, s48_91, s48_92, s48_95, s48_98, s48_99, s48_100, s48_101, s48_102, s48_105, s48_108, s48_109, s48_110, s48_111, s48_112, wX_some, Option.toList_some, Option.toList_none, List.cons_append, List.nil_append, List.map_cons, List.map_nil, List.sum_cons, List.sum_nil, Value.category, wn2_i, wn2_r, wn2_n, Option.isSome_some, List.getElem?_cons_zero, List.getElem?_cons_succ, nI_add, nI_rem2, g5, hw, hr, Bool.false_eq_true, if_false, nI_eq0, if_true]
    exact k h hc0 Off.rf
  | true =>
    rw [hr, if_pos rfl] at k
    obtain ⟨j, j1, j2, rfl⟩ := rng_nI (by omega) hr
    rw [nat_nI (by omega)] at k
    have hj : j < A 7 0 := by omega
    have b := G5 j hj
    have v1 := k1.2 j hj
    have v2 := k2.2 j hj
    have v3 := k3.2 j hj
    have v4 := k4.2 j hj
    have v5 := k5.2 j hj
    simp (disch := first | assumption | exact wn2_i | exact wn2_r | exact wn2_n | exact Nat.le_of_ble_eq_true rfl | omega | (refine nI_z ?_ ?_ <;> omega)) only [s48_0, s48_1, s48_4, s48_5, s48_8, s48_11, s48_12, s48_13, s48_14, wX_some, Option.toList_some, Option.toList_none, List.cons_append, List.nil_append, List.map_cons, List.map_nil, List.sum_cons, List.sum_nil, Value.category, wn2_i, wn2_r, wn2_n, Option.isSome_some, List.getElem?_cons_zero, List.getElem?_cons_succ, nI_add, nI_rem2, g5, hw, hr, if_true, nI_eq0, if_false, Nat.reduceEqDiff]
    by_cases c0 : y = nI 0
    · rw [if_pos c0] at k ⊢
      simp (disch := first | assumption | exact wn2_i | exact wn2_r | exact wn2_n | exact Nat.le_of_ble_eq_true rfl | omega | (refine nI_z ?_ ?_ <;> omega)) only [s48_52, s48_53, s48_56, s48_59, s48_60, s48_61, wX_some, Option.toList_some, Option.toList_none, List.cons_append, List.nil_append, List.map_cons, List.map_nil, List.sum_cons, List.sum_nil, Value.category, wn2_i, wn2_r, wn2_n, Option.isSome_some, List.getElem?_cons_zero, List.getElem?_cons_succ, nI_add, nI_rem2, g5, hg, a1, g1, iat_n, v1]
      exact k h hc0 Off.rf
    rw [if_neg c0] at k ⊢
    by_cases c1 : y = nI 1
    · rw [if_pos c1] at k ⊢
      simp (disch := first | assumption | exact wn2_i | exact wn2_r | exact wn2_n | exact Nat.le_of_ble_eq_true rfl | omega | (refine nI_z ?_ ?_ <;> omega)) only [s48_62, s48_63, s48_66, s48_69, s48_70, s48_71, wX_some, Option.toList_some, Option.toList_none, List.cons_append, List.nil_append, List.map_cons, List.map_nil, List.sum_cons, List.sum_nil, Value.category, wn2_i, wn2_r, wn2_n, Option.isSome_some, List.getElem?_cons_zero, List.getElem?_cons_succ, nI_add, nI_rem2, g5, hg, a2, g2, iat_n, v2]
      exact k h hc0 Off.rf
    rw [if_neg c1] at k ⊢
    by_cases c2 : y = nI 2
    · rw [if_pos c2] at k ⊢
      simp (disch := first | assumption | exact wn2_i | exact wn2_r | exact wn2_n | exact Nat.le_of_ble_eq_true rfl | omega | (refine nI_z ?_ ?_ <;> omega)) only [s48_72, s48_73, s48_76, s48_79, s48_80, s48_81, wX_some, Option.toList_some, Option.toList_none, List.cons_append, List.nil_append, List.map_cons, List.map_nil, List.sum_cons, List.sum_nil, Value.category, wn2_i, wn2_r, wn2_n, Option.isSome_some, List.getElem?_cons_zero, List.getElem?_cons_succ, nI_add, nI_rem2, g5, hg, a3, g3, iat_n, v3]
      exact k h hc0 Off.rf
    rw [if_neg c2] at k ⊢
    by_cases c3 : y = nI 3
    · rw [if_pos c3] at k ⊢
      simp (disch := first | assumption | exact wn2_i | exact wn2_r | exact wn2_n | exact Nat.le_of_ble_eq_true rfl | omega | (refine nI_z ?_ ?_ <;> omega)) only [s48_82, s48_83, s48_86, s48_87, s48_90, wX_some, Option.toList_some, Option.toList_none, List.cons_append, List.nil_append, List.map_cons, List.map_nil, List.sum_cons, List.sum_nil, Value.category, wn2_i, wn2_r, wn2_n, Option.isSome_some, List.getElem?_cons_zero, List.getElem?_cons_succ, nI_add, nI_rem2, g5, looks_wp hT]
      exact k h hc0 Off.rf
    rw [if_neg c3] at k ⊢
    by_cases c4 : y = nI 4
    · rw [if_pos c4] at k ⊢
      simp (disch := first | assumption | exact wn2_i | exact wn2_r | exact wn2_n | exact Nat.le_of_ble_eq_true rfl | omega | (refine nI_z ?_ ?_ <;> omega)) only [s48_91, s48_92, s48_95, s48_98, s48_99, s48_100, wX_some, Option.toList_some, Option.toList_none, List.cons_append, List.nil_append, List.map_cons, List.map_nil, List.sum_cons, List.sum_nil, Value.category, wn2_i, wn2_r, wn2_n, Option.isSome_some, List.getElem?_cons_zero, List.getElem?_cons_succ, nI_add, nI_rem2, g5, hg, a4, g4, iat_n, v4]
      exact k h hc0 Off.rf
    rw [if_neg c4] at k ⊢
    by_cases c5 : y = nI 5
    · rw [if_pos c5] at k ⊢
      simp (disch := first | assumption | exact wn2_i | exact wn2_r | exact wn2_n | exact Nat.le_of_ble_eq_true rfl | omega | (refine nI_z ?_ ?_ <;> omega)) only [s48_101, s48_102, s48_105, s48_108, s48_109, s48_110, wX_some, Option.toList_some, Option.toList_none, List.cons_append, List.nil_append, List.map_cons, List.map_nil, List.sum_cons, List.sum_nil, Value.category, wn2_i, wn2_r, wn2_n, Option.isSome_some, List.getElem?_cons_zero, List.getElem?_cons_succ, nI_add, nI_rem2, g5, hg, a5, g5', iat_n, v5]
      exact k h hc0 Off.rf
    rw [if_neg c5] at k ⊢
    simp (disch := first | assumption | exact wn2_i | exact wn2_r | exact wn2_n | exact Nat.le_of_ble_eq_true rfl | omega | (refine nI_z ?_ ?_ <;> omega)) only [s48_111, s48_112, wX_some, Option.toList_some, Option.toList_none, List.cons_append, List.nil_append, List.map_cons, List.map_nil, List.sum_cons, List.sum_nil, Value.category, wn2_i, wn2_r, wn2_n, Option.isSome_some, List.getElem?_cons_zero, List.getElem?_cons_succ, nI_add, nI_rem2]
    exact k h hc0 Off.rf
end CTOWN3

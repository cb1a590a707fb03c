-- MayorsChair's calls: wipe, fault, lay, street, work
theorem PA.zero {h : List ms_C} {p K : Nat} {As : List AS} (hp : PA h p K As) : PA (h.set p (ms_obj 1 [.ref (p + 1), .int (nI 0)])) p K [] := by
  obtain ⟨js, a, b, c, d, e, f⟩ := hp
  refine ⟨js, a, Nat.zero_le _, s_eq (lt_of_some c), s_ne (by omega) d, fun j hj => ?_, fun i A hi => by simp at hi⟩
  obtain ⟨A, hA⟩ := e j hj
  exact ⟨A, hA.off (b := p) (n := 1) (Off.rf.st (by omega) (by omega)) (by unfold pad; omega)⟩
theorem PA.obj {h : List ms_C} {p K : Nat} {As : List AS} (hp : PA h p K As) : h[p]? = some (ms_obj 1 [.ref (p + 1), .int (nI As.length)]) := by
  obtain ⟨js, a, b, c, r⟩ := hp
  exact c
theorem GA.zero {h : List ms_C} {a : Nat} {L : List (Nat × Nat)} (hp : GA h a L) : GA (h.set a (ms_obj 3 [.ref (a + 1), .ref (a + 2), .int (nI 0)])) a [] := by
  obtain ⟨qs, ps, h0, h1, h2, g1, g2, g3, g4⟩ := hp
  exact ⟨qs, ps, s_eq (lt_of_some h0), s_ne (by omega) h1, s_ne (by omega) h2, g1, g2, Nat.zero_le _, fun i q hq => by simp at hq⟩
section CTOWN2
variable {sc : List Int32} {h : List ms_C} {Q : Option Value → List ms_C → Prop} {S : GS}
theorem c_wipe (hc : CIS h S) {l1 : Option Value} (k : ∀ h1, CIS h1 (op_wipe S).2 → Off h h1 0 97 → Q (some (.int (op_wipe S).1)) h1) : WP sc 45 0 [some (.ref 0), l1] [] h Q := by
  obtain ⟨⟨T, m⟩, A, U, K, L⟩ := S
  have lay := cLay
  obtain ⟨g5, i0, iS, iT, iR, iP, iK, iG, iO⟩ := CI.facts hc
  obtain ⟨h0, ⟨p, hs⟩, hT, ⟨B, hR⟩, hP, hK, hG, ⟨t, be, htb, hO⟩⟩ := hc
  obtain ⟨l, hgs, his, -⟩ := hs.facts
  simp (disch := first | assumption | exact wn2_i | exact wn2_r | exact wn2_n | exact Nat.le_of_ble_eq_true rfl | omega | (refine nI_z ?_ ?_ <;> omega)) only [s45_0, s45_1, s45_4, s45_7, s45_8, s45_9, s45_12, s45_13, s45_16, s45_17, wX_some, Option.toList_some, Option.toList_none, List.cons_append, List.nil_append, List.map_cons, List.map_nil, List.sum_cons, List.sum_nil, Value.category, wn2_i, wn2_r, wn2_n, Option.isSome_some, List.getElem?_cons_zero, List.getElem?_cons_succ, nI_add, nI_rem2, g5, hgs, his, List.set_cons_succ, List.set_cons_zero, List.length_cons, List.length_nil, Nat.reduceAdd, Nat.reduceLT, true_and]
  have ho : Off h (h.set cS (ms_obj 2 [.ref (cS + 1), .int (nI 0), .int (nI p)])) cS 1 := Off.rf.st (by omega) (by omega)
  have hx : OffX h (h.set cS (ms_obj 2 [.ref (cS + 1), .int (nI 0), .int (nI p)])) (fun i => i = cS) := ho.x (fun i x1 x2 => by omega)
  obtain ⟨l', z0, z1, z2, z3, z4⟩ := hs
  refine k _ ⟨s_ne (by omega) h0, ⟨p, l', s_eq (lt_of_some z0), s_ne (by omega) z1, z2, Nat.zero_le _, fun i hi => absurd hi (Nat.not_lt_zero i)⟩, hT.off ho (by omega), ⟨B, hR.off ho (by omega)⟩, hP.offX hx (fun i x1 x2 => by omega), hK.offX hx (fun i x1 x2 => by omega), hG.offX hx (fun i x1 x2 => by omega), ⟨t, be, htb, hO.offX hx (fun i x1 x2 => by omega)⟩⟩ (ho.wide (by omega) (by omega))
theorem CI.scroll {T : Nat → Nat} {m : Nat} {A : AS} {U K : List AS} {L : List (Nat × Nat)} {h1 : List ms_C} {p : Nat} {B : AS} (hc : CI h T m A U K L) (hs1 : SA h1 cS T m p) (hR1 : TA h1 cR B) (hx : OffX h h1 (fun i => i = cS ∨ (cR ≤ i ∧ i < cR + 7))) : CI h1 T m A U K L := by
  have lay := cLay
  obtain ⟨h0, ⟨p', hs⟩, hT, ⟨B', hR⟩, hP, hK, hG, ⟨t, be, htb, hO⟩⟩ := hc
  exact ⟨(hx.2 0 (by omega)).trans h0, ⟨p, hs1⟩, hT.offX hx (fun i x1 x2 => by omega), ⟨B, hR1⟩, hP.offX hx (fun i x1 x2 => by omega), hK.offX hx (fun i x1 x2 => by omega), hG.offX hx (fun i x1 x2 => by omega), ⟨t, be, htb, hO.offX hx (fun i x1 x2 => by omega)⟩⟩
theorem c_fault (hc : CIS h S) (k : ∀ h1, CIS h1 (op_fault S).2 → Off h h1 0 97 → Q (some (.int (op_fault S).1)) h1) : WP sc 46 0 [some (.ref 0)] [] h Q := by
  obtain ⟨⟨T, m⟩, A, U, K, L⟩ := S
  have lay := cLay
  obtain ⟨g5, i0, iS, iT, iR, iP, iK, iG, iO⟩ := CI.facts hc
  have hc0 := hc
  obtain ⟨h0, ⟨p, hs⟩, hT, hR, hP, hK, hG, ⟨t, be, htb, hO⟩⟩ := hc
  simp (disch := first | assumption | exact wn2_i | exact wn2_r | exact wn2_n | exact Nat.le_of_ble_eq_true rfl | omega | (refine nI_z ?_ ?_ <;> omega)) only [s46_0, s46_1, s46_4, s46_5, s46_8, wX_some, Option.toList_some, Option.toList_none, List.cons_append, List.nil_append, List.map_cons, List.map_nil, List.sum_cons, List.sum_nil, Value.category, wn2_i, wn2_r, wn2_n, Option.isSome_some, List.getElem?_cons_zero, List.getElem?_cons_succ, nI_add, nI_rem2, g5]
  refine readInto_wp hs hR (by omega) (fun h1 p1 hs1 hR1 hx => ?_)
  simp (disch := first | assumption | exact wn2_i | exact wn2_r | exact wn2_n | exact Nat.le_of_ble_eq_true rfl | omega | (refine nI_z ?_ ?_ <;> omega)) only [s46_11, wX_some, Option.toList_some, Option.toList_none, List.cons_append, List.nil_append, List.map_cons, List.map_nil, List.sum_cons, List.sum_nil, Value.category, wn2_i, wn2_r, wn2_n, Option.isSome_some, List.getElem?_cons_zero, List.getElem?_cons_succ, nI_add, nI_rem2]
  exact k h1 (CI.scroll hc0 hs1 hR1 hx) (hx.off (fun i hi => by omega))
end CTOWN2

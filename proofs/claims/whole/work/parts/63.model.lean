-- the model: all its cells; copies
def AR (h : List ms_C) (c n : Nat) (p : List Int32 → Prop) : Prop := ∃ l : List Int32, h[c]? = some (ms_ia l) ∧ l.length = n ∧ p l
theorem AR.off {h h1 : List ms_C} {c n : Nat} {p : List Int32 → Prop} (ha : AR h c n p) (e : h1[c]? = h[c]?) : AR h1 c n p := by
  obtain ⟨l, a, b, d⟩ := ha
  exact ⟨l, e.trans a, b, d⟩
def rowU (U : List AS) (l : List Int32) : Prop := ∀ (i : Nat) (B : AS), U[i]? = some B → RA (fun j => l.getD (27 * i + j) 0) B
def rowL (L : List (Nat × Nat)) (l : List Int32) : Prop := ∀ (i : Nat) (q : Nat × Nat), L[i]? = some q → l.getD (2 * i) 0 = nI q.1 ∧ l.getD (2 * i + 1) 0 = nI q.2
def txtT (T : Nat → Nat) (m : Nat) (l : List Int32) : Prop := ∀ i, i < m → l.getD i 0 = nI (T i) ∧ T i ≤ 126
/-- all arrays of the model but the row aside -/
def MR (h : List ms_C) (T : Nat → Nat) (m : Nat) (A : AS) (U K : List AS) (L : List (Nat × Nat)) : Prop :=
  AR h 98 200 (txtT T m) ∧ AR h 99 14 (fun l => KA (fun i => l.getD i 0) A) ∧ AR h 100 14 (fun _ => True) ∧ AR h 101 27 (fun _ => True) ∧ AR h 102 27 (fun l => RA (fun i => l.getD i 0) A) ∧ AR h 104 216 (rowU U) ∧ AR h 105 54 (rowU K) ∧ AR h 106 12 (rowL L) ∧ AR h 107 3 (fun _ => True) ∧ AR h 108 6 (fun _ => True) ∧ AR h 109 6 (fun _ => True)
def MJ (h : List ms_C) (o1 k1 o2 u2 : Int32) (T : Nat → Nat) (m : Nat) (A : AS) (U K : List AS) (L : List (Nat × Nat)) : Prop :=
  (∃ sp : Int32, h[97]? = some (ms_obj 6 (MO (nI m) (nI U.length) (nI K.length) (nI L.length) sp o1 k1 o2 u2))) ∧ MR h T m A U K L ∧ AR h 103 27 (fun _ => True)
def MI (h : List ms_C) (T : Nat → Nat) (m : Nat) (A : AS) (U K : List AS) (L : List (Nat × Nat)) : Prop := ∃ k1 u2 : Int32, MJ h (-4) k1 (-4) u2 T m A U K L
def MIS (h : List ms_C) (S : GS) : Prop := MI h S.1.1 S.1.2 S.2.1 S.2.2.1 S.2.2.2.1 S.2.2.2.2
section MJS
variable {sc : List Int32} {h h1 : List ms_C} {Q : Option Value → List ms_C → Prop} {o1 k1 o2 u2 : Int32} {T : Nat → Nat} {m : Nat} {A B : AS} {U K : List AS} {L : List (Nat × Nat)}
theorem MR.off (hM : MR h T m A U K L) (ho : Off h h1 103 1) : MR h1 T m A U K L := by
  obtain ⟨a, b, c, d, e, f, g, i, j, k, l⟩ := hM
  have o : ∀ c, c ≠ 103 → h1[c]? = h[c]? := fun c hc => ho.2 c (by omega)
  exact ⟨a.off (o _ (by omega)), b.off (o _ (by omega)), c.off (o _ (by omega)), d.off (o _ (by omega)), e.off (o _ (by omega)), f.off (o _ (by omega)), g.off (o _ (by omega)), i.off (o _ (by omega)), j.off (o _ (by omega)), k.off (o _ (by omega)), l.off (o _ (by omega))⟩
theorem MJ.side {p1 l1 p2 l2 : Int32} (hM : MJ h o1 k1 o2 u2 T m A U K L) (hS : MS h1 p1 l1 p2 l2 B) (ho : Off h h1 103 1) : MJ h1 o1 k1 o2 u2 T m A U K L := by
  obtain ⟨⟨sp, a⟩, b, c⟩ := hM
  obtain ⟨_, _, _, _, _, _, sd, _, _, z3, _, z5, _⟩ := hS
  exact ⟨⟨sp, (ho.2 97 (by omega)).trans a⟩, b.off ho, ⟨sd, z3, z5, trivial⟩⟩
theorem MJ.ms (hM : MJ h o1 k1 o2 u2 T m A U K L) (hs : AR h 103 27 (fun l => RA (fun i => l.getD i 0) B)) (e7 : B 7 = A 7) (e : ∀ s, s < A 7 0 → (if nI s = o1 then k1 else nI (A 5 s)) = nI (B 5 s) ∧ (if nI s = o2 then u2 else nI (A 6 s)) = nI (B 6 s)) : MS h o1 k1 o2 u2 B := by
  obtain ⟨⟨sp, a⟩, ⟨_, ⟨td, t1, t2, ⟨q1, q2, q3⟩⟩, _⟩, _⟩ := hM
  obtain ⟨sd, s1, s2, s3⟩ := hs
  refine ⟨nI m, nI U.length, nI K.length, nI L.length, sp, td, sd, a, t1, s1, t2, s2, by rw [e7]; exact q1, by rw [e7]; exact q2, fun s hs => ?_, s3⟩
  rw [e7] at hs
  dsimp only at q3
  rw [(q3 s hs).1, (q3 s hs).2]
  exact e s hs
theorem MJ.ms0 (hM : MJ h (-4) k1 (-4) u2 T m A U K L) (h6 : A 7 0 ≤ 6) (hs : AR h 103 27 (fun l => RA (fun i => l.getD i 0) A)) : MS h (-4) k1 (-4) u2 A :=
  hM.ms hs rfl (fun s hs => by
    have : ¬ nI s = -4 := fun q => by rw [m4_ne (by omega)] at q; exact q
    rw [if_neg this, if_neg this]
    exact ⟨rfl, rfl⟩)
/-- what calls on the model read -/
theorem MJ.facts (hM : MJ h o1 k1 o2 u2 T m A U K L) : ∃ (sp : Int32) (td nw sd : List Int32), (∀ k, ms_get h 97 6 k = (MO (nI m) (nI U.length) (nI K.length) (nI L.length) sp o1 k1 o2 u2)[k]?) ∧ ms_is h 97 6 = some (MO (nI m) (nI U.length) (nI K.length) (nI L.length) sp o1 k1 o2 u2) ∧ (ms_is h 97 6).isSome = true ∧ ms_arr h 99 = some td ∧ ms_arr h 102 = some nw ∧ ms_arr h 103 = some sd ∧ td.length = 14 ∧ nw.length = 27 ∧ sd.length = 27 ∧ KA (fun i => td.getD i 0) A ∧ RA (fun i => nw.getD i 0) A ∧ 97 < h.length ∧ 102 < h.length ∧ 103 < h.length := by
  obtain ⟨⟨sp, a⟩, ⟨_, ⟨td, t1, t2, t3⟩, _, _, ⟨nw, n1, n2, n3⟩, _⟩, ⟨sd, s1, s2, _⟩⟩ := hM
  exact ⟨sp, td, nw, sd, g_obj a, i_obj a, by rw [i_obj a]; rfl, a_arr t1, a_arr n1, a_arr s1, t2, n2, s2, t3, n3, lt_of_some a, lt_of_some n1, lt_of_some s1⟩
/-- the row dst, after i of the copies of src (from s on) into it (from d on) -/
def CPY (dst0 dst src : List Int32) (d s i : Nat) : Prop := dst.length = dst0.length ∧ (∀ j, j < i → dst.getD (d + j) 0 = src.getD (s + j) 0) ∧ ∀ j, (j < d ∨ d + i ≤ j) → dst.getD j 0 = dst0.getD j 0
theorem CPY.z {dst src : List Int32} {d s : Nat} : CPY dst dst src d s 0 := ⟨rfl, fun j hj => by omega, fun j hj => rfl⟩
theorem CPY.nx {dst0 dst src : List Int32} {d s i : Nat} (h : CPY dst0 dst src d s i) (hi : d + i < dst0.length) {x : Int32} (hx : x = src.getD (s + i) 0) : CPY dst0 (dst.set (d + i) x) src d s (i + 1) := by
  obtain ⟨a, b, c⟩ := h
  refine ⟨by rw [List.length_set]; exact a, fun j hj => ?_, fun j hj => ?_⟩
  · rw [gset (by omega)]
    by_cases e : i = j
    · subst e; rw [if_pos rfl]; exact hx
    · rw [if_neg (by omega)]; exact b j (by omega)
  · rw [gset (by omega), if_neg (by omega)]
    exact c j (by omega)
theorem aside_wp (hM : MJ h o1 k1 o2 u2 T m A U K L) (hG : AG A) {l1 : Option Value} (k : ∀ h1, MJ h1 o1 k1 o2 u2 T m A U K L → AR h1 103 27 (fun l => RA (fun i => l.getD i 0) A) → Off h h1 103 1 → Q none h1) : WP sc 91 0 [some (.ref 97), l1] [] h Q := by
  obtain ⟨sp, td, nw, sd, hg, his, hI, at1, an, as1, lt1, ln, ls1, hK, hR, b97, b102, b103⟩ := hM.facts
  obtain ⟨⟨G1, G2⟩, ⟨G3, G4⟩, -⟩ := hG
  obtain ⟨⟨sp', z1⟩, z2, ⟨_, z3, -⟩⟩ := hM
  have key : ∀ i, i ≤ 27 → ∀ h1 s1, h1[103]? = some (ms_ia s1) → CPY sd s1 nw 0 0 i → Off h h1 103 1 → WP sc 91 2 [some (.ref 97), some (.int (nI i))] [] h1 Q := by
    refine loop_up ?_ ?_
    · intro h1 s1 x1 hc ho
      have hge : nI 27 ≤ nI 27 := nI_le (Nat.le_refl _) (by omega)
      rw [s91_2]
      simp (disch := first | assumption | exact wn2_i | exact wn2_r | exact wn2_n | exact Nat.le_of_ble_eq_true rfl | omega | (refine nI_z ?_ ?_ <;> omega)) only [s91_3, s91_5, s91_26, wX_some, Option.toList_some, Option.toList_none, List.cons_append, List.nil_append, List.map_cons, List.map_nil, List.sum_cons, List.sum_nil, Value.category, wn2_i, wn2_r, wn2_n, Option.isSome_some, List.getElem?_cons_zero, List.getElem?_cons_succ, nI_add, nI_rem2, hge, if_true]
      have hl : s1.length = 27 := hc.1.trans ls1
      refine k h1 ⟨⟨sp', (ho.2 97 (by omega)).trans z1⟩, z2.off ho, ⟨s1, x1, hl, trivial⟩⟩ ⟨s1, x1, hl, ?_⟩ ho
      refine hR.cong G2 G4 (fun i hi => ?_)
      have := hc.2.1 i hi
      simpa using this
    · intro i hi ih h1 s1 x1 hc ho
      have hge : ¬ nI 27 ≤ nI i := nI_ge hi (by omega)
      have g1 := fun k => g_obj (k := k) ((ho.2 97 (by omega)).trans z1)
      have a1 := a_arr x1
      have a2 : ms_arr h1 102 = some nw := by
        have := ho.2 102 (by omega)
        unfold ms_arr at an ⊢
        rw [this]; exact an
      have hl : s1.length = 27 := hc.1.trans ls1
      rw [s91_2]
      simp (disch := first | assumption | exact wn2_i | exact wn2_r | exact wn2_n | exact Nat.le_of_ble_eq_true rfl | omega | (refine nI_z ?_ ?_ <;> omega)) only [s91_3, s91_5, s91_8, s91_9, s91_12, s91_13, s91_14, s91_17, s91_18, s91_19, s91_20, s91_23, wX_some, Option.toList_some, Option.toList_none, List.cons_append, List.nil_append, List.map_cons, List.map_nil, List.sum_cons, List.sum_nil, Value.category, wn2_i, wn2_r, wn2_n, Option.isSome_some, List.getElem?_cons_zero, List.getElem?_cons_succ, nI_add, nI_rem2, hge, if_false, g1, a1, a2, ln, hl, iat_n]
      have hcn := hc.nx (x := nw.getD i 0) (by omega) (by rw [Nat.zero_add])
      rw [Nat.zero_add] at hcn
      exact ih _ _ (s_eq (lt_of_some x1)) hcn (ho.st (by omega) (by omega))
  simp (disch := first | assumption | exact wn2_i | exact wn2_r | exact wn2_n | exact Nat.le_of_ble_eq_true rfl | omega | (refine nI_z ?_ ?_ <;> omega)) only [s91_0, s91_1, wX_some, Option.toList_some, Option.toList_none, List.cons_append, List.nil_append, List.map_cons, List.map_nil, List.sum_cons, List.sum_nil, Value.category, wn2_i, wn2_r, wn2_n, Option.isSome_some, List.getElem?_cons_zero, List.getElem?_cons_succ, nI_add, nI_rem2]
  exact key 0 (by omega) h sd (by
    unfold ms_arr at as1
    revert as1
    cases e : h[103]? with
    | none => intro q; cases q
    | some c =>
      rw [z3] at e
      cases e
      intro q
      cases q
      rfl) CPY.z Off.rf
end MJS

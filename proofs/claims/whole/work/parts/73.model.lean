-- the model's calls: order
theorem in_m1 {x : Int32} {d : Nat} (hd : d < 2 ^ 31) : ((-1 : Int64) ≤ x.toInt64 ∧ x.toInt64 ≤ lN d) ↔ ((decide (x = -1) || rng 0 d x) = true) := by
  unfold rng
  rw [Bool.or_eq_true, decide_eq_true_eq, decide_eq_true_eq, Int64.le_iff_toInt_le, Int64.le_iff_toInt_le, Int32.toInt_toInt64, lN_toInt hd]
  have e1 : (-1 : Int64).toInt = -1 := rfl
  have e2 : (-1 : Int32).toInt = -1 := rfl
  rw [e1, ← Int32.toInt_inj, e2]
  omega
section M73
variable {sc : List Int32} {h h1 : List ms_C} {Q : Option Value → List ms_C → Prop} {o1 k1 o2 u2 : Int32} {T : Nat → Nat} {m : Nat} {A B : AS} {U K : List AS} {L : List (Nat × Nat)} {S : GS} {t : List Nat}
theorem MS.two {h1 : List ms_C} (hS : MS h o1 k1 o2 u2 B) (ho : Off h h1 108 2) : MS h1 o1 k1 o2 u2 B :=
  hS.offX (ho.x (P := fun i => i = 108 ∨ i = 109) (fun i x1 x2 => by omega)) (by omega)
/-- the works of the row aside, put otherwise -/
theorem m_per (hM : MJ h (-4) k1 (-4) u2 T m A U K L) (hS : MS h (-4) k1 (-4) u2 A) (hG : AG A) (ht : TW (A 7 1) t) (hO : OR h 108 (A 7 1) t) {l1 l2 l3 l4 l6 : Option Value} (k : ∀ h1 l5, MJ h1 (-4) k1 (-4) u2 T m A U K L → MS h1 (-4) k1 (-4) u2 (perA A t) → Off h h1 103 1 → wn_ok l5 = true → WP sc 113 119 [some (.ref 97), l1, l2, l3, l4, l5, l6] [] h1 Q) {l5 : Option Value} (w4 : wn_ok l4 = true) : WP sc 113 74 [some (.ref 97), l1, l2, l3, l4, l5, l6] [] h Q := by
  obtain ⟨⟨G1, G2⟩, ⟨G3, G4⟩, G5, G6, G7⟩ := hG
  have key : ∀ x, x ≤ A 7 1 → ∀ h1, MJ h1 (-4) k1 (-4) u2 T m A U K L → MS h1 (-4) k1 (-4) u2 (perTo A t x) → Off h h1 103 1 → WP sc 113 77 [some (.ref 97), l1, l2, l3, l4, some (.int (nI x)), l6] [] h1 Q := by
    refine loop_up ?_ ?_
    · intro h1 hM1 hS1 ho1
      obtain ⟨sp, td, nw, sd, hg, his, hI, at1, an, as1, lt1, ln, ls1, ⟨q1, q2, q3⟩, hR, b97, b102, b103⟩ := hM1.facts
      dsimp only at q2
      have hge : nI (A 7 1) ≤ nI (A 7 1) := nI_le (Nat.le_refl _) (by omega)
      rw [s113_77]
      simp (disch := first | assumption | exact wn2_i | exact wn2_r | exact wn2_n | exact Nat.le_of_ble_eq_true rfl | omega | (refine nI_z ?_ ?_ <;> omega)) only [s113_79, s113_80, s113_83, s113_84, s113_85, wX_some, Option.toList_some, Option.toList_none, List.cons_append, List.nil_append, List.map_cons, List.map_nil, List.sum_cons, List.sum_nil, Value.category, wn2_i, wn2_r, wn2_n, Option.isSome_some, List.getElem?_cons_zero, List.getElem?_cons_succ, nI_add, nI_rem2, hg, at1, lt1, iat_n, q2, hge, if_true]
      refine k h1 _ hM1 ?_ ho1 rfl
      obtain ⟨m', un, km, nm, sp, td, sd, z1, z2, z3, z4, z5, z6, z7, z8, ⟨r1, r2, r3, r4, r5⟩⟩ := hS1
      refine ⟨m', un, km, nm, sp, td, sd, z1, z2, z3, z4, z5, z6, z7, z8, ⟨r1, fun y hy => ?_, r3, r4, r5⟩⟩
      have hy : y < A 7 1 := hy
      rw [r2 y hy]
      show nI (if y < A 7 1 then A 3 (t.getD y 0) else A 3 y) = nI (A 3 (t.getD y 0))
      rw [if_pos hy]
    · intro x hx ih h1 hM1 hS1 ho1
      obtain ⟨sp, td, nw, sd, hg, his, hI, at1, an, as1, lt1, ln, ls1, ⟨q1, q2, q3⟩, hR, b97, b102, b103⟩ := hM1.facts
      dsimp only at q2
      obtain ⟨m', un, km, nm, sp', td', sd', hg', hI', at1', as1', lt1', ls1', t0', t1', hk', hR', pt, hlen⟩ := hS1.facts
      obtain ⟨l, x1, x2, x3⟩ := hO
      have ao := a_arr ((ho1.2 108 (by omega)).trans x1)
      have vx := x3 x hx
      have htx := ht.2 x hx
      have vn : nw.getD (18 + t.getD x 0) 0 = nI (A 3 (t.getD x 0)) := hR.2.1 _ htx
      have hl1 : 18 + t.getD x 0 < 27 := by omega
      have hge : ¬ nI (A 7 1) ≤ nI x := nI_ge hx (by omega)
      rw [s113_77]
      simp (disch := first | assumption | exact wn2_i | exact wn2_r | exact wn2_n | exact Nat.le_of_ble_eq_true rfl | omega | (refine nI_z ?_ ?_ <;> omega)) only [s113_79, s113_80, s113_83, s113_84, s113_85, s113_88, s113_89, s113_92, s113_94, s113_96, s113_97, s113_98, s113_101, s113_103, s113_104, s113_107, s113_109, s113_110, s113_111, s113_112, s113_113, s113_116, wX_some, Option.toList_some, Option.toList_none, List.cons_append, List.nil_append, List.map_cons, List.map_nil, List.sum_cons, List.sum_nil, Value.category, wn2_i, wn2_r, wn2_n, Option.isSome_some, List.getElem?_cons_zero, List.getElem?_cons_succ, nI_add, nI_rem2, hg, at1, lt1, iat_n, q2, hge, if_false, as1', ls1', an, ln, ao, x2, vx, vn]
      have hS2 : MS (h1.set 103 (ms_ia (sd'.set (18 + x) (nI (A 3 (t.getD x 0)))))) (-4) k1 (-4) u2 (perTo A t (x + 1)) := by
        refine pt _ _ _ ?_ rfl rfl rfl
        have hw := RA.wk (v := A 3 (t.getD x 0)) (s := x) hR' ls1' G2 G4 (by omega)
        obtain ⟨r1, r2, r3, r4, r5⟩ := hw
        refine ⟨r1, fun y hy => ?_, r3, r4, r5⟩
        have hy : y < A 7 1 := hy
        rw [r2 y hy]
        show nI (up1 (fun k => if k < x then A 3 (t.getD k 0) else A 3 k) x (A 3 (t.getD x 0)) y) = nI (if y < x + 1 then A 3 (t.getD y 0) else A 3 y)
        unfold up1
        dsimp only
        by_cases e : y = x
        · subst e; rw [if_pos rfl, if_pos (by omega)]
        · rw [if_neg e]
          by_cases e2 : y < x
          · rw [if_pos e2, if_pos (by omega)]
          · rw [if_neg e2, if_neg (by omega)]
      have ho2 : Off h1 (h1.set 103 (ms_ia (sd'.set (18 + x) (nI (A 3 (t.getD x 0)))))) 103 1 := Off.rf.st (by omega) (by omega)
      exact ih _ (hM1.side hS2 ho2) hS2 (ho1.tr ho2)
  simp (disch := first | assumption | exact wn2_i | exact wn2_r | exact wn2_n | exact Nat.le_of_ble_eq_true rfl | omega | (refine nI_z ?_ ?_ <;> omega)) only [s113_74, s113_75, wX_some, Option.toList_some, Option.toList_none, List.cons_append, List.nil_append, List.map_cons, List.map_nil, List.sum_cons, List.sum_nil, Value.category, wn2_i, wn2_r, wn2_n, Option.isSome_some, List.getElem?_cons_zero, List.getElem?_cons_succ, nI_add, nI_rem2]
  refine key 0 (by omega) h hM ?_ Off.rf
  refine hS.cong rfl rfl rfl rfl ?_ (fun s hs => ⟨rfl, rfl, rfl⟩)
  show (fun k => if k < 0 then A 3 (t.getD k 0) else A 3 k) = A 3
  funext k
  rw [if_neg (by omega)]
/-- the best order noted, when this one is better -/
theorem m_best (hM : MJ h (-4) k1 (-4) u2 T m A U K L) (hw1 : 1 ≤ A 7 1 ∧ A 7 1 ≤ 6) (hO : OR h 108 (A 7 1) t) {mo : Option Nat} {b : List Nat} {u : Nat} (hu : u ≤ 999) (hmo : ∀ v, mo = some v → v ≤ 999 ∧ OR h 109 (A 7 1) b) {l1 l2 l4 : Option Value} (k : ∀ h1 l6, MJ h1 (-4) k1 (-4) u2 T m A U K L → OR h1 109 (A 7 1) (if btr mo u then t else b) → Off h h1 109 1 → WP sc 113 193 [some (.ref 97), l1, l2, some (.int (wI (if btr mo u then some u else mo))), l4, some (.int (nI u)), l6] [] h1 Q) {l6 : Option Value} (w2 : wn_ok l2 = true) : WP sc 113 130 [some (.ref 97), l1, l2, some (.int (wI mo)), l4, some (.int (nI u)), l6] [] h Q := by
  obtain ⟨l, x1, x2, x3⟩ := hO
  obtain ⟨G3, G4⟩ := hw1
  -- is it better
  have cmp : ∀ (P1 P2 : Prop), (if nI u ≤ wI mo then P1 else P2) ↔ (if btr mo u then P2 else P1) := by
    intro P1 P2
    cases mo with
    | none =>
      have n1 : ¬ nI u ≤ wI none := by
        show ¬ nI u ≤ -4
        rw [Int32.le_iff_toInt_le, nI_toInt (by omega)]
        have : (-4 : Int32).toInt = -4 := rfl
        omega
      have e : btr none u = true := rfl
      rw [if_neg n1, e, if_pos rfl]
    | some v =>
      have hv := (hmo v rfl).1
      by_cases c : v < u
      · have n1 : ¬ nI u ≤ wI (some v) := nI_ge c (by omega)
        have e : btr (some v) u = true := by simp [btr, c]
        rw [if_neg n1, e, if_pos rfl]
      · have n1 : nI u ≤ wI (some v) := nI_le (by omega) (by omega)
        have e : btr (some v) u = false := by simp [btr]; omega
        rw [if_pos n1, e, if_neg (by decide)]
  have cmpT : btr mo u = true → ¬ nI u ≤ wI mo := fun e q => by
    have := (cmp True False).mp (by rw [if_pos q]; trivial)
    rw [e, if_pos rfl] at this
    exact this
  have cmpF : btr mo u = false → nI u ≤ wI mo := fun e => by
    have := (cmp True False).mpr (by rw [e, if_neg (by decide)]; trivial)
    by_cases q : nI u ≤ wI mo
    · exact q
    · rw [if_neg q] at this; exact this.elim
  have key : ∀ x, x ≤ A 7 1 → ∀ h1 bo, MJ h1 (-4) k1 (-4) u2 T m A U K L → h1[109]? = some (ms_ia bo) → bo.length = 6 → (btr mo u = true → ∀ y, y < x → bo.getD y 0 = nI (t.getD y 0)) → (btr mo u = false → ∀ y, y < A 7 1 → bo.getD y 0 = nI (b.getD y 0)) → Off h h1 109 1 → WP sc 113 133 [some (.ref 97), l1, l2, some (.int (wI mo)), l4, some (.int (nI u)), some (.int (nI x))] [] h1 Q := by
    refine loop_up ?_ ?_
    · intro h1 bo hM1 y1 y2 yt yf ho1
      obtain ⟨sp, td, nw, sd, hg, his, hI, at1, an, as1, lt1, ln, ls1, ⟨q1, q2, q3⟩, hR, b97, b102, b103⟩ := hM1.facts
      dsimp only at q2
      have hge : nI (A 7 1) ≤ nI (A 7 1) := nI_le (Nat.le_refl _) (by omega)
      rw [s113_133]
      cases hb : btr mo u with
      | true =>
        have n1 := cmpT hb
        have kk := k h1 (some (.int (nI (A 7 1)))) hM1 ⟨bo, y1, y2, by rw [hb, if_pos rfl]; exact yt hb⟩ ho1
        rw [hb, if_pos rfl] at kk
        simp (disch := first | assumption | exact wn2_i | exact wn2_r | exact wn2_n | exact Nat.le_of_ble_eq_true rfl | omega | (refine nI_z ?_ ?_ <;> omega)) only [s113_135, s113_136, s113_139, s113_140, s113_141, s113_180, s113_182, s113_183, s113_186, s113_188, s113_191, s113_192, wX_some, Option.toList_some, Option.toList_none, List.cons_append, List.nil_append, List.map_cons, List.map_nil, List.sum_cons, List.sum_nil, Value.category, wn2_i, wn2_r, wn2_n, Option.isSome_some, List.getElem?_cons_zero, List.getElem?_cons_succ, nI_add, nI_rem2, hg, at1, lt1, iat_n, q2, hge, if_true, n1, if_false]
        exact kk
      | false =>
        have n1 := cmpF hb
        have kk := k h1 (some (.int (nI (A 7 1)))) hM1 ⟨bo, y1, y2, by rw [hb, if_neg (by decide)]; exact yf hb⟩ ho1
        rw [hb, if_neg (by decide)] at kk
        simp (disch := first | assumption | exact wn2_i | exact wn2_r | exact wn2_n | exact Nat.le_of_ble_eq_true rfl | omega | (refine nI_z ?_ ?_ <;> omega)) only [s113_135, s113_136, s113_139, s113_140, s113_141, s113_180, s113_182, s113_183, s113_186, s113_188, s113_191, s113_192, wX_some, Option.toList_some, Option.toList_none, List.cons_append, List.nil_append, List.map_cons, List.map_nil, List.sum_cons, List.sum_nil, Value.category, wn2_i, wn2_r, wn2_n, Option.isSome_some, List.getElem?_cons_zero, List.getElem?_cons_succ, nI_add, nI_rem2, hg, at1, lt1, iat_n, q2, hge, if_true, n1]
        exact kk
    · intro x hx ih h1 bo hM1 y1 y2 yt yf ho1
      obtain ⟨sp, td, nw, sd, hg, his, hI, at1, an, as1, lt1, ln, ls1, ⟨q1, q2, q3⟩, hR, b97, b102, b103⟩ := hM1.facts
      dsimp only at q2
      have hge : ¬ nI (A 7 1) ≤ nI x := nI_ge hx (by omega)
      have ao := a_arr ((ho1.2 108 (by omega)).trans x1)
      have ab := a_arr y1
      have vx := x3 x hx
      rw [s113_133]
      cases hb : btr mo u with
      | true =>
        have n1 := cmpT hb
        have hl : (bo.set x (nI (t.getD x 0))).length = 6 := by rw [List.length_set]; exact y2
        have kk := ih (h1.set 109 (ms_ia (bo.set x (nI (t.getD x 0))))) (bo.set x (nI (t.getD x 0))) (hM1.c109 hl) (s_eq (lt_of_some y1)) hl (fun _ y hy => by
          rw [gset (by omega)]
          by_cases e : x = y
          · subst e; rw [if_pos rfl]
          · rw [if_neg e]; exact yt hb y (by omega)) (fun e => by rw [hb] at e; cases e) (ho1.st (by omega) (by omega))
        simp (disch := first | assumption | exact wn2_i | exact wn2_r | exact wn2_n | exact Nat.le_of_ble_eq_true rfl | omega | (refine nI_z ?_ ?_ <;> omega)) only [s113_135, s113_136, s113_139, s113_140, s113_141, s113_144, s113_145, s113_148, s113_150, s113_152, s113_153, s113_156, s113_157, s113_160, s113_162, s113_163, s113_166, s113_167, s113_170, s113_172, s113_173, s113_174, s113_177, wX_some, Option.toList_some, Option.toList_none, List.cons_append, List.nil_append, List.map_cons, List.map_nil, List.sum_cons, List.sum_nil, Value.category, wn2_i, wn2_r, wn2_n, Option.isSome_some, List.getElem?_cons_zero, List.getElem?_cons_succ, nI_add, nI_rem2, hg, at1, lt1, iat_n, q2, hge, if_false, n1, ao, x2, ab, y2, vx]
        exact kk
      | false =>
        have n1 := cmpF hb
        have vb := yf hb x hx
        have hl : (bo.set x (nI (b.getD x 0))).length = 6 := by rw [List.length_set]; exact y2
        have kk := ih (h1.set 109 (ms_ia (bo.set x (nI (b.getD x 0))))) (bo.set x (nI (b.getD x 0))) (hM1.c109 hl) (s_eq (lt_of_some y1)) hl (fun e => by rw [hb] at e; cases e) (fun _ y hy => by
          rw [gset (by omega)]
          by_cases e : x = y
          · subst e; rw [if_pos rfl]
          · rw [if_neg e]; exact yf hb y hy) (ho1.st (by omega) (by omega))
        simp (disch := first | assumption | exact wn2_i | exact wn2_r | exact wn2_n | exact Nat.le_of_ble_eq_true rfl | omega | (refine nI_z ?_ ?_ <;> omega)) only [s113_135, s113_136, s113_139, s113_140, s113_141, s113_144, s113_145, s113_148, s113_150, s113_152, s113_153, s113_156, s113_157, s113_160, s113_162, s113_163, s113_166, s113_167, s113_170, s113_172, s113_173, s113_174, s113_177, wX_some, Option.toList_some, Option.toList_none, List.cons_append, List.nil_append, List.map_cons, List.map_nil, List.sum_cons, List.sum_nil, Value.category, wn2_i, wn2_r, wn2_n, Option.isSome_some, List.getElem?_cons_zero, List.getElem?_cons_succ, nI_add, nI_rem2, hg, at1, lt1, iat_n, q2, hge, if_false, n1, if_true, ab, y2, vb]
        exact kk
  have hbo : ∃ bo, h[109]? = some (ms_ia bo) ∧ bo.length = 6 ∧ (btr mo u = false → ∀ y, y < A 7 1 → bo.getD y 0 = nI (b.getD y 0)) := by
    cases hm : mo with
    | none =>
      obtain ⟨_, ⟨a98, a99, a100, a101, a102, a104, a105, a106, a107, a108, a109⟩, _⟩ := hM
      obtain ⟨bo, y1, y2, -⟩ := a109
      exact ⟨bo, y1, y2, fun e => by cases e⟩
    | some v =>
      obtain ⟨bo, y1, y2, y3⟩ := (hmo v hm).2
      exact ⟨bo, y1, y2, fun _ => y3⟩
  obtain ⟨bo, y1, y2, y3⟩ := hbo
  simp (disch := first | assumption | exact wn2_i | exact wn2_r | exact wn2_n | exact Nat.le_of_ble_eq_true rfl | omega | (refine nI_z ?_ ?_ <;> omega)) only [s113_130, s113_131, wX_some, Option.toList_some, Option.toList_none, List.cons_append, List.nil_append, List.map_cons, List.map_nil, List.sum_cons, List.sum_nil, Value.category, wn2_i, wn2_r, wn2_n, Option.isSome_some, List.getElem?_cons_zero, List.getElem?_cons_succ, nI_add, nI_rem2]
  exact key 0 (by omega) h bo hM y1 y2 (fun _ y hy => by omega) y3 Off.rf
theorem m_order (hM : MIS h S) (hg : GIS S) {n j : Int32} {l3 l4 l5 l6 : Option Value} (k : ∀ h1, MIS h1 (op_order n j S).2 → Off h h1 97 13 → Q (some (.int (op_order n j S).1)) h1) : WP sc 113 0 [some (.ref 97), some (.int n), some (.int j), l3, l4, l5, l6] [] h Q := by
  obtain ⟨⟨T, m⟩, A, U, K, L⟩ := S
  have hM0 := hM
  obtain ⟨k1, u2, hM⟩ := hM
  have hg : GI m A U K L := hg
  have hM : MJ h (-4) k1 (-4) u2 T m A U K L := hM
  obtain ⟨-, hAG, hq, -⟩ := hg
  have hAG0 := hAG
  obtain ⟨⟨G1, G2⟩, ⟨G3, G4⟩, G5, G6, G7⟩ := hAG
  unfold op_order inW at k
  dsimp only at k
  cases hr : rng 1 40 n with
  | false =>
    rw [hr, Bool.false_and, if_neg (by decide)] at k
    simp (disch := first | assumption | exact wn2_i | exact wn2_r | exact wn2_n | exact Nat.le_of_ble_eq_true rfl | omega | (refine nI_z ?_ ?_ <;> omega)) only [s113_0, s113_1, s113_2, s113_3, s113_6, s113_9, s113_12, s113_13, s113_14, s113_17, s113_18, s113_21, s113_22, s113_23, s113_24, s113_25, s113_26, s113_29, s113_32, s113_33, wX_some, Option.toList_some, Option.toList_none, List.cons_append, List.nil_append, List.map_cons, List.map_nil, List.sum_cons, List.sum_nil, Value.category, wn2_i, wn2_r, wn2_n, Option.isSome_some, List.getElem?_cons_zero, List.getElem?_cons_succ, nI_add, nI_rem2, in_rng, hr, Bool.false_eq_true, if_false, nI_eq0, if_true]
    exact k h hM0 Off.rf
  | true =>
    obtain ⟨i, i1, i2, rfl⟩ := rng_nI (by omega) hr
    rw [hr, Bool.true_and, nat_nI (by omega)] at k
    obtain ⟨sp, td, nw, sd, hgo, his, hI, at1, an, as1, lt1, ln, ls1, ⟨q1, q2, q3⟩, hR, b97, b102, b103⟩ := hM.facts
    dsimp only at q2
    have e1 : nI (A 7 1) - nI 1 = nI (A 7 1 - 1) := nI_sub G3
    have e2 : (nI (A 7 1 - 1)).toInt64 = lN (A 7 1 - 1) := nI_l (by omega)
    have hin : ∀ (Q : Option Value → List ms_C → Prop) (l1 l3 l5 : Option Value), WP sc 81 0 [some (.long j.toInt64), l1, some (.long (-1)), l3, some (.long (lN (A 7 1 - 1))), l5] [] h Q ↔ Q (some (.int (if (decide (j = -1) || rng 0 (A 7 1 - 1) j) = true then nI 1 else nI 0))) h := by
      intro Q l1 l3 l5
      rw [in_wp]
      simp only [in_m1 (show A 7 1 - 1 < 2 ^ 31 by omega)]
    cases hc : (decide (j = -1) || rng 0 (A 7 1 - 1) j) with
    | false =>
      rw [hc, if_neg (by decide)] at k
      rw [hc] at hin
      simp (disch := first | assumption | exact wn2_i | exact wn2_r | exact wn2_n | exact Nat.le_of_ble_eq_true rfl | omega | (refine nI_z ?_ ?_ <;> omega)) only [s113_0, s113_1, s113_2, s113_3, s113_6, s113_9, s113_12, s113_13, s113_14, s113_17, s113_18, s113_21, s113_22, s113_23, s113_24, s113_25, s113_26, s113_29, s113_32, s113_33, wX_some, Option.toList_some, Option.toList_none, List.cons_append, List.nil_append, List.map_cons, List.map_nil, List.sum_cons, List.sum_nil, Value.category, wn2_i, wn2_r, wn2_n, Option.isSome_some, List.getElem?_cons_zero, List.getElem?_cons_succ, nI_add, nI_rem2, in_rng, hr, hgo, at1, lt1, iat_n, q2, e1, e2, hin, Bool.false_eq_true, if_false, nI_eq0, if_true, Nat.reduceEqDiff]
      exact k h hM0 Off.rf
    | true =>
      rw [hc, if_pos rfl] at k
      rw [hc] at hin
      obtain ⟨R, hRR⟩ : ∃ R, obL A i 719 [0, 1, 2, 3, 4, 5] none [] = R := ⟨_, rfl⟩
      rw [hRR] at k
      obtain ⟨best, hbest⟩ : ∃ v, R.1 = some v := by rw [← hRR]; exact obL_some _ _ _ _
      -- the end
      have out : ∀ h1 l4 l5 l6, MJ h1 (-4) k1 (-4) u2 T m A U K L → OR h1 109 (A 7 1) R.2 → Off h h1 97 13 → WP sc 113 202 [some (.ref 97), some (.int (nI i)), some (.int j), some (.int (wI R.1)), l4, l5, l6] [] h1 Q := by
        intro h1 l4 l5 l6 hM1 hB ho1
        obtain ⟨bo, y1, y2, y3⟩ := hB
        obtain ⟨sp, z1, -⟩ := hM1.obj
        have hgo := fun k => g_obj (k := k) z1
        have ab := a_arr y1
        by_cases hj : j = -1
        · rw [if_pos hj] at k
          subst hj
          have n1 : ¬ (0 : Int32) ≤ -1 := by decide
          simp (disch := first | assumption | exact wn2_i | exact wn2_r | exact wn2_n | exact Nat.le_of_ble_eq_true rfl | omega | (refine nI_z ?_ ?_ <;> omega)) only [s113_202, s113_203, s113_206, s113_207, s113_210, s113_211, s113_214, s113_215, s113_216, wX_some, Option.toList_some, Option.toList_none, List.cons_append, List.nil_append, List.map_cons, List.map_nil, List.sum_cons, List.sum_nil, Value.category, wn2_i, wn2_r, wn2_n, Option.isSome_some, List.getElem?_cons_zero, List.getElem?_cons_succ, nI_add, nI_rem2, n1, if_false]
          have kk := k h1 ⟨k1, u2, hM1⟩ ho1
          rw [hbest] at kk ⊢
          exact kk
        · rw [if_neg hj] at k
          rw [decide_eq_false hj, Bool.false_or] at hc
          obtain ⟨v, v1, v2, rfl⟩ := rng_nI (by omega) hc
          rw [nat_nI (by omega)] at k
          have n1 : 0 ≤ nI v := nI_pos' (by omega)
          have vb := y3 v (by omega)
          simp (disch := first | assumption | exact wn2_i | exact wn2_r | exact wn2_n | exact Nat.le_of_ble_eq_true rfl | omega | (refine nI_z ?_ ?_ <;> omega)) only [s113_202, s113_203, s113_206, s113_207, s113_210, s113_211, s113_214, s113_215, s113_216, wX_some, Option.toList_some, Option.toList_none, List.cons_append, List.nil_append, List.map_cons, List.map_nil, List.sum_cons, List.sum_nil, Value.category, wn2_i, wn2_r, wn2_n, Option.isSome_some, List.getElem?_cons_zero, List.getElem?_cons_succ, nI_add, nI_rem2, n1, if_true, hgo, ab, y2, iat_n, vb]
          exact k h1 ⟨k1, u2, hM1⟩ ho1
      -- one round
      have step : ∀ t mo b h1 l5 l6, TW (A 7 1) t → MJ h1 (-4) k1 (-4) u2 T m A U K L → OR h1 108 (A 7 1) t → (∀ v, mo = some v → v ≤ 999 ∧ OR h1 109 (A 7 1) b) → Off h h1 97 13 →
          (adv (A 7 1) t = none → ∀ h2 l5 l6, MJ h2 (-4) k1 (-4) u2 T m A U K L → OR h2 109 (A 7 1) (if btr mo (muc A i t) then t else b) → Off h h2 97 13 → WP sc 113 202 [some (.ref 97), some (.int (nI i)), some (.int j), some (.int (wI (if btr mo (muc A i t) then some (muc A i t) else mo))), some (.int (nI 0)), l5, l6] [] h2 Q) →
          (∀ t', adv (A 7 1) t = some t' → ∀ h2 l5 l6, MJ h2 (-4) k1 (-4) u2 T m A U K L → OR h2 108 (A 7 1) t' → OR h2 109 (A 7 1) (if btr mo (muc A i t) then t else b) → Off h h2 97 13 → WP sc 113 65 [some (.ref 97), some (.int (nI i)), some (.int j), some (.int (wI (if btr mo (muc A i t) then some (muc A i t) else mo))), some (.int (nI 1)), l5, l6] [] h2 Q) →
          WP sc 113 65 [some (.ref 97), some (.int (nI i)), some (.int j), some (.int (wI mo)), some (.int (nI 1)), l5, l6] [] h1 Q := by
        intro t mo b h1 l5 l6 ht hM1 hO1 hmo ho1 kn ks
        have hGp := perA_ag hAG0 ht
        obtain ⟨_, _, _, _, _, _, hI, -⟩ := hM1.facts
        rw [s113_65]
        simp (disch := first | assumption | exact wn2_i | exact wn2_r | exact wn2_n | exact Nat.le_of_ble_eq_true rfl | omega | (refine nI_z ?_ ?_ <;> omega)) only [s113_67, s113_70, s113_71, wX_some, Option.toList_some, Option.toList_none, List.cons_append, List.nil_append, List.map_cons, List.map_nil, List.sum_cons, List.sum_nil, Value.category, wn2_i, wn2_r, wn2_n, Option.isSome_some, List.getElem?_cons_zero, List.getElem?_cons_succ, nI_add, nI_rem2, nI_eq0, if_false, Nat.reduceEqDiff]
        refine aside_wp hM1 hAG0 (fun h2 hM2 hs2 ho2 => ?_)
        have hS2 := hM2.ms0 G2 hs2
        have hO2 : OR h2 108 (A 7 1) t := hO1.off (ho2.2 108 (by omega))
        simp only [wX_some, Option.toList_some, Option.toList_none, List.cons_append, List.nil_append, List.map_cons, List.map_nil, List.sum_cons, List.sum_nil, Value.category, wn2_i, wn2_r, wn2_n, Option.isSome_some, List.getElem?_cons_zero, List.getElem?_cons_succ, nI_add, nI_rem2]
        refine m_per hM2 hS2 hAG0 ht hO2 (fun h3 l5 hM3 hS3 ho3 w5 => ?_) rfl
        have hO3 : OR h3 108 (A 7 1) t := hO2.off (ho3.2 108 (by omega))
        obtain ⟨_, _, _, _, _, _, hI, -⟩ := hM3.facts
        simp (disch := first | assumption | exact wn2_i | exact wn2_r | exact wn2_n | exact Nat.le_of_ble_eq_true rfl | omega | (refine nI_z ?_ ?_ <;> omega)) only [s113_119, s113_120, s113_121, wX_some, Option.toList_some, Option.toList_none, List.cons_append, List.nil_append, List.map_cons, List.map_nil, List.sum_cons, List.sum_nil, Value.category, wn2_i, wn2_r, wn2_n, Option.isSome_some, List.getElem?_cons_zero, List.getElem?_cons_succ, nI_add, nI_rem2]
        refine goQuarters_wp hS3 hGp (by omega) (show A 4 0 + i ≤ 200000 by omega) (fun h4 hS4 ho4 => ?_)
        have hM4 := hM3.side hS4 ho4
        have hO4 : OR h4 108 (A 7 1) t := hO3.off (ho4.2 108 (by omega))
        obtain ⟨_, _, _, _, _, _, hI, -⟩ := hM4.facts
        have hGl := lpA_ag hGp i
        have hs7 : lpA (perA A t) i 7 = A 7 := (lpA_s i).1
        have hpw := fun Q l1 l2 => least_wp (sc := sc) (Q := Q) (l1 := l1) (l2 := l2) hS4 (by rw [hs7]; omega) (by rw [hs7]; omega) (fun s hs => by have := (hGl.2.2.1 s hs).1; omega)
        have e8 : mnW (lpA (perA A t) i) (lpA (perA A t) i 7 0 - 1) = muc A i t := by rw [hs7]; rfl
        rw [e8] at hpw
        have hmu : muc A i t ≤ 999 := mnW_le (A := lpA (perA A t) i) (n := A 7 0) (fun x hx => by have := (hGl.2.2.1 x (by rw [hs7]; exact hx)).1; omega) _ (by omega)
        have hmo4 : ∀ v, mo = some v → v ≤ 999 ∧ OR h4 109 (A 7 1) b := fun v hv => ⟨(hmo v hv).1, (((hmo v hv).2.off (ho2.2 109 (by omega))).off (ho3.2 109 (by omega))).off (ho4.2 109 (by omega))⟩
        simp (disch := first | assumption | exact wn2_i | exact wn2_r | exact wn2_n | exact Nat.le_of_ble_eq_true rfl | omega | (refine nI_z ?_ ?_ <;> omega)) only [s113_124, s113_125, s113_128, wX_some, Option.toList_some, Option.toList_none, List.cons_append, List.nil_append, List.map_cons, List.map_nil, List.sum_cons, List.sum_nil, Value.category, wn2_i, wn2_r, wn2_n, Option.isSome_some, List.getElem?_cons_zero, List.getElem?_cons_succ, nI_add, nI_rem2, hpw]
        have ho14 : Off h h4 97 13 := ((ho1.tr (ho2.wide (by omega) (by omega))).tr (ho3.wide (by omega) (by omega))).tr (ho4.wide (by omega) (by omega))
        refine m_best hM4 ⟨G3, G4⟩ hO4 hmu hmo4 (fun h5 l6 hM5 hB5 ho5 => ?_) rfl
        have hO5 : OR h5 108 (A 7 1) t := hO4.off (ho5.2 108 (by omega))
        obtain ⟨_, _, _, _, _, _, hI, -⟩ := hM5.facts
        have ho15 : Off h h5 97 13 := ho14.tr (ho5.wide (by omega) (by omega))
        simp (disch := first | assumption | exact wn2_i | exact wn2_r | exact wn2_n | exact Nat.le_of_ble_eq_true rfl | omega | (refine nI_z ?_ ?_ <;> omega)) only [s113_193, s113_194, wX_some, Option.toList_some, Option.toList_none, List.cons_append, List.nil_append, List.map_cons, List.map_nil, List.sum_cons, List.sum_nil, Value.category, wn2_i, wn2_r, wn2_n, Option.isSome_some, List.getElem?_cons_zero, List.getElem?_cons_succ, nI_add, nI_rem2]
        refine nextOrder_wp hM5 rfl hO5 ht.1 ⟨G3, G4⟩ (fun hn0 => ?_) (fun h6 t' hs hM6 hO6 ho6 => ?_)
        · have kk := kn hn0 h5 (some (.int (nI (muc A i t)))) l6 hM5 hB5 ho15
          simp (disch := first | assumption | exact wn2_i | exact wn2_r | exact wn2_n | exact Nat.le_of_ble_eq_true rfl | omega | (refine nI_z ?_ ?_ <;> omega)) only [s113_197, s113_199, wX_some, Option.toList_some, Option.toList_none, List.cons_append, List.nil_append, List.map_cons, List.map_nil, List.sum_cons, List.sum_nil, Value.category, wn2_i, wn2_r, wn2_n, Option.isSome_some, List.getElem?_cons_zero, List.getElem?_cons_succ, nI_add, nI_rem2]
          rw [s113_65]
          simp (disch := first | assumption | exact wn2_i | exact wn2_r | exact wn2_n | exact Nat.le_of_ble_eq_true rfl | omega | (refine nI_z ?_ ?_ <;> omega)) only [s113_67, wX_some, Option.toList_some, Option.toList_none, List.cons_append, List.nil_append, List.map_cons, List.map_nil, List.sum_cons, List.sum_nil, Value.category, wn2_i, wn2_r, wn2_n, Option.isSome_some, List.getElem?_cons_zero, List.getElem?_cons_succ, nI_add, nI_rem2, nI_eq0, if_true]
          exact kk
        · have kk := ks t' hs h6 (some (.int (nI (muc A i t)))) l6 hM6 hO6 (hB5.off (ho6.2 109 (by omega))) (ho15.tr (ho6.wide (by omega) (by omega)))
          simp (disch := first | assumption | exact wn2_i | exact wn2_r | exact wn2_n | exact Nat.le_of_ble_eq_true rfl | omega | (refine nI_z ?_ ?_ <;> omega)) only [s113_197, s113_199, wX_some, Option.toList_some, Option.toList_none, List.cons_append, List.nil_append, List.map_cons, List.map_nil, List.sum_cons, List.sum_nil, Value.category, wn2_i, wn2_r, wn2_n, Option.isSome_some, List.getElem?_cons_zero, List.getElem?_cons_succ, nI_add, nI_rem2]
          exact kk
      have isS : ∀ (m : Option Nat) u, ∃ v, (if btr m u then some u else m) = some v := by
        intro m u
        cases m with
        | none => exact ⟨u, rfl⟩
        | some v =>
          by_cases hb : btr (some v) u = true
          · exact ⟨u, by rw [if_pos hb]⟩
          · exact ⟨v, by rw [if_neg hb]⟩
      have mule : ∀ t, TW (A 7 1) t → muc A i t ≤ 999 := by
        intro t ht
        have hGl := lpA_ag (perA_ag hAG0 ht) i
        have hs7 : lpA (perA A t) i 7 = A 7 := (lpA_s i).1
        exact mnW_le (A := lpA (perA A t) i) (n := A 7 0) (fun x hx => by have := (hGl.2.2.1 x (by rw [hs7]; exact hx)).1; omega) _ (by omega)
      have main : ∀ f t mo b h1 l5 l6, TW (A 7 1) t → MJ h1 (-4) k1 (-4) u2 T m A U K L → OR h1 108 (A 7 1) t → (∀ v, mo = some v → v ≤ 999 ∧ OR h1 109 (A 7 1) b) → Off h h1 97 13 → fin (A 7 1) f t = true → obL A i f t mo b = R → WP sc 113 65 [some (.ref 97), some (.int (nI i)), some (.int j), some (.int (wI mo)), some (.int (nI 1)), l5, l6] [] h1 Q := by
        intro f
        induction f with
        | zero =>
          intro t mo b h1 l5 l6 ht hM1 hO1 hmo ho1 hf hob
          have e : obL A i 0 t mo b = ((if btr mo (muc A i t) then some (muc A i t) else mo), (if btr mo (muc A i t) then t else b)) := by
            unfold obL; split <;> rfl
          rw [e] at hob
          have hf : (adv (A 7 1) t).isNone = true := hf
          refine step t mo b h1 l5 l6 ht hM1 hO1 hmo ho1 (fun hn0 h2 l5 l6 y1 y2 y3 => ?_) (fun t' hs => by rw [hs] at hf; cases hf)
          have := out h2 (some (.int (nI 0))) l5 l6 y1 (by rw [← hob]; exact y2) y3
          rw [← hob] at this
          exact this
        | succ f ih =>
          intro t mo b h1 l5 l6 ht hM1 hO1 hmo ho1 hf hob
          refine step t mo b h1 l5 l6 ht hM1 hO1 hmo ho1 (fun hn0 h2 l5 l6 y1 y2 y3 => ?_) (fun t' hs h2 l5 l6 y1 y2 y3 y4 => ?_)
          · have e : obL A i (f + 1) t mo b = ((if btr mo (muc A i t) then some (muc A i t) else mo), (if btr mo (muc A i t) then t else b)) := by
              rw [obL, hn0]; dsimp only; split <;> rfl
            rw [e] at hob
            have := out h2 (some (.int (nI 0))) l5 l6 y1 (by rw [← hob]; exact y2) y3
            rw [← hob] at this
            exact this
          · have e : obL A i (f + 1) t mo b = obL A i f t' (if btr mo (muc A i t) then some (muc A i t) else mo) (if btr mo (muc A i t) then t else b) := by
              conv => lhs; rw [obL, hs]
            rw [e] at hob
            unfold fin at hf
            rw [hs] at hf
            refine ih t' _ _ h2 l5 l6 (adv_tw G3 ht hs) y1 y2 (fun v hv => ⟨?_, y3⟩) y4 hf hob
            have hm9 := mule t ht
            cases hmc : mo with
            | none => rw [hmc] at hv; cases hv; exact hm9
            | some v0 =>
              have := (hmo v0 hmc).1
              rw [hmc] at hv
              split at hv
              · cases hv; exact hm9
              · cases hv; exact this
      have hfin : fin (A 7 1) 719 [0, 1, 2, 3, 4, 5] = true := by
        have := fin_all (A 7 1 - 1) (by omega)
        rw [show A 7 1 - 1 + 1 = A 7 1 by omega] at this
        exact this
      have start : ∀ x, x ≤ A 7 1 → ∀ h1 l, MJ h1 (-4) k1 (-4) u2 T m A U K L → h1[108]? = some (ms_ia l) → l.length = 6 → (∀ y, y < x → l.getD y 0 = nI y) → Off h h1 97 13 → WP sc 113 36 [some (.ref 97), some (.int (nI i)), some (.int j), some (.int (nI x)), l4, l5, l6] [] h1 Q := by
        refine loop_up ?_ ?_
        · intro h1 l hM1 y1 y2 y3 ho1
          obtain ⟨sp, td, nw, sd, hgo, his, hI, at1, an, as1, lt1, ln, ls1, ⟨q1, q2, q3⟩, hR, b97, b102, b103⟩ := hM1.facts
          dsimp only at q2
          have hge : nI (A 7 1) ≤ nI (A 7 1) := nI_le (Nat.le_refl _) (by omega)
          rw [s113_36]
          simp (disch := first | assumption | exact wn2_i | exact wn2_r | exact wn2_n | exact Nat.le_of_ble_eq_true rfl | omega | (refine nI_z ?_ ?_ <;> omega)) only [s113_37, s113_38, s113_41, s113_42, s113_43, s113_59, s113_61, s113_62, s113_63, wX_some, Option.toList_some, Option.toList_none, List.cons_append, List.nil_append, List.map_cons, List.map_nil, List.sum_cons, List.sum_nil, Value.category, wn2_i, wn2_r, wn2_n, Option.isSome_some, List.getElem?_cons_zero, List.getElem?_cons_succ, nI_add, nI_rem2, hgo, at1, lt1, iat_n, q2, hge, if_true]
          refine main 719 [0, 1, 2, 3, 4, 5] none [] h1 l5 l6 (id_tw G4) hM1 ⟨l, y1, y2, fun y hy => ?_⟩ (fun v hv => by cases hv) ho1 hfin hRR
          rw [y3 y hy]
          have h6 : y < 6 := by omega
          match y, h6 with
          | 0, _ | 1, _ | 2, _ | 3, _ | 4, _ | 5, _ => rfl
        · intro x hx ih h1 l hM1 y1 y2 y3 ho1
          obtain ⟨sp, td, nw, sd, hgo, his, hI, at1, an, as1, lt1, ln, ls1, ⟨q1, q2, q3⟩, hR, b97, b102, b103⟩ := hM1.facts
          dsimp only at q2
          have hge : ¬ nI (A 7 1) ≤ nI x := nI_ge hx (by omega)
          have ao := a_arr y1
          have hl : (l.set x (nI x)).length = 6 := by rw [List.length_set]; exact y2
          have kk := ih (h1.set 108 (ms_ia (l.set x (nI x)))) _ (hM1.c108 hl) (s_eq (lt_of_some y1)) hl (fun y hy => by
            rw [gset (by omega)]
            by_cases e : x = y
            · subst e; rw [if_pos rfl]
            · rw [if_neg e]; exact y3 y (by omega)) (ho1.st (by omega) (by omega))
          rw [s113_36]
          simp (disch := first | assumption | exact wn2_i | exact wn2_r | exact wn2_n | exact Nat.le_of_ble_eq_true rfl | omega | (refine nI_z ?_ ?_ <;> omega)) only [s113_37, s113_38, s113_41, s113_42, s113_43, s113_46, s113_47, s113_50, s113_51, s113_52, s113_53, s113_56, wX_some, Option.toList_some, Option.toList_none, List.cons_append, List.nil_append, List.map_cons, List.map_nil, List.sum_cons, List.sum_nil, Value.category, wn2_i, wn2_r, wn2_n, Option.isSome_some, List.getElem?_cons_zero, List.getElem?_cons_succ, nI_add, nI_rem2, hgo, at1, lt1, iat_n, q2, hge, if_false, ao, y2]
          exact kk
      obtain ⟨l, y1, y2, -⟩ : AR h 108 6 (fun _ => True) := by
        obtain ⟨_, ⟨a98, a99, a100, a101, a102, a104, a105, a106, a107, a108, a109⟩, _⟩ := hM
        exact a108
      simp (disch := first | assumption | exact wn2_i | exact wn2_r | exact wn2_n | exact Nat.le_of_ble_eq_true rfl | omega | (refine nI_z ?_ ?_ <;> omega)) only [s113_0, s113_1, s113_2, s113_3, s113_6, s113_9, s113_12, s113_13, s113_14, s113_17, s113_18, s113_21, s113_22, s113_23, s113_24, s113_25, s113_26, s113_29, s113_32, s113_33, s113_34, s113_35, wX_some, Option.toList_some, Option.toList_none, List.cons_append, List.nil_append, List.map_cons, List.map_nil, List.sum_cons, List.sum_nil, Value.category, wn2_i, wn2_r, wn2_n, Option.isSome_some, List.getElem?_cons_zero, List.getElem?_cons_succ, nI_add, nI_rem2, in_rng, hr, hgo, at1, lt1, iat_n, q2, e1, e2, hin, if_false, nI_eq0, if_true, Nat.reduceEqDiff]
      exact start 0 (by omega) h l hM y1 y2 (fun y hy => by omega) Off.rf
end M73

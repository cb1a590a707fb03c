-- the model: what only reads the row aside
theorem MS.facts {h : List ms_C} {o1 k1 o2 u2 : Int32} {A : AS} (hM : MS h o1 k1 o2 u2 A) : ∃ (m un km nm sp : Int32) (td sd : List Int32), (∀ k, ms_get h 97 6 k = (MO m un km nm sp o1 k1 o2 u2)[k]?) ∧ (ms_is h 97 6).isSome = true ∧ ms_arr h 99 = some td ∧ ms_arr h 103 = some sd ∧ td.length = 14 ∧ sd.length = 27 ∧ td.getD 0 0 = nI (A 7 0) ∧ td.getD 1 0 = nI (A 7 1) ∧ (∀ s, s < A 7 0 → (if nI s = o1 then k1 else td.getD (2 + s) 0) = nI (A 5 s) ∧ (if nI s = o2 then u2 else td.getD (8 + s) 0) = nI (A 6 s)) ∧ RA (fun i => sd.getD i 0) A ∧
    (∀ (i : Nat) (x : Int32) (B : AS), RA (fun j => (sd.set i x).getD j 0) B → B 7 = A 7 → B 5 = A 5 → B 6 = A 6 → MS (h.set 103 (ms_ia (sd.set i x))) o1 k1 o2 u2 B) ∧ 103 < h.length := by
  obtain ⟨m, un, km, nm, sp, td, sd, h1, h2, h3, h4, h5, h6, h7, h8, h9⟩ := hM
  refine ⟨m, un, km, nm, sp, td, sd, g_obj h1, by rw [i_obj h1]; rfl, a_arr h2, a_arr h3, h4, h5, h6, h7, h8, h9, fun i x B hB e7 e5 e6 => ?_, lt_of_some h3⟩
  refine ⟨m, un, km, nm, sp, td, sd.set i x, s_ne (by omega) h1, s_ne (by omega) h2, s_eq (lt_of_some h3), h4, by rw [List.length_set]; exact h5, by rw [e7]; exact h6, by rw [e7]; exact h7, ?_, hB⟩
  rw [e7, e5, e6]; exact h8
theorem MS.cong {h : List ms_C} {o1 k1 o2 u2 : Int32} {A B : AS} (hM : MS h o1 k1 o2 u2 A) (e7 : B 7 = A 7) (e5 : B 5 = A 5) (e6 : B 6 = A 6) (e4 : B 4 = A 4) (e3 : B 3 = A 3) (e : ∀ s, s < A 7 0 → B 0 s = A 0 s ∧ B 1 s = A 1 s ∧ B 2 s = A 2 s) : MS h o1 k1 o2 u2 B := by
  obtain ⟨m, un, km, nm, sp, td, sd, h1, h2, h3, h4, h5, h6, h7, h8, ⟨r1, r2, r3, r4, r5⟩⟩ := hM
  refine ⟨m, un, km, nm, sp, td, sd, h1, h2, h3, h4, h5, by rw [e7]; exact h6, by rw [e7]; exact h7, by rw [e7, e5, e6]; exact h8, ⟨fun s hs => ?_, by rw [e7, e3]; exact r2, by rw [e4]; exact r3, by rw [e4]; exact r4, by rw [e4]; exact r5⟩⟩
  rw [e7] at hs
  obtain ⟨x1, x2, x3⟩ := e s hs
  rw [x1, x2, x3]
  exact r1 s hs
theorem MS.offX {h h1 : List ms_C} {o1 k1 o2 u2 : Int32} {A : AS} {P : Nat → Prop} (hM : MS h o1 k1 o2 u2 A) (ho : OffX h h1 P) (hd : ¬ P 97 ∧ ¬ P 99 ∧ ¬ P 103) : MS h1 o1 k1 o2 u2 A := by
  obtain ⟨m, un, km, nm, sp, td, sd, z1, z2, z3, z⟩ := hM
  exact ⟨m, un, km, nm, sp, td, sd, (ho.2 _ hd.1).trans z1, (ho.2 _ hd.2.1).trans z2, (ho.2 _ hd.2.2).trans z3, z⟩
/-- which, as the model has it -/
def wI (o : Option Nat) : Int32 := match o with
  | none => -4
  | some p => nI p
/-- o is the poorest looking one of lo .. hi but one, the lowest -/
def PS (A : AS) (but lo hi : Nat) (o : Option Nat) : Prop := match o with
  | none => ∀ j, lo ≤ j → j < hi → j = but
  | some p => (lo ≤ p ∧ p < hi ∧ p ≠ but) ∧ (∀ j, lo ≤ j → j < p → j ≠ but → lk A p < lk A j) ∧ ∀ j, p < j → j < hi → j ≠ but → lk A p ≤ lk A j
theorem PS.uniq {A : AS} {but lo hi : Nat} {o o' : Option Nat} (h : PS A but lo hi o) (h' : PS A but lo hi o') : o = o' := by
  cases o with
  | none =>
    cases o' with
    | none => rfl
    | some p => obtain ⟨⟨a, b, c⟩, -⟩ := h'; exact absurd (h p a b) c
  | some p =>
    cases o' with
    | none => obtain ⟨⟨a, b, c⟩, -⟩ := h; exact absurd (h' p a b) c
    | some q =>
      obtain ⟨⟨a, b, c⟩, d, e⟩ := h
      obtain ⟨⟨a', b', c'⟩, d', e'⟩ := h'
      by_cases h1 : p < q
      · have x1 := d' p a h1 c
        have x2 := e q h1 b' c'
        omega
      · by_cases h2 : q < p
        · have x1 := d q a' h2 c'
          have x2 := e' p h2 b c
          omega
        · have : p = q := by omega
          rw [this]
theorem pst_ps {A : AS} {but : Nat} : ∀ i, PS A but 0 i (pst A but i) := by
  intro i
  induction i with
  | zero => intro j h1 h2; omega
  | succ i ih =>
    unfold pst
    by_cases hi : i = but
    · rw [if_pos hi]
      cases hp : pst A but i with
      | none =>
        rw [hp] at ih
        intro j h1 h2
        by_cases hj : j = i
        · omega
        · exact ih j h1 (by omega)
      | some p =>
        rw [hp] at ih
        obtain ⟨⟨a, b, c⟩, d, e⟩ := ih
        refine ⟨⟨a, by omega, c⟩, d, fun j h1 h2 h3 => e j h1 (by omega) h3⟩
    · rw [if_neg hi]
      cases hp : pst A but i with
      | none =>
        rw [hp] at ih
        refine ⟨⟨by omega, by omega, hi⟩, fun j h1 h2 h3 => absurd (ih j h1 h2) h3, fun j h1 h2 h3 => by omega⟩
      | some p =>
        rw [hp] at ih
        obtain ⟨⟨a, b, c⟩, d, e⟩ := ih
        dsimp only
        by_cases hl : lk A i < lk A p
        · rw [if_pos hl]
          refine ⟨⟨by omega, by omega, hi⟩, fun j h1 h2 h3 => ?_, fun j h1 h2 h3 => by omega⟩
          by_cases hj : j < p
          · have := d j h1 hj h3; omega
          · by_cases hj2 : j = p
            · subst hj2; exact hl
            · have := e j (by omega) h2 h3; omega
        · rw [if_neg hl]
          refine ⟨⟨a, by omega, c⟩, d, fun j h1 h2 h3 => ?_⟩
          by_cases hj : j = i
          · subst hj; omega
          · exact e j h1 (by omega) h3
section MREAD
variable {sc : List Int32} {h : List ms_C} {Q : Option Value → List ms_C → Prop} {o1 k1 o2 u2 : Int32} {A : AS}
theorem kindOf_wp (hM : MS h o1 k1 o2 u2 A) {s : Nat} (hs : s < A 7 0) (h6 : A 7 0 ≤ 6) : WP sc 93 0 [some (.ref 97), some (.int (nI s))] [] h Q ↔ Q (some (.int (nI (A 5 s)))) h := by
  obtain ⟨m, un, km, nm, sp, td, sd, hg, hI, at1, as1, lt1, ls1, t0, t1, hk, hR, -⟩ := hM.facts
  have e := (hk s hs).1
  by_cases c : nI s = o1
  · rw [if_pos c] at e
    have e1 : (nI s = o1) ↔ True := ⟨fun _ => trivial, fun _ => c⟩
    simp (disch := first | assumption | exact wn2_i | exact wn2_r | exact wn2_n | exact Nat.le_of_ble_eq_true rfl | omega | (refine nI_z ?_ ?_ <;> omega)) only [s93_0, s93_1, s93_2, s93_5, s93_8, s93_9, s93_12, s93_15, s93_16, s93_19, s93_20, s93_21, s93_22, s93_23, wX_some, Option.toList_some, Option.toList_none, List.cons_append, List.nil_append, List.map_cons, List.map_nil, List.sum_cons, List.sum_nil, Value.category, wn2_i, wn2_r, wn2_n, Option.isSome_some, List.getElem?_cons_zero, List.getElem?_cons_succ, nI_add, nI_rem2, hg, e1, if_true, e]
  · rw [if_neg c] at e
    simp (disch := first | assumption | exact wn2_i | exact wn2_r | exact wn2_n | exact Nat.le_of_ble_eq_true rfl | omega | (refine nI_z ?_ ?_ <;> omega)) only [s93_0, s93_1, s93_2, s93_5, s93_8, s93_9, s93_12, s93_15, s93_16, s93_19, s93_20, s93_21, s93_22, s93_23, wX_some, Option.toList_some, Option.toList_none, List.cons_append, List.nil_append, List.map_cons, List.map_nil, List.sum_cons, List.sum_nil, Value.category, wn2_i, wn2_r, wn2_n, Option.isSome_some, List.getElem?_cons_zero, List.getElem?_cons_succ, nI_add, nI_rem2, hg, c, if_false, at1, lt1, iat_n, e]
theorem usesOf_wp (hM : MS h o1 k1 o2 u2 A) {s : Nat} (hs : s < A 7 0) (h6 : A 7 0 ≤ 6) : WP sc 100 0 [some (.ref 97), some (.int (nI s))] [] h Q ↔ Q (some (.int (nI (A 6 s)))) h := by
  obtain ⟨m, un, km, nm, sp, td, sd, hg, hI, at1, as1, lt1, ls1, t0, t1, hk, hR, -⟩ := hM.facts
  have e := (hk s hs).2
  by_cases c : nI s = o2
  · rw [if_pos c] at e
    have e1 : (nI s = o2) ↔ True := ⟨fun _ => trivial, fun _ => c⟩
    simp (disch := first | assumption | exact wn2_i | exact wn2_r | exact wn2_n | exact Nat.le_of_ble_eq_true rfl | omega | (refine nI_z ?_ ?_ <;> omega)) only [s100_0, s100_1, s100_2, s100_5, s100_8, s100_9, s100_12, s100_15, s100_16, s100_19, s100_21, s100_22, s100_23, s100_24, wX_some, Option.toList_some, Option.toList_none, List.cons_append, List.nil_append, List.map_cons, List.map_nil, List.sum_cons, List.sum_nil, Value.category, wn2_i, wn2_r, wn2_n, Option.isSome_some, List.getElem?_cons_zero, List.getElem?_cons_succ, nI_add, nI_rem2, hg, e1, if_true, e]
  · rw [if_neg c] at e
    simp (disch := first | assumption | exact wn2_i | exact wn2_r | exact wn2_n | exact Nat.le_of_ble_eq_true rfl | omega | (refine nI_z ?_ ?_ <;> omega)) only [s100_0, s100_1, s100_2, s100_5, s100_8, s100_9, s100_12, s100_15, s100_16, s100_19, s100_21, s100_22, s100_23, s100_24, wX_some, Option.toList_some, Option.toList_none, List.cons_append, List.nil_append, List.map_cons, List.map_nil, List.sum_cons, List.sum_nil, Value.category, wn2_i, wn2_r, wn2_n, Option.isSome_some, List.getElem?_cons_zero, List.getElem?_cons_succ, nI_add, nI_rem2, hg, c, if_false, at1, lt1, iat_n, e]
theorem mlooks_wp (hM : MS h o1 k1 o2 u2 A) {s : Nat} {l2 l3 l4 : Option Value} (hs : s < A 7 0) (h6 : A 7 0 ≤ 6) (hw : A 0 s ≤ 2000) (hm : A 1 s ≤ 2000) (hk3 : A 5 s ≤ 3) : WP sc 92 0 [some (.ref 97), some (.int (nI s)), l2, l3, l4] [] h Q ↔ Q (some (.int (nI (lk A s)))) h := by
  obtain ⟨m, un, km, nm, sp, td, sd, hg, hI, at1, as1, lt1, ls1, t0, t1, hk, hR, -⟩ := hM.facts
  have hko := fun Q => kindOf_wp (sc := sc) (Q := Q) hM hs h6
  obtain ⟨r1, r2, r3⟩ := hR.1 s hs
  dsimp only at r1 r2 r3
  have tail : ∀ v, v ≤ 3000 → ∀ l3, (WP sc 92 58 [some (.ref 97), some (.int (nI s)), some (.int (nI (A 0 s))), l3, l4] [.int (nI v)] h Q ↔ Q (some (.int (nI (v - A 1 s)))) h) ∨ wn_ok l3 = false := by
    intro v hv l3
    cases hl3 : wn_ok l3 with
    | false => exact Or.inr rfl
    | true =>
      left
      by_cases c : v ≤ A 1 s
      · have n1 : nI v ≤ nI (A 1 s) := nI_le c (by omega)
        have e0 : v - A 1 s = 0 := by omega
        simp (disch := first | assumption | exact wn2_i | exact wn2_r | exact wn2_n | exact Nat.le_of_ble_eq_true rfl | omega | (refine nI_z ?_ ?_ <;> omega)) only [s92_58, s92_60, s92_62, s92_63, s92_66, s92_68, s92_69, s92_70, s92_71, s92_74, s92_76, s92_77, s92_80, s92_82, s92_83, s92_84, s92_85, s92_86, s92_89, s92_90, wX_some, Option.toList_some, Option.toList_none, List.cons_append, List.nil_append, List.map_cons, List.map_nil, List.sum_cons, List.sum_nil, Value.category, wn2_i, wn2_r, wn2_n, Option.isSome_some, List.getElem?_cons_zero, List.getElem?_cons_succ, nI_add, nI_rem2, hg, as1, ls1, iat_n, r2, n1, if_true, e0]
      · have n1 : ¬ nI v ≤ nI (A 1 s) := nI_ge (by omega) (by omega)
        have e0 : nI v - nI (A 1 s) = nI (v - A 1 s) := nI_sub (by omega)
        simp (disch := first | assumption | exact wn2_i | exact wn2_r | exact wn2_n | exact Nat.le_of_ble_eq_true rfl | omega | (refine nI_z ?_ ?_ <;> omega)) only [s92_58, s92_60, s92_62, s92_63, s92_66, s92_68, s92_69, s92_70, s92_71, s92_74, s92_76, s92_77, s92_80, s92_82, s92_83, s92_84, s92_85, s92_86, s92_89, s92_90, wX_some, Option.toList_some, Option.toList_none, List.cons_append, List.nil_append, List.map_cons, List.map_nil, List.sum_cons, List.sum_nil, Value.category, wn2_i, wn2_r, wn2_n, Option.isSome_some, List.getElem?_cons_zero, List.getElem?_cons_succ, nI_add, nI_rem2, hg, as1, ls1, iat_n, r2, n1, if_false, e0]
  have tail2 : ∀ v x, v ≤ 3000 → (WP sc 92 58 [some (.ref 97), some (.int (nI s)), some (.int (nI (A 0 s))), some (.int x), l4] [.int (nI v)] h Q ↔ Q (some (.int (nI (v - A 1 s)))) h) := by
    intro v x hv
    rcases tail v hv (some (.int x)) with q | q
    · exact q
    · exact absurd (q.symm.trans wn2_i) (by decide)
  have z0 : 0 + s = s := Nat.zero_add s
  unfold lk lkK
  rcases (by omega : A 5 s = 0 ∨ A 5 s = 1 ∨ A 5 s = 2 ∨ A 5 s = 3) with e | e | e | e
  · simp (disch := first | assumption | exact wn2_i | exact wn2_r | exact wn2_n | exact Nat.le_of_ble_eq_true rfl | omega | (refine nI_z ?_ ?_ <;> omega)) only [s92_0, s92_1, s92_4, s92_5, s92_6, s92_7, s92_8, s92_9, s92_10, s92_11, s92_14, s92_15, s92_16, s92_17, s92_20, s92_21, s92_22, s92_23, s92_26, s92_27, s92_28, s92_31, s92_32, s92_33, s92_36, s92_37, s92_38, s92_39, s92_42, s92_43, s92_46, s92_47, s92_48, s92_51, s92_52, s92_53, s92_54, s92_57, wX_some, Option.toList_some, Option.toList_none, List.cons_append, List.nil_append, List.map_cons, List.map_nil, List.sum_cons, List.sum_nil, Value.category, wn2_i, wn2_r, wn2_n, Option.isSome_some, List.getElem?_cons_zero, List.getElem?_cons_succ, nI_add, nI_rem2, hg, as1, ls1, iat_n, z0, r1, hko, e, nI_eq, if_false, Nat.reduceEqDiff, tail2]
  · simp (disch := first | assumption | exact wn2_i | exact wn2_r | exact wn2_n | exact Nat.le_of_ble_eq_true rfl | omega | (refine nI_z ?_ ?_ <;> omega)) only [s92_0, s92_1, s92_4, s92_5, s92_6, s92_7, s92_8, s92_9, s92_10, s92_11, s92_14, s92_15, s92_16, s92_17, s92_20, s92_21, s92_22, s92_23, s92_26, s92_27, s92_28, s92_31, s92_32, s92_33, s92_36, s92_37, s92_38, s92_39, s92_42, s92_43, s92_46, s92_47, s92_48, s92_51, s92_52, s92_53, s92_54, s92_57, wX_some, Option.toList_some, Option.toList_none, List.cons_append, List.nil_append, List.map_cons, List.map_nil, List.sum_cons, List.sum_nil, Value.category, wn2_i, wn2_r, wn2_n, Option.isSome_some, List.getElem?_cons_zero, List.getElem?_cons_succ, nI_add, nI_rem2, hg, as1, ls1, iat_n, z0, r1, hko, e, nI_eq, if_true, tail2]
  · by_cases c : A 0 s ≤ 5
    · have n1 : nI (A 0 s) ≤ nI 5 := nI_le c (by omega)
      have e0 : A 0 s - 5 = 0 := by omega
      simp (disch := first | assumption | exact wn2_i | exact wn2_r | exact wn2_n | exact Nat.le_of_ble_eq_true rfl | omega | (refine nI_z ?_ ?_ <;> omega)) only [s92_0, s92_1, s92_4, s92_5, s92_6, s92_7, s92_8, s92_9, s92_10, s92_11, s92_14, s92_15, s92_16, s92_17, s92_20, s92_21, s92_22, s92_23, s92_26, s92_27, s92_28, s92_31, s92_32, s92_33, s92_36, s92_37, s92_38, s92_39, s92_42, s92_43, s92_46, s92_47, s92_48, s92_51, s92_52, s92_53, s92_54, s92_57, wX_some, Option.toList_some, Option.toList_none, List.cons_append, List.nil_append, List.map_cons, List.map_nil, List.sum_cons, List.sum_nil, Value.category, wn2_i, wn2_r, wn2_n, Option.isSome_some, List.getElem?_cons_zero, List.getElem?_cons_succ, nI_add, nI_rem2, hg, as1, ls1, iat_n, z0, r1, hko, e, nI_eq, if_true, if_false, Nat.reduceEqDiff, n1, tail2, e0]
    · have n1 : ¬ nI (A 0 s) ≤ nI 5 := nI_ge (by omega) (by omega)
      have e0 : nI (A 0 s) - nI 5 = nI (A 0 s - 5) := nI_sub (by omega)
      simp (disch := first | assumption | exact wn2_i | exact wn2_r | exact wn2_n | exact Nat.le_of_ble_eq_true rfl | omega | (refine nI_z ?_ ?_ <;> omega)) only [s92_0, s92_1, s92_4, s92_5, s92_6, s92_7, s92_8, s92_9, s92_10, s92_11, s92_14, s92_15, s92_16, s92_17, s92_20, s92_21, s92_22, s92_23, s92_26, s92_27, s92_28, s92_31, s92_32, s92_33, s92_36, s92_37, s92_38, s92_39, s92_42, s92_43, s92_46, s92_47, s92_48, s92_51, s92_52, s92_53, s92_54, s92_57, wX_some, Option.toList_some, Option.toList_none, List.cons_append, List.nil_append, List.map_cons, List.map_nil, List.sum_cons, List.sum_nil, Value.category, wn2_i, wn2_r, wn2_n, Option.isSome_some, List.getElem?_cons_zero, List.getElem?_cons_succ, nI_add, nI_rem2, hg, as1, ls1, iat_n, z0, r1, hko, e, nI_eq, if_true, if_false, Nat.reduceEqDiff, n1, tail2, e0]
  · have z2 : ¬ nI 2 = 0 := nI_z (by omega) (by omega)
    have e0 : nI (A 0 s) / nI 2 = nI (A 0 s / 2) := nI_div (by omega) (by omega) (by omega)
    simp (disch := first | assumption | exact wn2_i | exact wn2_r | exact wn2_n | exact Nat.le_of_ble_eq_true rfl | omega | (refine nI_z ?_ ?_ <;> omega)) only [s92_0, s92_1, s92_4, s92_5, s92_6, s92_7, s92_8, s92_9, s92_10, s92_11, s92_14, s92_15, s92_16, s92_17, s92_20, s92_21, s92_22, s92_23, s92_26, s92_27, s92_28, s92_31, s92_32, s92_33, s92_36, s92_37, s92_38, s92_39, s92_42, s92_43, s92_46, s92_47, s92_48, s92_51, s92_52, s92_53, s92_54, s92_57, wX_some, Option.toList_some, Option.toList_none, List.cons_append, List.nil_append, List.map_cons, List.map_nil, List.sum_cons, List.sum_nil, Value.category, wn2_i, wn2_r, wn2_n, Option.isSome_some, List.getElem?_cons_zero, List.getElem?_cons_succ, nI_add, nI_rem2, hg, as1, ls1, iat_n, z0, r1, hko, e, nI_eq, if_true, if_false, Nat.reduceEqDiff, e0, tail2]
theorem m4_ne {s : Nat} (h : s < 2 ^ 31) : (nI s = -4) ↔ False := ⟨fun q => by
  have := congrArg Int32.toInt q
  rw [nI_toInt h] at this
  have e : (-4 : Int32).toInt = -4 := rfl
  omega, False.elim⟩
theorem poorest_wp (hM : MS h o1 k1 o2 u2 A) {x : Int32} {but : Nat} {l2 l3 : Option Value} (hx : ∀ s, s < 6 → (nI s = x ↔ s = but)) (h2 : 2 ≤ A 7 0) (h6 : A 7 0 ≤ 6) (hb : ∀ s, s < A 7 0 → A 0 s ≤ 2000 ∧ A 1 s ≤ 2000 ∧ A 5 s ≤ 3) : WP sc 101 0 [some (.ref 97), some (.int x), l2, l3] [] h Q ↔ Q (some (.int (nI (prn A but)))) h := by
  obtain ⟨m, un, km, nm, sp, td, sd, hg, hI, at1, as1, lt1, ls1, t0, t1, hk, hR, -⟩ := hM.facts
  have key : ∀ i, i ≤ A 7 0 → ∀ o, PS A but i (A 7 0) o → (WP sc 101 12 [some (.ref 97), some (.int x), some (.int (wI o)), some (.int (nI i - nI 1))] [] h Q ↔ Q (some (.int (nI (prn A but)))) h) := by
    intro i
    induction i with
    | zero =>
      intro _ o ho
      have e0 : pst A but (A 7 0) = o := (pst_ps (A 7 0)).uniq ho
      rw [prn_some h2] at e0
      subst e0
      have n1 : nI 0 - nI 1 < 0 := by decide
      rw [s101_12]
      simp (disch := first | assumption | exact wn2_i | exact wn2_r | exact wn2_n | exact Nat.le_of_ble_eq_true rfl | omega | (refine nI_z ?_ ?_ <;> omega)) only [s101_13, s101_52, s101_53, wX_some, Option.toList_some, Option.toList_none, List.cons_append, List.nil_append, List.map_cons, List.map_nil, List.sum_cons, List.sum_nil, Value.category, wn2_i, wn2_r, wn2_n, Option.isSome_some, List.getElem?_cons_zero, List.getElem?_cons_succ, nI_add, nI_rem2, n1, if_true, wI]
    | succ i ih =>
      intro hi o ho
      have e1 : nI (i + 1) - nI 1 = nI i := nI_sub (by omega)
      have e2 : nI i + (-1) = nI i - nI 1 := by rw [Int32.sub_eq_add_neg]; rfl
      have n1 : ¬ nI i < 0 := fun q => nI_pos (by omega) q
      obtain ⟨b1, b2, b3⟩ := hb i (by omega)
      have hl := lk_le (A := A) (s := i)
      have hlo := fun Q l2 l3 l4 => mlooks_wp (sc := sc) (Q := Q) (l2 := l2) (l3 := l3) (l4 := l4) hM (show i < A 7 0 by omega) h6 b1 b2 b3
      rw [e1, s101_12]
      by_cases hib : i = but
      · have hxi := (hx i (by omega)).mpr hib
        have hxt : (nI i = x) ↔ True := ⟨fun _ => trivial, fun _ => hxi⟩
        have ho2 : PS A but i (A 7 0) o := by
          cases o with
          | none =>
            intro j h1 h3
            by_cases hj : j = i
            · omega
            · exact ho j (by omega) h3
          | some p =>
            obtain ⟨⟨a, b, c⟩, d, e⟩ := ho
            exact ⟨⟨by omega, b, c⟩, fun j h1 h3 h4 => d j (by omega) h3 h4, e⟩
        simp (disch := first | assumption | exact wn2_i | exact wn2_r | exact wn2_n | exact Nat.le_of_ble_eq_true rfl | omega | (refine nI_z ?_ ?_ <;> omega)) only [s101_13, s101_16, s101_17, s101_18, s101_44, s101_45, s101_46, s101_49, wX_some, Option.toList_some, Option.toList_none, List.cons_append, List.nil_append, List.map_cons, List.map_nil, List.sum_cons, List.sum_nil, Value.category, wn2_i, wn2_r, wn2_n, Option.isSome_some, List.getElem?_cons_zero, List.getElem?_cons_succ, nI_add, nI_rem2, n1, if_false, hxt, if_true, e2]
        exact ih (by omega) o ho2
      · have hxi : ¬ nI i = x := fun q => hib ((hx i (by omega)).mp q)
        cases o with
        | none =>
          have ho2 : PS A but i (A 7 0) (some i) := ⟨⟨by omega, by omega, hib⟩, fun j h1 h3 h4 => by omega, fun j h1 h3 h4 => absurd (ho j (by omega) h3) h4⟩
          have := ih (by omega) _ ho2
          simp (disch := first | assumption | exact wn2_i | exact wn2_r | exact wn2_n | exact Nat.le_of_ble_eq_true rfl | omega | (refine nI_z ?_ ?_ <;> omega)) only [s101_13, s101_16, s101_17, s101_18, s101_21, s101_22, s101_24, s101_40, s101_41, s101_44, s101_45, s101_46, s101_49, wX_some, Option.toList_some, Option.toList_none, List.cons_append, List.nil_append, List.map_cons, List.map_nil, List.sum_cons, List.sum_nil, Value.category, wn2_i, wn2_r, wn2_n, Option.isSome_some, List.getElem?_cons_zero, List.getElem?_cons_succ, nI_add, nI_rem2, n1, if_false, hxi, wI, if_true, e2]
          exact this
        | some p =>
          obtain ⟨⟨a, b, c⟩, d, e⟩ := ho
          obtain ⟨c1, c2, c3⟩ := hb p b
          have hl2 := lk_le (A := A) (s := p)
          have hlp := fun Q l2 l3 l4 => mlooks_wp (sc := sc) (Q := Q) (l2 := l2) (l3 := l3) (l4 := l4) hM b h6 c1 c2 c3
          have hp4 := m4_ne (s := p) (by omega)
          by_cases hlk : lk A i ≤ lk A p
          · have ho2 : PS A but i (A 7 0) (some i) := ⟨⟨by omega, by omega, hib⟩, fun j h1 h3 h4 => by omega, fun j h1 h3 h4 => by
              by_cases hjp : j < p
              · have := d j (by omega) hjp h4; omega
              · by_cases hj2 : j = p
                · subst hj2; exact hlk
                · have := e j (by omega) h3 h4; omega⟩
            have q1 : ¬ nI (lk A p) < nI (lk A i) := nI_nlt hlk (by omega)
            have := ih (by omega) _ ho2
            simp (disch := first | assumption | exact wn2_i | exact wn2_r | exact wn2_n | exact Nat.le_of_ble_eq_true rfl | omega | (refine nI_z ?_ ?_ <;> omega)) only [s101_13, s101_16, s101_17, s101_18, s101_21, s101_22, s101_24, s101_27, s101_28, s101_29, s101_32, s101_33, s101_34, s101_37, s101_40, s101_41, s101_44, s101_45, s101_46, s101_49, wX_some, Option.toList_some, Option.toList_none, List.cons_append, List.nil_append, List.map_cons, List.map_nil, List.sum_cons, List.sum_nil, Value.category, wn2_i, wn2_r, wn2_n, Option.isSome_some, List.getElem?_cons_zero, List.getElem?_cons_succ, nI_add, nI_rem2, n1, if_false, hxi, wI, hp4, hlo, hlp, q1, e2]
            exact this
          · have ho2 : PS A but i (A 7 0) (some p) := ⟨⟨by omega, b, c⟩, fun j h1 h3 h4 => by
              by_cases hj : j = i
              · subst hj; omega
              · exact d j (by omega) h3 h4, e⟩
            have q1 : nI (lk A p) < nI (lk A i) := nI_lt (by omega) (by omega)
            have := ih (by omega) _ ho2
            simp (disch := first | assumption | exact wn2_i | exact wn2_r | exact wn2_n | exact Nat.le_of_ble_eq_true rfl | omega | (refine nI_z ?_ ?_ <;> omega)) only [s101_13, s101_16, s101_17, s101_18, s101_21, s101_22, s101_24, s101_27, s101_28, s101_29, s101_32, s101_33, s101_34, s101_37, s101_40, s101_41, s101_44, s101_45, s101_46, s101_49, wX_some, Option.toList_some, Option.toList_none, List.cons_append, List.nil_append, List.map_cons, List.map_nil, List.sum_cons, List.sum_nil, Value.category, wn2_i, wn2_r, wn2_n, Option.isSome_some, List.getElem?_cons_zero, List.getElem?_cons_succ, nI_add, nI_rem2, n1, if_false, hxi, wI, hp4, hlo, hlp, q1, if_true, e2]
            exact this
  have := key (A 7 0) (Nat.le_refl _) none (fun j h1 h3 => by omega)
  simp (disch := first | assumption | exact wn2_i | exact wn2_r | exact wn2_n | exact Nat.le_of_ble_eq_true rfl | omega | (refine nI_z ?_ ?_ <;> omega)) only [s101_0, s101_2, s101_3, s101_4, s101_7, s101_8, s101_9, s101_10, s101_11, wX_some, Option.toList_some, Option.toList_none, List.cons_append, List.nil_append, List.map_cons, List.map_nil, List.sum_cons, List.sum_nil, Value.category, wn2_i, wn2_r, wn2_n, Option.isSome_some, List.getElem?_cons_zero, List.getElem?_cons_succ, nI_add, nI_rem2, hg, at1, lt1, iat_n, t0]
  exact this
theorem least_wp (hM : MS h o1 k1 o2 u2 A) {l1 l2 : Option Value} (h2 : 1 ≤ A 7 0) (h6 : A 7 0 ≤ 6) (hb : ∀ s, s < A 7 0 → A 0 s ≤ 2000) : WP sc 112 0 [some (.ref 97), l1, l2] [] h Q ↔ Q (some (.int (nI (mnW A (A 7 0 - 1))))) h := by
  obtain ⟨m, un, km, nm, sp, td, sd, hg, hI, at1, as1, lt1, ls1, t0, t1, hk, hR, -⟩ := hM.facts
  have r := fun s hs => (hR.1 s hs).1
  dsimp only at r
  have r0 := r 0 (by omega)
  have key : ∀ i, i ≤ A 7 0 - 1 → (WP sc 112 9 [some (.ref 97), some (.int (nI (mnW A i))), some (.int (nI (i + 1)))] [] h Q ↔ Q (some (.int (nI (mnW A (A 7 0 - 1))))) h) := by
    refine loop_up ?_ ?_
    · have hge : nI (A 7 0) ≤ nI (A 7 0 - 1 + 1) := nI_le (by omega) (by omega)
      rw [s112_9]
      simp (disch := first | assumption | exact wn2_i | exact wn2_r | exact wn2_n | exact Nat.le_of_ble_eq_true rfl | omega | (refine nI_z ?_ ?_ <;> omega)) only [s112_10, s112_11, s112_14, s112_15, s112_16, s112_50, s112_51, wX_some, Option.toList_some, Option.toList_none, List.cons_append, List.nil_append, List.map_cons, List.map_nil, List.sum_cons, List.sum_nil, Value.category, wn2_i, wn2_r, wn2_n, Option.isSome_some, List.getElem?_cons_zero, List.getElem?_cons_succ, nI_add, nI_rem2, hg, at1, lt1, iat_n, t0, hge, if_true]
    · intro i hlt ih
      have hge : ¬ nI (A 7 0) ≤ nI (i + 1) := nI_ge (by omega) (by omega)
      have v := r (i + 1) (by omega)
      have b1 := hb (i + 1) (by omega)
      have b2 := mnW_le hb i (by omega)
      rw [mnW] at ih
      rw [s112_9]
      by_cases hc : A 0 (i + 1) < mnW A i
      · rw [if_pos hc] at ih
        have n1 : ¬ nI (mnW A i) ≤ nI (A 0 (i + 1)) := nI_ge hc (by omega)
        simp (disch := first | assumption | exact wn2_i | exact wn2_r | exact wn2_n | exact Nat.le_of_ble_eq_true rfl | omega | (refine nI_z ?_ ?_ <;> omega)) only [s112_10, s112_11, s112_14, s112_15, s112_16, s112_19, s112_20, s112_23, s112_24, s112_25, s112_26, s112_27, s112_28, s112_31, s112_32, s112_35, s112_36, s112_37, s112_38, s112_39, s112_42, s112_43, s112_44, s112_47, wX_some, Option.toList_some, Option.toList_none, List.cons_append, List.nil_append, List.map_cons, List.map_nil, List.sum_cons, List.sum_nil, Value.category, wn2_i, wn2_r, wn2_n, Option.isSome_some, List.getElem?_cons_zero, List.getElem?_cons_succ, nI_add, nI_rem2, hg, at1, lt1, as1, ls1, iat_n, t0, hge, if_false, Nat.zero_add, v, n1]
        exact ih
      · rw [if_neg hc] at ih
        have n1 : nI (mnW A i) ≤ nI (A 0 (i + 1)) := nI_le (by omega) (by omega)
        simp (disch := first | assumption | exact wn2_i | exact wn2_r | exact wn2_n | exact Nat.le_of_ble_eq_true rfl | omega | (refine nI_z ?_ ?_ <;> omega)) only [s112_10, s112_11, s112_14, s112_15, s112_16, s112_19, s112_20, s112_23, s112_24, s112_25, s112_26, s112_27, s112_28, s112_31, s112_32, s112_35, s112_36, s112_37, s112_38, s112_39, s112_42, s112_43, s112_44, s112_47, wX_some, Option.toList_some, Option.toList_none, List.cons_append, List.nil_append, List.map_cons, List.map_nil, List.sum_cons, List.sum_nil, Value.category, wn2_i, wn2_r, wn2_n, Option.isSome_some, List.getElem?_cons_zero, List.getElem?_cons_succ, nI_add, nI_rem2, hg, at1, lt1, as1, ls1, iat_n, t0, hge, if_false, Nat.zero_add, v, n1, if_true]
        exact ih
  have := key 0 (by omega)
  simp (disch := first | assumption | exact wn2_i | exact wn2_r | exact wn2_n | exact Nat.le_of_ble_eq_true rfl | omega | (refine nI_z ?_ ?_ <;> omega)) only [s112_0, s112_1, s112_4, s112_5, s112_6, s112_7, s112_8, wX_some, Option.toList_some, Option.toList_none, List.cons_append, List.nil_append, List.map_cons, List.map_nil, List.sum_cons, List.sum_nil, Value.category, wn2_i, wn2_r, wn2_n, Option.isSome_some, List.getElem?_cons_zero, List.getElem?_cons_succ, nI_add, nI_rem2, hg, as1, ls1, iat_n, r0]
  exact this
def mxZ (A : AS) : Nat → Nat
  | 0 => 0
  | k + 1 => if mxZ A k < A 0 k then A 0 k else mxZ A k
theorem mxZ_W {A : AS} : ∀ k, mxZ A (k + 1) = mxW A k := by
  intro k
  induction k with
  | zero =>
    show (if 0 < A 0 0 then A 0 0 else 0) = A 0 0
    split <;> omega
  | succ k ih =>
    show (if mxZ A (k + 1) < A 0 (k + 1) then A 0 (k + 1) else mxZ A (k + 1)) = _
    rw [ih]
    rfl
theorem greatest_wp (hM : MS h o1 k1 o2 u2 A) {l1 l2 : Option Value} (h2 : 1 ≤ A 7 0) (h6 : A 7 0 ≤ 6) (hb : ∀ s, s < A 7 0 → A 0 s ≤ 2000) : WP sc 111 0 [some (.ref 97), l1, l2] [] h Q ↔ Q (some (.int (nI (mxW A (A 7 0 - 1))))) h := by
  obtain ⟨m, un, km, nm, sp, td, sd, hg, hI, at1, as1, lt1, ls1, t0, t1, hk, hR, -⟩ := hM.facts
  have r := fun s hs => (hR.1 s hs).1
  dsimp only at r
  have hle : ∀ i, i ≤ A 7 0 → mxZ A i ≤ 2000 := by
    intro i
    induction i with
    | zero => intro _; exact Nat.zero_le _
    | succ i ih =>
      intro hi
      have := hb i (by omega)
      have := ih (by omega)
      unfold mxZ
      split <;> omega
  have e9 : mxZ A (A 7 0) = mxW A (A 7 0 - 1) := by
    have := mxZ_W (A := A) (A 7 0 - 1)
    rw [show A 7 0 - 1 + 1 = A 7 0 by omega] at this
    exact this
  rw [← e9]
  have key : ∀ i, i ≤ A 7 0 → (WP sc 111 4 [some (.ref 97), some (.int (nI (mxZ A i))), some (.int (nI i))] [] h Q ↔ Q (some (.int (nI (mxZ A (A 7 0))))) h) := by
    refine loop_up ?_ ?_
    · have hge : nI (A 7 0) ≤ nI (A 7 0) := nI_le (by omega) (by omega)
      rw [s111_4]
      simp (disch := first | assumption | exact wn2_i | exact wn2_r | exact wn2_n | exact Nat.le_of_ble_eq_true rfl | omega | (refine nI_z ?_ ?_ <;> omega)) only [s111_5, s111_6, s111_9, s111_10, s111_11, s111_45, s111_46, wX_some, Option.toList_some, Option.toList_none, List.cons_append, List.nil_append, List.map_cons, List.map_nil, List.sum_cons, List.sum_nil, Value.category, wn2_i, wn2_r, wn2_n, Option.isSome_some, List.getElem?_cons_zero, List.getElem?_cons_succ, nI_add, nI_rem2, hg, at1, lt1, iat_n, t0, hge, if_true]
    · intro i hlt ih
      have hge : ¬ nI (A 7 0) ≤ nI i := nI_ge (by omega) (by omega)
      have v := r i (by omega)
      have b1 := hb i (by omega)
      have b2 := hle i (by omega)
      rw [mxZ] at ih
      rw [s111_4]
      by_cases hc : mxZ A i < A 0 i
      · rw [if_pos hc] at ih
        have n1 : ¬ nI (A 0 i) ≤ nI (mxZ A i) := nI_ge hc (by omega)
        simp (disch := first | assumption | exact wn2_i | exact wn2_r | exact wn2_n | exact Nat.le_of_ble_eq_true rfl | omega | (refine nI_z ?_ ?_ <;> omega)) only [s111_5, s111_6, s111_9, s111_10, s111_11, s111_14, s111_15, s111_18, s111_19, s111_20, s111_21, s111_22, s111_23, s111_26, s111_27, s111_30, s111_31, s111_32, s111_33, s111_34, s111_37, s111_38, s111_39, s111_42, wX_some, Option.toList_some, Option.toList_none, List.cons_append, List.nil_append, List.map_cons, List.map_nil, List.sum_cons, List.sum_nil, Value.category, wn2_i, wn2_r, wn2_n, Option.isSome_some, List.getElem?_cons_zero, List.getElem?_cons_succ, nI_add, nI_rem2, hg, at1, lt1, as1, ls1, iat_n, t0, hge, if_false, Nat.zero_add, v, n1]
        exact ih
      · rw [if_neg hc] at ih
        have n1 : nI (A 0 i) ≤ nI (mxZ A i) := nI_le (by omega) (by omega)
        simp (disch := first | assumption | exact wn2_i | exact wn2_r | exact wn2_n | exact Nat.le_of_ble_eq_true rfl | omega | (refine nI_z ?_ ?_ <;> omega)) only [s111_5, s111_6, s111_9, s111_10, s111_11, s111_14, s111_15, s111_18, s111_19, s111_20, s111_21, s111_22, s111_23, s111_26, s111_27, s111_30, s111_31, s111_32, s111_33, s111_34, s111_37, s111_38, s111_39, s111_42, wX_some, Option.toList_some, Option.toList_none, List.cons_append, List.nil_append, List.map_cons, List.map_nil, List.sum_cons, List.sum_nil, Value.category, wn2_i, wn2_r, wn2_n, Option.isSome_some, List.getElem?_cons_zero, List.getElem?_cons_succ, nI_add, nI_rem2, hg, at1, lt1, as1, ls1, iat_n, t0, hge, if_false, Nat.zero_add, v, n1, if_true]
        exact ih
  have := key 0 (by omega)
  simp (disch := first | assumption | exact wn2_i | exact wn2_r | exact wn2_n | exact Nat.le_of_ble_eq_true rfl | omega | (refine nI_z ?_ ?_ <;> omega)) only [s111_0, s111_1, s111_2, s111_3, wX_some, Option.toList_some, Option.toList_none, List.cons_append, List.nil_append, List.map_cons, List.map_nil, List.sum_cons, List.sum_nil, Value.category, wn2_i, wn2_r, wn2_n, Option.isSome_some, List.getElem?_cons_zero, List.getElem?_cons_succ, nI_add, nI_rem2]
  exact this
theorem wealthOfAll_wp (hM : MS h o1 k1 o2 u2 A) {l1 l2 : Option Value} (h6 : A 7 0 ≤ 6) : WP sc 127 0 [some (.ref 97), l1, l2] [] h Q ↔ Q (some (.int (nI (smW A (A 7 0))))) h := by
  obtain ⟨m, un, km, nm, sp, td, sd, hg, hI, at1, as1, lt1, ls1, t0, t1, hk, hR, -⟩ := hM.facts
  have r := fun s hs => (hR.1 s hs).1
  dsimp only at r
  have key : ∀ i, i ≤ A 7 0 → (WP sc 127 4 [some (.ref 97), some (.int (nI (smW A i))), some (.int (nI i))] [] h Q ↔ Q (some (.int (nI (smW A (A 7 0))))) h) := by
    refine loop_up ?_ ?_
    · have hge : nI (A 7 0) ≤ nI (A 7 0) := nI_le (Nat.le_refl _) (by omega)
      rw [s127_4]
      simp (disch := first | assumption | exact wn2_i | exact wn2_r | exact wn2_n | exact Nat.le_of_ble_eq_true rfl | omega | (refine nI_z ?_ ?_ <;> omega)) only [s127_5, s127_6, s127_9, s127_10, s127_11, s127_31, s127_32, wX_some, Option.toList_some, Option.toList_none, List.cons_append, List.nil_append, List.map_cons, List.map_nil, List.sum_cons, List.sum_nil, Value.category, wn2_i, wn2_r, wn2_n, Option.isSome_some, List.getElem?_cons_zero, List.getElem?_cons_succ, nI_add, nI_rem2, hg, at1, lt1, iat_n, t0, hge, if_true]
    · intro i hlt ih
      have hge : ¬ nI (A 7 0) ≤ nI i := nI_ge (by omega) (by omega)
      have v := r i (by omega)
      rw [smW] at ih
      rw [s127_4]
      simp (disch := first | assumption | exact wn2_i | exact wn2_r | exact wn2_n | exact Nat.le_of_ble_eq_true rfl | omega | (refine nI_z ?_ ?_ <;> omega)) only [s127_5, s127_6, s127_9, s127_10, s127_11, s127_14, s127_15, s127_16, s127_19, s127_20, s127_21, s127_22, s127_23, s127_24, s127_25, s127_28, wX_some, Option.toList_some, Option.toList_none, List.cons_append, List.nil_append, List.map_cons, List.map_nil, List.sum_cons, List.sum_nil, Value.category, wn2_i, wn2_r, wn2_n, Option.isSome_some, List.getElem?_cons_zero, List.getElem?_cons_succ, nI_add, nI_rem2, hg, at1, lt1, as1, ls1, iat_n, t0, hge, if_false, Nat.zero_add, v]
      exact ih
  simp (disch := first | assumption | exact wn2_i | exact wn2_r | exact wn2_n | exact Nat.le_of_ble_eq_true rfl | omega | (refine nI_z ?_ ?_ <;> omega)) only [s127_0, s127_1, s127_2, s127_3, wX_some, Option.toList_some, Option.toList_none, List.cons_append, List.nil_append, List.map_cons, List.map_nil, List.sum_cons, List.sum_nil, Value.category, wn2_i, wn2_r, wn2_n, Option.isSome_some, List.getElem?_cons_zero, List.getElem?_cons_succ, nI_add, nI_rem2]
  exact key 0 (by omega)
end MREAD

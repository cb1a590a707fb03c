-- Scroll: the text and its reading
def chrT (T : Nat → Nat) (m i : Nat) : Nat := if i < m then T i else 0
def digT (T : Nat → Nat) (m i : Nat) : Bool := decide (48 ≤ chrT T m i ∧ chrT T m i ≤ 57)
/-- one or two figures, then the sign: the number, and the place behind -/
def pN (T : Nat → Nat) (m sg p : Nat) : Option (Nat × Nat) :=
  if digT T m p then
    if digT T m (p + 1) then
      if chrT T m (p + 2) = sg then some (10 * (chrT T m p - 48) + (chrT T m (p + 1) - 48), p + 3) else none
    else if chrT T m (p + 1) = sg then some (chrT T m p - 48, p + 2) else none
  else none
def itmS (T : Nat → Nat) (m : Nat) (E : AS) (p : Nat) : Option (AS × Nat) := match pN T m 44 (p + 1) with
  | none => none
  | some (k, p1) => match pN T m 44 p1 with
    | none => none
    | some (w, p2) => match pN T m 59 p2 with
      | none => none
      | some (u, p3) => if E 7 0 < 6 ∧ k ≤ 3 ∧ u ≤ 9 then some (adS E k w u, p3) else none
def itmW (T : Nat → Nat) (m : Nat) (E : AS) (p : Nat) : Option (AS × Nat) := match pN T m 59 (p + 1) with
  | none => none
  | some (v, p1) => if E 7 1 < 6 ∧ 1 ≤ v ∧ v ≤ 40 then some (adW E v, p1) else none
def itm (T : Nat → Nat) (m : Nat) (E : AS) (p : Nat) : Option (AS × Nat) :=
  if chrT T m p = 115 then itmS T m E p else if chrT T m p = 119 then itmW T m E p else none
/-- the reading from p on: where the first faulty item begins, the town of the items ahead of it -/
def rdF (T : Nat → Nat) (m : Nat) : Nat → AS → Nat → Option Nat × AS
  | 0, E, _ => (none, E)
  | k + 1, E, p => if p < m then match itm T m E p with
    | none => (some p, E)
    | some (E', p') => rdF T m k E' p' else (none, E)
theorem pN_ok {T : Nat → Nat} {m sg p v q : Nat} (hs : 0 < sg) (h : pN T m sg p = some (v, q)) : v ≤ 99 ∧ p + 2 ≤ q ∧ q ≤ m := by
  have hm : ∀ i, chrT T m i = sg → i < m := fun i e => by
    unfold chrT at e
    split at e
    · assumption
    · omega
  unfold pN at h
  split at h
  · rename_i d1
    have d1 := of_decide_eq_true d1
    split at h
    · rename_i d2
      have d2 := of_decide_eq_true d2
      split at h
      · rename_i e
        cases h
        have := hm _ e
        omega
      · cases h
    · split at h
      · rename_i e
        cases h
        have := hm _ e
        omega
      · cases h
  · cases h
/-- the scroll at a: the text T of m letters, read up to p -/
def SA (h : List ms_C) (a : Nat) (T : Nat → Nat) (m p : Nat) : Prop := ∃ l : List Int32, h[a]? = some (ms_obj 2 [.ref (a + 1), .int (nI m), .int (nI p)]) ∧ h[a + 1]? = some (ms_ca l) ∧ l.length = 200 ∧ m ≤ 200 ∧ ∀ i, i < m → l.getD i 0 = nI (T i) ∧ T i ≤ 126
theorem SA.offX {h h1 : List ms_C} {a : Nat} {T : Nat → Nat} {m p : Nat} {P : Nat → Prop} (hp : SA h a T m p) (ho : OffX h h1 P) (hd : ∀ i, a ≤ i → i < a + 2 → ¬ P i) : SA h1 a T m p := by
  obtain ⟨l, h0, h1', r⟩ := hp
  exact ⟨l, (ho.2 _ (hd _ (by omega) (by omega))).trans h0, (ho.2 _ (hd _ (by omega) (by omega))).trans h1', r⟩
section SCROLL
variable {sc : List Int32} {h : List ms_C} {Q : Option Value → List ms_C → Prop} {a b : Nat} {T : Nat → Nat} {m p : Nat} {E : AS}
theorem SA.facts (hp : SA h a T m p) : ∃ l : List Int32, (∀ k, ms_get h a 2 k = [.ref (a + 1), .int (nI m), .int (nI p)][k]?) ∧ ms_is h a 2 = some [.ref (a + 1), .int (nI m), .int (nI p)] ∧ (ms_is h a 2).isSome = true ∧ ms_chr h (a + 1) = some l ∧ l.length = 200 ∧ m ≤ 200 ∧ (∀ i, i < m → l.getD i 0 = nI (T i) ∧ T i ≤ 126) ∧ a + 2 ≤ h.length := by
  obtain ⟨l, h0, h1, g1, g2, g3⟩ := hp
  have := lt_of_some h1
  exact ⟨l, g_obj h0, i_obj h0, by rw [i_obj h0]; rfl, a_chr h1, g1, g2, g3, by omega⟩
theorem SA.pl (hp : SA h a T m p) (p' : Nat) : SA (h.set a (ms_obj 2 [.ref (a + 1), .int (nI m), .int (nI p')])) a T m p' := by
  obtain ⟨l, h0, h1, r⟩ := hp
  exact ⟨l, s_eq (lt_of_some h0), s_ne (by omega) h1, r⟩
theorem takes_no (hp : SA h a T m p) (hpm : p ≤ 1000) {c : Nat} (hc : c ≤ 126) (hn : ¬ (p < m ∧ T p = c)) : WP sc 14 0 [some (.ref a), some (.int (nI c))] [] h Q ↔ Q (some (.int (nI 0))) h := by
  obtain ⟨l, hg, hi, hI, hch, hl, hm, hT, hlen⟩ := hp.facts
  by_cases hlt : p < m
  · have n1 : ¬ nI m ≤ nI p := nI_ge hlt (by omega)
    obtain ⟨v, hv⟩ := hT p hlt
    have hne : ¬ T p = c := fun e => hn ⟨hlt, e⟩
    simp (disch := first | assumption | exact wn2_i | exact wn2_r | exact wn2_n | exact Nat.le_of_ble_eq_true rfl | omega | (refine nI_z ?_ ?_ <;> omega)) only [s14_0, s14_1, s14_4, s14_5, s14_8, s14_11, s14_12, s14_15, s14_16, s14_19, s14_20, s14_21, s14_24, s14_25, s14_26, s14_27, s14_28, s14_31, s14_32, s14_33, s14_36, s14_37, wX_some, Option.toList_some, Option.toList_none, List.cons_append, List.nil_append, List.map_cons, List.map_nil, List.sum_cons, List.sum_nil, Value.category, wn2_i, wn2_r, wn2_n, Option.isSome_some, List.getElem?_cons_zero, List.getElem?_cons_succ, nI_add, nI_rem2, hg, n1, if_false, hch, hl, iat_n, v, nI_eq, hne, nI_eq0, true_or, true_and]
  · have n1 : nI m ≤ nI p := nI_le (by omega) (by omega)
    simp (disch := first | assumption | exact wn2_i | exact wn2_r | exact wn2_n | exact Nat.le_of_ble_eq_true rfl | omega | (refine nI_z ?_ ?_ <;> omega)) only [s14_0, s14_1, s14_4, s14_5, s14_8, s14_11, s14_12, s14_15, s14_16, s14_19, s14_20, s14_21, s14_24, s14_25, s14_26, s14_27, s14_28, s14_31, s14_32, s14_33, s14_36, s14_37, wX_some, Option.toList_some, Option.toList_none, List.cons_append, List.nil_append, List.map_cons, List.map_nil, List.sum_cons, List.sum_nil, Value.category, wn2_i, wn2_r, wn2_n, Option.isSome_some, List.getElem?_cons_zero, List.getElem?_cons_succ, nI_add, nI_rem2, hg, n1, if_true, nI_eq0, true_or, true_and]
theorem takes_yes (hp : SA h a T m p) {c : Nat} (hc : c ≤ 126) (hlt : p < m) (he : T p = c) (k : ∀ h1, SA h1 a T m (p + 1) → Off h h1 a 1 → Q (some (.int (nI 1))) h1) : WP sc 14 0 [some (.ref a), some (.int (nI c))] [] h Q := by
  obtain ⟨l, hg, hi, hI, hch, hl, hm, hT, hlen⟩ := hp.facts
  have n1 : ¬ nI m ≤ nI p := nI_ge hlt (by omega)
  obtain ⟨v, hv⟩ := hT p hlt
  rw [he] at v
  simp (disch := first | assumption | exact wn2_i | exact wn2_r | exact wn2_n | exact Nat.le_of_ble_eq_true rfl | omega | (refine nI_z ?_ ?_ <;> omega)) only [s14_0, s14_1, s14_4, s14_5, s14_8, s14_11, s14_12, s14_15, s14_16, s14_19, s14_20, s14_21, s14_24, s14_25, s14_26, s14_27, s14_28, s14_31, s14_32, s14_33, s14_36, s14_37, wX_some, Option.toList_some, Option.toList_none, List.cons_append, List.nil_append, List.map_cons, List.map_nil, List.sum_cons, List.sum_nil, Value.category, wn2_i, wn2_r, wn2_n, Option.isSome_some, List.getElem?_cons_zero, List.getElem?_cons_succ, nI_add, nI_rem2, hg, hi, n1, if_false, hch, hl, iat_n, v, if_true, List.set_cons_succ, List.set_cons_zero, List.length_cons, List.length_nil, Nat.reduceAdd, Nat.reduceLT, true_and, nI_eq1, or_true]
  exact k _ (hp.pl (p + 1)) (Off.rf.st (by omega) (by omega))
theorem figure_no (hp : SA h a T m p) (hpm : p ≤ 1000) (hn : digT T m p = false) {l1 : Option Value} : WP sc 16 0 [some (.ref a), l1] [] h Q ↔ Q (some (.int (-1))) h := by
  obtain ⟨l, hg, hi, hI, hch, hl, hm, hT, hlen⟩ := hp.facts
  have hn := of_decide_eq_false hn
  by_cases hlt : p < m
  · have n1 : ¬ nI m ≤ nI p := nI_ge hlt (by omega)
    obtain ⟨v, hv⟩ := hT p hlt
    have hce : chrT T m p = T p := by unfold chrT; rw [if_pos hlt]
    rw [hce] at hn
    by_cases h48 : T p < 48
    · have n2 : nI (T p) < nI 48 := nI_lt h48 (by omega)
      simp (disch := first | assumption | exact wn2_i | exact wn2_r | exact wn2_n | exact Nat.le_of_ble_eq_true rfl | omega | (refine nI_z ?_ ?_ <;> omega)) only [s16_0, s16_1, s16_4, s16_5, s16_8, s16_11, s16_12, s16_15, s16_16, s16_19, s16_20, s16_22, s16_25, s16_26, s16_29, s16_30, s16_33, s16_34, s16_36, s16_39, s16_40, s16_41, s16_42, s16_45, s16_46, s16_49, s16_50, s16_52, s16_53, s16_54, s16_55, s16_56, s16_59, s16_60, s16_61, s16_64, s16_65, wX_some, Option.toList_some, Option.toList_none, List.cons_append, List.nil_append, List.map_cons, List.map_nil, List.sum_cons, List.sum_nil, Value.category, wn2_i, wn2_r, wn2_n, Option.isSome_some, List.getElem?_cons_zero, List.getElem?_cons_succ, nI_add, nI_rem2, hg, n1, if_false, hch, hl, iat_n, v, n2, if_true]
    · have n2 : ¬ nI (T p) < nI 48 := nI_nlt (by omega) (by omega)
      have n3 : ¬ nI (T p) ≤ nI 57 := nI_ge (by omega) (by omega)
      simp (disch := first | assumption | exact wn2_i | exact wn2_r | exact wn2_n | exact Nat.le_of_ble_eq_true rfl | omega | (refine nI_z ?_ ?_ <;> omega)) only [s16_0, s16_1, s16_4, s16_5, s16_8, s16_11, s16_12, s16_15, s16_16, s16_19, s16_20, s16_22, s16_25, s16_26, s16_29, s16_30, s16_33, s16_34, s16_36, s16_39, s16_40, s16_41, s16_42, s16_45, s16_46, s16_49, s16_50, s16_52, s16_53, s16_54, s16_55, s16_56, s16_59, s16_60, s16_61, s16_64, s16_65, wX_some, Option.toList_some, Option.toList_none, List.cons_append, List.nil_append, List.map_cons, List.map_nil, List.sum_cons, List.sum_nil, Value.category, wn2_i, wn2_r, wn2_n, Option.isSome_some, List.getElem?_cons_zero, List.getElem?_cons_succ, nI_add, nI_rem2, hg, n1, if_false, hch, hl, iat_n, v, n2, n3]
  · have n1 : nI m ≤ nI p := nI_le (by omega) (by omega)
    simp (disch := first | assumption | exact wn2_i | exact wn2_r | exact wn2_n | exact Nat.le_of_ble_eq_true rfl | omega | (refine nI_z ?_ ?_ <;> omega)) only [s16_0, s16_1, s16_4, s16_5, s16_8, s16_11, s16_12, s16_15, s16_16, s16_19, s16_20, s16_22, s16_25, s16_26, s16_29, s16_30, s16_33, s16_34, s16_36, s16_39, s16_40, s16_41, s16_42, s16_45, s16_46, s16_49, s16_50, s16_52, s16_53, s16_54, s16_55, s16_56, s16_59, s16_60, s16_61, s16_64, s16_65, wX_some, Option.toList_some, Option.toList_none, List.cons_append, List.nil_append, List.map_cons, List.map_nil, List.sum_cons, List.sum_nil, Value.category, wn2_i, wn2_r, wn2_n, Option.isSome_some, List.getElem?_cons_zero, List.getElem?_cons_succ, nI_add, nI_rem2, hg, n1, if_true]
theorem figure_yes (hp : SA h a T m p) (hn : digT T m p = true) {l1 : Option Value} (k : ∀ h1, SA h1 a T m (p + 1) → Off h h1 a 1 → Q (some (.int (nI (chrT T m p - 48)))) h1) : WP sc 16 0 [some (.ref a), l1] [] h Q := by
  obtain ⟨l, hg, hi, hI, hch, hl, hm, hT, hlen⟩ := hp.facts
  have hn := of_decide_eq_true hn
  have hlt : p < m := by
    by_cases hlt : p < m
    · exact hlt
    · unfold chrT at hn; rw [if_neg hlt] at hn; omega
  have hce : chrT T m p = T p := by unfold chrT; rw [if_pos hlt]
  rw [hce] at hn k
  have n1 : ¬ nI m ≤ nI p := nI_ge hlt (by omega)
  obtain ⟨v, hv⟩ := hT p hlt
  have n2 : ¬ nI (T p) < nI 48 := nI_nlt (by omega) (by omega)
  have n3 : nI (T p) ≤ nI 57 := nI_le (by omega) (by omega)
  have e1 : nI (T p) - nI 48 = nI (T p - 48) := nI_sub (by omega)
  simp (disch := first | assumption | exact wn2_i | exact wn2_r | exact wn2_n | exact Nat.le_of_ble_eq_true rfl | omega | (refine nI_z ?_ ?_ <;> omega)) only [s16_0, s16_1, s16_4, s16_5, s16_8, s16_11, s16_12, s16_15, s16_16, s16_19, s16_20, s16_22, s16_25, s16_26, s16_29, s16_30, s16_33, s16_34, s16_36, s16_39, s16_40, s16_41, s16_42, s16_45, s16_46, s16_49, s16_50, s16_52, s16_53, s16_54, s16_55, s16_56, s16_59, s16_60, s16_61, s16_64, s16_65, wX_some, Option.toList_some, Option.toList_none, List.cons_append, List.nil_append, List.map_cons, List.map_nil, List.sum_cons, List.sum_nil, Value.category, wn2_i, wn2_r, wn2_n, Option.isSome_some, List.getElem?_cons_zero, List.getElem?_cons_succ, nI_add, nI_rem2, hg, hi, n1, if_false, hch, hl, iat_n, v, n2, n3, if_true, e1, List.set_cons_succ, List.set_cons_zero, List.length_cons, List.length_nil, Nat.reduceAdd, Nat.reduceLT, true_and]
  exact k _ (hp.pl (p + 1)) (Off.rf.st (by omega) (by omega))
end SCROLL
section SCROLL2
variable {sc : List Int32} {h : List ms_C} {Q : Option Value → List ms_C → Prop} {a b : Nat} {T : Nat → Nat} {m p : Nat} {E : AS}
theorem chr_iff {T : Nat → Nat} {m sg p : Nat} (hs : 0 < sg) : chrT T m p = sg ↔ (p < m ∧ T p = sg) := by
  unfold chrT
  constructor
  · intro e
    split at e
    · exact ⟨by assumption, e⟩
    · omega
  · rintro ⟨h1, h2⟩
    rw [if_pos h1, h2]
theorem number_wp (hp : SA h a T m p) (hpm : p ≤ m) {sg : Nat} (hs : 0 < sg ∧ sg ≤ 126) {l2 l3 : Option Value} (k : ∀ h1 p', SA h1 a T m p' → Off h h1 a 1 → p' ≤ m → (∀ v q, pN T m sg p = some (v, q) → p' = q) → Q (some (.int (pI ((pN T m sg p).map Prod.fst)))) h1) : WP sc 15 0 [some (.ref a), some (.int (nI sg)), l2, l3] [] h Q := by
  obtain ⟨_, _, _, hI, _, _, hm, hTT, -⟩ := hp.facts
  have lt_of_dig : ∀ i, digT T m i = true → i < m ∧ 48 ≤ chrT T m i ∧ chrT T m i ≤ 57 := by
    intro i e
    have e := of_decide_eq_true e
    refine ⟨?_, e⟩
    by_cases hlt : i < m
    · exact hlt
    · unfold chrT at e; rw [if_neg hlt] at e; omega
  have fin : ∀ h1 p1 v l3, SA h1 a T m p1 → Off h h1 a 1 → p1 ≤ m → v ≤ 99 → pN T m sg p = (if chrT T m p1 = sg then some (v, p1 + 1) else none) → WP sc 15 29 [some (.ref a), some (.int (nI sg)), some (.int (nI v)), l3] [] h1 Q := by
    intro h1 p1 v l3 hp1 ho1 hpm1 hv he
    obtain ⟨_, _, _, hI1, -⟩ := hp1.facts
    by_cases hc : chrT T m p1 = sg
    · rw [if_pos hc] at he
      obtain ⟨c1, c2⟩ := (chr_iff hs.1).mp hc
      simp (disch := first | assumption | exact wn2_i | exact wn2_r | exact wn2_n | exact Nat.le_of_ble_eq_true rfl | omega | (refine nI_z ?_ ?_ <;> omega)) only [s15_29, s15_30, s15_31, wX_some, Option.toList_some, Option.toList_none, List.cons_append, List.nil_append, List.map_cons, List.map_nil, List.sum_cons, List.sum_nil, Value.category, wn2_i, wn2_r, wn2_n, Option.isSome_some, List.getElem?_cons_zero, List.getElem?_cons_succ, nI_add, nI_rem2, hI1]
      refine takes_yes hp1 hs.2 c1 c2 (fun h2 hp2 ho2 => ?_)
      simp (disch := first | assumption | exact wn2_i | exact wn2_r | exact wn2_n | exact Nat.le_of_ble_eq_true rfl | omega | (refine nI_z ?_ ?_ <;> omega)) only [s15_34, s15_37, s15_38, s15_41, s15_42, wX_some, Option.toList_some, Option.toList_none, List.cons_append, List.nil_append, List.map_cons, List.map_nil, List.sum_cons, List.sum_nil, Value.category, wn2_i, wn2_r, wn2_n, Option.isSome_some, List.getElem?_cons_zero, List.getElem?_cons_succ, nI_add, nI_rem2, nI_eq0, if_false, Nat.reduceEqDiff]
      have := k h2 (p1 + 1) hp2 (ho1.tr ho2) (by omega) (fun v' q' e => by rw [he] at e; cases e; rfl)
      rw [he] at this
      exact this
    · rw [if_neg hc] at he
      have hn : ¬ (p1 < m ∧ T p1 = sg) := fun e => hc ((chr_iff hs.1).mpr e)
      have htk := fun Q => takes_no (sc := sc) (Q := Q) hp1 (by omega) hs.2 hn
      simp (disch := first | assumption | exact wn2_i | exact wn2_r | exact wn2_n | exact Nat.le_of_ble_eq_true rfl | omega | (refine nI_z ?_ ?_ <;> omega)) only [s15_29, s15_30, s15_31, wX_some, Option.toList_some, Option.toList_none, List.cons_append, List.nil_append, List.map_cons, List.map_nil, List.sum_cons, List.sum_nil, Value.category, wn2_i, wn2_r, wn2_n, Option.isSome_some, List.getElem?_cons_zero, List.getElem?_cons_succ, nI_add, nI_rem2, hI1, htk]
      simp (disch := first | assumption | exact wn2_i | exact wn2_r | exact wn2_n | exact Nat.le_of_ble_eq_true rfl | omega | (refine nI_z ?_ ?_ <;> omega)) only [s15_34, s15_37, s15_38, s15_41, s15_42, wX_some, Option.toList_some, Option.toList_none, List.cons_append, List.nil_append, List.map_cons, List.map_nil, List.sum_cons, List.sum_nil, Value.category, wn2_i, wn2_r, wn2_n, Option.isSome_some, List.getElem?_cons_zero, List.getElem?_cons_succ, nI_add, nI_rem2, nI_eq0, if_true]
      have := k h1 p1 hp1 ho1 hpm1 (fun v' q' e => by rw [he] at e; cases e)
      rw [he] at this
      exact this
  cases hd : digT T m p with
  | false =>
    have he : pN T m sg p = none := by unfold pN; rw [hd]; rfl
    have hfn := fun Q => figure_no (sc := sc) (Q := Q) (l1 := none) hp (by omega) hd
    simp (disch := first | assumption | exact wn2_i | exact wn2_r | exact wn2_n | exact Nat.le_of_ble_eq_true rfl | omega | (refine nI_z ?_ ?_ <;> omega)) only [s15_0, s15_1, wX_some, Option.toList_some, Option.toList_none, List.cons_append, List.nil_append, List.map_cons, List.map_nil, List.sum_cons, List.sum_nil, Value.category, wn2_i, wn2_r, wn2_n, Option.isSome_some, List.getElem?_cons_zero, List.getElem?_cons_succ, nI_add, nI_rem2, hI, hfn]
    simp (disch := first | assumption | exact wn2_i | exact wn2_r | exact wn2_n | exact Nat.le_of_ble_eq_true rfl | omega | (refine nI_z ?_ ?_ <;> omega)) only [s15_4, s15_5, s15_6, s15_7, s15_10, s15_11, wX_some, Option.toList_some, Option.toList_none, List.cons_append, List.nil_append, List.map_cons, List.map_nil, List.sum_cons, List.sum_nil, Value.category, wn2_i, wn2_r, wn2_n, Option.isSome_some, List.getElem?_cons_zero, List.getElem?_cons_succ, nI_add, nI_rem2, if_true]
    have := k h p hp Off.rf hpm (fun v' q' e => by rw [he] at e; cases e)
    rw [he] at this
    exact this
  | true =>
    obtain ⟨d1, d2, d3⟩ := lt_of_dig p hd
    simp (disch := first | assumption | exact wn2_i | exact wn2_r | exact wn2_n | exact Nat.le_of_ble_eq_true rfl | omega | (refine nI_z ?_ ?_ <;> omega)) only [s15_0, s15_1, wX_some, Option.toList_some, Option.toList_none, List.cons_append, List.nil_append, List.map_cons, List.map_nil, List.sum_cons, List.sum_nil, Value.category, wn2_i, wn2_r, wn2_n, Option.isSome_some, List.getElem?_cons_zero, List.getElem?_cons_succ, nI_add, nI_rem2, hI]
    refine figure_yes hp hd (fun h1 hp1 ho1 => ?_)
    obtain ⟨_, _, _, hI1, -⟩ := hp1.facts
    have n1 : ¬ nI (chrT T m p - 48) = -1 := fun e => by rw [nI_m1 (by omega)] at e; exact e
    simp (disch := first | assumption | exact wn2_i | exact wn2_r | exact wn2_n | exact Nat.le_of_ble_eq_true rfl | omega | (refine nI_z ?_ ?_ <;> omega)) only [s15_4, s15_5, s15_6, s15_7, s15_10, s15_11, s15_12, s15_13, wX_some, Option.toList_some, Option.toList_none, List.cons_append, List.nil_append, List.map_cons, List.map_nil, List.sum_cons, List.sum_nil, Value.category, wn2_i, wn2_r, wn2_n, Option.isSome_some, List.getElem?_cons_zero, List.getElem?_cons_succ, nI_add, nI_rem2, n1, if_false, hI1]
    cases hd2 : digT T m (p + 1) with
    | false =>
      have he : pN T m sg p = if chrT T m (p + 1) = sg then some (chrT T m p - 48, p + 1 + 1) else none := by unfold pN; rw [hd, hd2]; rfl
      have hfn := fun Q => figure_no (sc := sc) (Q := Q) (l1 := none) hp1 (by omega) hd2
      simp only [hfn]
      simp (disch := first | assumption | exact wn2_i | exact wn2_r | exact wn2_n | exact Nat.le_of_ble_eq_true rfl | omega | (refine nI_z ?_ ?_ <;> omega)) only [s15_16, s15_17, s15_18, s15_19, wX_some, Option.toList_some, Option.toList_none, List.cons_append, List.nil_append, List.map_cons, List.map_nil, List.sum_cons, List.sum_nil, Value.category, wn2_i, wn2_r, wn2_n, Option.isSome_some, List.getElem?_cons_zero, List.getElem?_cons_succ, nI_add, nI_rem2, if_true]
      exact fin h1 (p + 1) _ _ hp1 ho1 (by omega) (by omega) he
    | true =>
      obtain ⟨e1, e2, e3⟩ := lt_of_dig (p + 1) hd2
      have he : pN T m sg p = if chrT T m (p + 2) = sg then some (10 * (chrT T m p - 48) + (chrT T m (p + 1) - 48), p + 3) else none := by unfold pN; rw [hd, hd2]; rfl
      refine figure_yes hp1 hd2 (fun h2 hp2 ho2 => ?_)
      have n2 : ¬ nI (chrT T m (p + 1) - 48) = -1 := fun e => by rw [nI_m1 (by omega)] at e; exact e
      simp (disch := first | assumption | exact wn2_i | exact wn2_r | exact wn2_n | exact Nat.le_of_ble_eq_true rfl | omega | (refine nI_z ?_ ?_ <;> omega)) only [s15_16, s15_17, s15_18, s15_19, s15_22, s15_23, s15_25, s15_26, s15_27, s15_28, wX_some, Option.toList_some, Option.toList_none, List.cons_append, List.nil_append, List.map_cons, List.map_nil, List.sum_cons, List.sum_nil, Value.category, wn2_i, wn2_r, wn2_n, Option.isSome_some, List.getElem?_cons_zero, List.getElem?_cons_succ, nI_add, nI_rem2, n2, if_false, pk_mul]
      rw [Nat.mul_comm]
      exact fin h2 (p + 2) _ _ hp2 (ho1.tr ho2) (by omega) (by omega) he
end SCROLL2
section SCROLL3
variable {sc : List Int32} {h : List ms_C} {Q : Option Value → List ms_C → Prop} {a b : Nat} {T : Nat → Nat} {m p : Nat} {E : AS}
theorem pN_le {T : Nat → Nat} {m sg p : Nat} (hs : 0 < sg) : ∀ v, (pN T m sg p).map Prod.fst = some v → v ≤ 99 := by
  intro v hv
  cases he : pN T m sg p with
  | none => rw [he] at hv; cases hv
  | some q =>
    rw [he] at hv
    cases hv
    exact (pN_ok hs he).1
theorem readItem_wp (hp : SA h a T m p) (hpm : p < m) (hT : TA h b E) (hn : E 7 0 ≤ 6) (hw : E 7 1 ≤ 6) (hd : a + 2 ≤ b ∨ b + 7 ≤ a) {l2 l3 l4 : Option Value}
    (k0 : itm T m E p = none → ∀ h1 p', SA h1 a T m p' → TA h1 b E → OffX h h1 (fun i => i = a ∨ (b ≤ i ∧ i < b + 7)) → Q (some (.int (nI 0))) h1)
    (k1 : ∀ h1 E' p', itm T m E p = some (E', p') → SA h1 a T m p' → TA h1 b E' → OffX h h1 (fun i => i = a ∨ (b ≤ i ∧ i < b + 7)) → Q (some (.int (nI 1))) h1) : WP sc 13 0 [some (.ref a), some (.ref b), l2, l3, l4] [] h Q := by
  obtain ⟨_, _, _, hI, _, _, hm, hTT, -⟩ := hp.facts
  have xs : ∀ {h1 h2}, Off h1 h2 a 1 → OffX h1 h2 (fun i => i = a ∨ (b ≤ i ∧ i < b + 7)) := fun ho => ho.x (fun i x1 x2 => Or.inl (by omega))
  have xt : ∀ {h1 h2}, Off h1 h2 b 7 → OffX h1 h2 (fun i => i = a ∨ (b ≤ i ∧ i < b + 7)) := fun ho => ho.x (fun i x1 x2 => Or.inr ⟨x1, x2⟩)
  have keepT : ∀ {h1 h2 F}, Off h1 h2 a 1 → TA h1 b F → TA h2 b F := fun ho hT => hT.off ho (by omega)
  have keepS : ∀ {h1 h2 p}, Off h1 h2 b 7 → SA h1 a T m p → SA h2 a T m p := fun ho hp => hp.offX (ho.x (P := fun i => b ≤ i ∧ i < b + 7) (fun i x1 x2 => ⟨x1, x2⟩)) (fun i x1 x2 => by omega)
  by_cases c1 : T p = 115
  · have hce : chrT T m p = 115 := (chr_iff (by omega)).mpr ⟨hpm, c1⟩
    have hit : itm T m E p = itmS T m E p := by unfold itm; rw [if_pos hce]
    rw [hit] at k0 k1
    simp (disch := first | assumption | exact wn2_i | exact wn2_r | exact wn2_n | exact Nat.le_of_ble_eq_true rfl | omega | (refine nI_z ?_ ?_ <;> omega)) only [s13_0, s13_1, s13_3, wX_some, Option.toList_some, Option.toList_none, List.cons_append, List.nil_append, List.map_cons, List.map_nil, List.sum_cons, List.sum_nil, Value.category, wn2_i, wn2_r, wn2_n, Option.isSome_some, List.getElem?_cons_zero, List.getElem?_cons_succ, nI_add, nI_rem2, hI]
    refine takes_yes hp (by omega) hpm c1 (fun h1 hp1 ho1 => ?_)
    obtain ⟨_, _, _, hI1, -⟩ := hp1.facts
    simp (disch := first | assumption | exact wn2_i | exact wn2_r | exact wn2_n | exact Nat.le_of_ble_eq_true rfl | omega | (refine nI_z ?_ ?_ <;> omega)) only [s13_6, s13_9, s13_10, s13_12, wX_some, Option.toList_some, Option.toList_none, List.cons_append, List.nil_append, List.map_cons, List.map_nil, List.sum_cons, List.sum_nil, Value.category, wn2_i, wn2_r, wn2_n, Option.isSome_some, List.getElem?_cons_zero, List.getElem?_cons_succ, nI_add, nI_rem2, nI_eq0, if_false, Nat.reduceEqDiff, hI1]
    refine number_wp hp1 (by omega) (by omega) (fun h2 p2 hp2 ho2 hpm2 hl2 => ?_)
    obtain ⟨_, _, _, hI2, -⟩ := hp2.facts
    simp (disch := first | assumption | exact wn2_i | exact wn2_r | exact wn2_n | exact Nat.le_of_ble_eq_true rfl | omega | (refine nI_z ?_ ?_ <;> omega)) only [s13_15, s13_16, s13_17, s13_19, wX_some, Option.toList_some, Option.toList_none, List.cons_append, List.nil_append, List.map_cons, List.map_nil, List.sum_cons, List.sum_nil, Value.category, wn2_i, wn2_r, wn2_n, Option.isSome_some, List.getElem?_cons_zero, List.getElem?_cons_succ, nI_add, nI_rem2, hI2]
    refine number_wp hp2 (by omega) (by omega) (fun h3 p3 hp3 ho3 hpm3 hl3 => ?_)
    obtain ⟨_, _, _, hI3, -⟩ := hp3.facts
    simp (disch := first | assumption | exact wn2_i | exact wn2_r | exact wn2_n | exact Nat.le_of_ble_eq_true rfl | omega | (refine nI_z ?_ ?_ <;> omega)) only [s13_22, s13_23, s13_24, s13_26, wX_some, Option.toList_some, Option.toList_none, List.cons_append, List.nil_append, List.map_cons, List.map_nil, List.sum_cons, List.sum_nil, Value.category, wn2_i, wn2_r, wn2_n, Option.isSome_some, List.getElem?_cons_zero, List.getElem?_cons_succ, nI_add, nI_rem2, hI3]
    refine number_wp hp3 (by omega) (by omega) (fun h4 p4 hp4 ho4 hpm4 hl4 => ?_)
    have hT4 : TA h4 b E := keepT ho4 (keepT ho3 (keepT ho2 (keepT ho1 hT)))
    have hx4 : OffX h h4 (fun i => i = a ∨ (b ≤ i ∧ i < b + 7)) := (((xs ho1).tr (xs ho2)).tr (xs ho3)).tr (xs ho4)
    obtain ⟨_, _, _, _, _, _, _, _, hIt, -⟩ := hT4.facts
    simp (disch := first | assumption | exact wn2_i | exact wn2_r | exact wn2_n | exact Nat.le_of_ble_eq_true rfl | omega | (refine nI_z ?_ ?_ <;> omega)) only [s13_29, s13_31, s13_32, s13_33, s13_34, s13_36, wX_some, Option.toList_some, Option.toList_none, List.cons_append, List.nil_append, List.map_cons, List.map_nil, List.sum_cons, List.sum_nil, Value.category, wn2_i, wn2_r, wn2_n, Option.isSome_some, List.getElem?_cons_zero, List.getElem?_cons_succ, nI_add, nI_rem2, hIt]
    have no : (E 7 0 = 6 ∨ oI 0 3 ((pN T m 44 (p + 1)).map Prod.fst) = false ∨ oI 0 99 ((pN T m 44 p2).map Prod.fst) = false ∨ oI 0 9 ((pN T m 59 p3).map Prod.fst) = false) → itmS T m E p = none → WP sc 22 0 [some (.ref b), some (.int (pI ((pN T m 44 (p + 1)).map Prod.fst))), some (.int (pI ((pN T m 44 p2).map Prod.fst))), some (.int (pI ((pN T m 59 p3).map Prod.fst)))] [] h4 (fun r h1 => WP sc 13 39 [some (.ref a), some (.ref b), some (.int (pI ((pN T m 44 (p + 1)).map Prod.fst))), some (.int (pI ((pN T m 44 p2).map Prod.fst))), some (.int (pI ((pN T m 59 p3).map Prod.fst)))] (r.toList ++ []) h1 Q) := by
      intro hno hnone
      rw [addStreet_no hT4 hn (pN_le (by omega)) (pN_le (by omega)) (pN_le (by omega)) hno]
      simp (disch := first | assumption | exact wn2_i | exact wn2_r | exact wn2_n | exact Nat.le_of_ble_eq_true rfl | omega | (refine nI_z ?_ ?_ <;> omega)) only [s13_39, wX_some, Option.toList_some, Option.toList_none, List.cons_append, List.nil_append, List.map_cons, List.map_nil, List.sum_cons, List.sum_nil, Value.category, wn2_i, wn2_r, wn2_n, Option.isSome_some, List.getElem?_cons_zero, List.getElem?_cons_succ, nI_add, nI_rem2, nI_eq0, true_or, true_and]
      exact k0 hnone _ _ hp4 hT4 hx4
    cases e1 : pN T m 44 (p + 1) with
    | none =>
      have := no (by rw [e1]; exact Or.inr (Or.inl rfl)) (by unfold itmS; rw [e1])
      rw [e1] at this
      exact this
    | some q1 =>
      obtain ⟨v1, r1⟩ := q1
      have hr1 := hl2 v1 r1 e1
      subst hr1
      cases e2 : pN T m 44 p2 with
      | none =>
        have := no (by rw [e2]; exact Or.inr (Or.inr (Or.inl rfl))) (by unfold itmS; rw [e1]; dsimp only; rw [e2])
        rw [e1, e2] at this
        exact this
      | some q2 =>
        obtain ⟨v2, r2⟩ := q2
        have hr2 := hl3 v2 r2 e2
        subst hr2
        cases e3 : pN T m 59 p3 with
        | none =>
          have := no (by rw [e3]; exact Or.inr (Or.inr (Or.inr rfl))) (by unfold itmS; rw [e1]; dsimp only; rw [e2]; dsimp only; rw [e3])
          rw [e1, e2, e3] at this
          exact this
        | some q3 =>
          obtain ⟨v3, r3⟩ := q3
          have hr3 := hl4 v3 r3 e3
          subst hr3
          have hres : itmS T m E p = if E 7 0 < 6 ∧ v1 ≤ 3 ∧ v3 ≤ 9 then some (adS E v1 v2 v3, p4) else none := by
            unfold itmS; rw [e1]; dsimp only; rw [e2]; dsimp only; rw [e3]
          have b2 := (pN_ok (by omega) e2).1
          by_cases hc : E 7 0 < 6 ∧ v1 ≤ 3 ∧ v3 ≤ 9
          · refine addStreet_yes hT4 hc.1 hc.2.1 b2 hc.2.2 (fun h5 hT5 ho5 => ?_)
            simp (disch := first | assumption | exact wn2_i | exact wn2_r | exact wn2_n | exact Nat.le_of_ble_eq_true rfl | omega | (refine nI_z ?_ ?_ <;> omega)) only [s13_39, wX_some, Option.toList_some, Option.toList_none, List.cons_append, List.nil_append, List.map_cons, List.map_nil, List.sum_cons, List.sum_nil, Value.category, wn2_i, wn2_r, wn2_n, Option.isSome_some, List.getElem?_cons_zero, List.getElem?_cons_succ, nI_add, nI_rem2, nI_eq1, or_true, true_and]
            exact k1 _ _ _ (by rw [hres, if_pos hc]) (keepS ho5 hp4) hT5 (hx4.tr (xt ho5))
          · have := no (by
              rw [e1, e2, e3]
              simp only [Option.map_some, oI]
              by_cases x1 : E 7 0 < 6
              · right
                by_cases x2 : v1 ≤ 3
                · right; right
                  exact decide_eq_false (fun q => hc ⟨x1, x2, q.2⟩)
                · left
                  exact decide_eq_false (fun q => x2 q.2)
              · left; omega) (by rw [hres, if_neg hc])
            rw [e1, e2, e3] at this
            exact this
  · have hce : ¬ chrT T m p = 115 := fun e => c1 ((chr_iff (by omega)).mp e).2
    have htk := fun Q => takes_no (sc := sc) (Q := Q) hp (by omega) (c := 115) (by omega) (fun e => c1 e.2)
    simp (disch := first | assumption | exact wn2_i | exact wn2_r | exact wn2_n | exact Nat.le_of_ble_eq_true rfl | omega | (refine nI_z ?_ ?_ <;> omega)) only [s13_0, s13_1, s13_3, wX_some, Option.toList_some, Option.toList_none, List.cons_append, List.nil_append, List.map_cons, List.map_nil, List.sum_cons, List.sum_nil, Value.category, wn2_i, wn2_r, wn2_n, Option.isSome_some, List.getElem?_cons_zero, List.getElem?_cons_succ, nI_add, nI_rem2, hI, htk]
    simp (disch := first | assumption | exact wn2_i | exact wn2_r | exact wn2_n | exact Nat.le_of_ble_eq_true rfl | omega | (refine nI_z ?_ ?_ <;> omega)) only [s13_6, s13_9, s13_10, s13_12, s13_15, s13_16, s13_17, s13_19, s13_22, s13_23, s13_24, s13_26, s13_29, s13_31, s13_32, s13_33, s13_34, s13_36, s13_39, s13_40, s13_41, s13_43, wX_some, Option.toList_some, Option.toList_none, List.cons_append, List.nil_append, List.map_cons, List.map_nil, List.sum_cons, List.sum_nil, Value.category, wn2_i, wn2_r, wn2_n, Option.isSome_some, List.getElem?_cons_zero, List.getElem?_cons_succ, nI_add, nI_rem2, nI_eq0, if_true, hI]
    by_cases c2 : T p = 119
    · have hce2 : chrT T m p = 119 := (chr_iff (by omega)).mpr ⟨hpm, c2⟩
      have hit : itm T m E p = itmW T m E p := by unfold itm; rw [if_neg hce, if_pos hce2]
      rw [hit] at k0 k1
      refine takes_yes hp (by omega) hpm c2 (fun h1 hp1 ho1 => ?_)
      obtain ⟨_, _, _, hI1, -⟩ := hp1.facts
      simp (disch := first | assumption | exact wn2_i | exact wn2_r | exact wn2_n | exact Nat.le_of_ble_eq_true rfl | omega | (refine nI_z ?_ ?_ <;> omega)) only [s13_46, s13_49, s13_50, s13_51, s13_53, wX_some, Option.toList_some, Option.toList_none, List.cons_append, List.nil_append, List.map_cons, List.map_nil, List.sum_cons, List.sum_nil, Value.category, wn2_i, wn2_r, wn2_n, Option.isSome_some, List.getElem?_cons_zero, List.getElem?_cons_succ, nI_add, nI_rem2, nI_eq0, if_false, Nat.reduceEqDiff, hI1]
      refine number_wp hp1 (by omega) (by omega) (fun h2 p2 hp2 ho2 hpm2 hl2 => ?_)
      have hT2 : TA h2 b E := keepT ho2 (keepT ho1 hT)
      have hx2 : OffX h h2 (fun i => i = a ∨ (b ≤ i ∧ i < b + 7)) := (xs ho1).tr (xs ho2)
      obtain ⟨_, _, _, _, _, _, _, _, hIt, -⟩ := hT2.facts
      simp (disch := first | assumption | exact wn2_i | exact wn2_r | exact wn2_n | exact Nat.le_of_ble_eq_true rfl | omega | (refine nI_z ?_ ?_ <;> omega)) only [s13_56, wX_some, Option.toList_some, Option.toList_none, List.cons_append, List.nil_append, List.map_cons, List.map_nil, List.sum_cons, List.sum_nil, Value.category, wn2_i, wn2_r, wn2_n, Option.isSome_some, List.getElem?_cons_zero, List.getElem?_cons_succ, nI_add, nI_rem2, hIt]
      have no : (E 7 1 = 6 ∨ oI 1 40 ((pN T m 59 (p + 1)).map Prod.fst) = false) → itmW T m E p = none → WP sc 23 0 [some (.ref b), some (.int (pI ((pN T m 59 (p + 1)).map Prod.fst)))] [] h2 (fun r h1 => WP sc 13 59 [some (.ref a), some (.ref b), l2, l3, l4] (r.toList ++ []) h1 Q) := by
        intro hno hnone
        rw [addWork_no hT2 hw (pN_le (by omega)) hno]
        simp (disch := first | assumption | exact wn2_i | exact wn2_r | exact wn2_n | exact Nat.le_of_ble_eq_true rfl | omega | (refine nI_z ?_ ?_ <;> omega)) only [s13_59, s13_62, s13_63, s13_66, s13_67, wX_some, Option.toList_some, Option.toList_none, List.cons_append, List.nil_append, List.map_cons, List.map_nil, List.sum_cons, List.sum_nil, Value.category, wn2_i, wn2_r, wn2_n, Option.isSome_some, List.getElem?_cons_zero, List.getElem?_cons_succ, nI_add, nI_rem2, nI_eq0, if_true, true_or, true_and]
        exact k0 hnone _ _ hp2 hT2 hx2
      cases e1 : pN T m 59 (p + 1) with
      | none =>
        have := no (by rw [e1]; exact Or.inr rfl) (by unfold itmW; rw [e1])
        rw [e1] at this
        exact this
      | some q1 =>
        obtain ⟨v1, r1⟩ := q1
        have hr1 := hl2 v1 r1 e1
        subst hr1
        have hres : itmW T m E p = if E 7 1 < 6 ∧ 1 ≤ v1 ∧ v1 ≤ 40 then some (adW E v1, p2) else none := by unfold itmW; rw [e1]
        by_cases hc : E 7 1 < 6 ∧ 1 ≤ v1 ∧ v1 ≤ 40
        · refine addWork_yes hT2 hc.1 hc.2 (fun h5 hT5 ho5 => ?_)
          simp (disch := first | assumption | exact wn2_i | exact wn2_r | exact wn2_n | exact Nat.le_of_ble_eq_true rfl | omega | (refine nI_z ?_ ?_ <;> omega)) only [s13_59, s13_62, s13_63, s13_66, s13_67, wX_some, Option.toList_some, Option.toList_none, List.cons_append, List.nil_append, List.map_cons, List.map_nil, List.sum_cons, List.sum_nil, Value.category, wn2_i, wn2_r, wn2_n, Option.isSome_some, List.getElem?_cons_zero, List.getElem?_cons_succ, nI_add, nI_rem2, nI_eq0, if_false, Nat.reduceEqDiff, nI_eq1, or_true, true_and]
          exact k1 _ _ _ (by rw [hres, if_pos hc]) (keepS ho5 hp2) hT5 (hx2.tr (xt ho5))
        · have := no (by
            rw [e1]
            simp only [Option.map_some, oI]
            by_cases x1 : E 7 1 < 6
            · right
              exact decide_eq_false (fun q => hc ⟨x1, q⟩)
            · left; omega) (by rw [hres, if_neg hc])
          rw [e1] at this
          exact this
    · have hce2 : ¬ chrT T m p = 119 := fun e => c2 ((chr_iff (by omega)).mp e).2
      have hit : itm T m E p = none := by unfold itm; rw [if_neg hce, if_neg hce2]
      have htk2 := fun Q => takes_no (sc := sc) (Q := Q) hp (by omega) (c := 119) (by omega) (fun e => c2 e.2)
      simp only [htk2]
      simp (disch := first | assumption | exact wn2_i | exact wn2_r | exact wn2_n | exact Nat.le_of_ble_eq_true rfl | omega | (refine nI_z ?_ ?_ <;> omega)) only [s13_46, s13_49, s13_50, s13_51, s13_53, s13_56, s13_59, s13_62, s13_63, s13_66, s13_67, wX_some, Option.toList_some, Option.toList_none, List.cons_append, List.nil_append, List.map_cons, List.map_nil, List.sum_cons, List.sum_nil, Value.category, wn2_i, wn2_r, wn2_n, Option.isSome_some, List.getElem?_cons_zero, List.getElem?_cons_succ, nI_add, nI_rem2, nI_eq0, if_true, true_or, true_and]
      exact k0 hit h p hp hT OffX.rf
end SCROLL3

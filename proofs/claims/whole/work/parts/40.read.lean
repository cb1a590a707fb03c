-- Scroll: reading into a town, append
def fO (o : Option Nat) : Int32 := match o with
  | none => -4
  | some s => nI s
def RG (E : AS) : Prop := E 7 0 ≤ 6 ∧ E 7 1 ≤ 6 ∧ (∀ i, i < E 7 0 → E 0 i ≤ 99 ∧ E 1 i = 0 ∧ E 2 i = 0 ∧ E 5 i ≤ 3 ∧ E 6 i ≤ 9) ∧ (∀ k, k < E 7 1 → E 3 k ≤ 40) ∧ E 4 0 = 0 ∧ E 4 1 = 0 ∧ E 4 2 = 0
theorem RG.em : RG emA := ⟨Nat.zero_le _, Nat.zero_le _, fun i hi => absurd hi (Nat.not_lt_zero i), fun i hi => absurd hi (Nat.not_lt_zero i), rfl, rfl, rfl⟩
theorem RG.adS {E : AS} {k w u : Nat} (h : RG E) (hn : E 7 0 < 6) (hk : k ≤ 3) (hw : w ≤ 99) (hu : u ≤ 9) : RG (adS E k w u) := by
  obtain ⟨h1, h2, h3, h4, h5⟩ := h
  refine ⟨?_, h2, fun i hi => ?_, h4, h5⟩
  · show up1 (E 7) 0 (E 7 0 + 1) 0 ≤ 6
    rw [up1_eq]; omega
  · have hi : i < E 7 0 + 1 := hi
    show up1 (E 0) (E 7 0) w i ≤ 99 ∧ up1 (E 1) (E 7 0) 0 i = 0 ∧ up1 (E 2) (E 7 0) 0 i = 0 ∧ up1 (E 5) (E 7 0) k i ≤ 3 ∧ up1 (E 6) (E 7 0) u i ≤ 9
    by_cases he : i = E 7 0
    · subst he
      simp only [up1_eq]
      exact ⟨hw, trivial, trivial, hk, hu⟩
    · simp only [up1_ne he]
      exact h3 i (by omega)
theorem RG.adW {E : AS} {v : Nat} (h : RG E) (hn : E 7 1 < 6) (hv : v ≤ 40) : RG (adW E v) := by
  obtain ⟨h1, h2, h3, h4, h5⟩ := h
  refine ⟨h1, ?_, h3, fun i hi => ?_, h5⟩
  · show up1 (E 7) 1 (E 7 1 + 1) 1 ≤ 6
    rw [up1_eq]; omega
  · have hi : i < E 7 1 + 1 := hi
    show up1 (E 3) (E 7 1) v i ≤ 40
    by_cases he : i = E 7 1
    · subst he
      rw [up1_eq]; exact hv
    · rw [up1_ne he]
      exact h4 i (by omega)
theorem itm_ok {T : Nat → Nat} {m p p' : Nat} {E E' : AS} (hr : RG E) (h : itm T m E p = some (E', p')) : RG E' ∧ p + 2 ≤ p' ∧ p' ≤ m := by
  unfold itm at h
  split at h
  · unfold itmS at h
    split at h
    · cases h
    · rename_i k p1 e1
      split at h
      · cases h
      · rename_i w p2 e2
        split at h
        · cases h
        · rename_i u p3 e3
          split at h
          · rename_i hc
            cases h
            have b1 := pN_ok (by omega) e1
            have b2 := pN_ok (by omega) e2
            have b3 := pN_ok (by omega) e3
            exact ⟨hr.adS hc.1 hc.2.1 b2.1 hc.2.2, by omega, b3.2.2⟩
          · cases h
  · split at h
    · unfold itmW at h
      split at h
      · cases h
      · rename_i v p1 e1
        split at h
        · rename_i hc
          cases h
          have b1 := pN_ok (by omega) e1
          exact ⟨hr.adW hc.1 hc.2.2, by omega, b1.2.2⟩
        · cases h
    · cases h
theorem rdF_rg {T : Nat → Nat} {m : Nat} : ∀ (f : Nat) (E : AS) (p : Nat), RG E → RG (rdF T m f E p).2 := by
  intro f
  induction f with
  | zero => intro E p h; exact h
  | succ f ih =>
    intro E p h
    unfold rdF
    split
    · cases he : itm T m E p with
      | none => exact h
      | some q =>
        obtain ⟨E', p'⟩ := q
        exact ih _ _ (itm_ok h he).1
    · exact h
section READ
variable {sc : List Int32} {h : List ms_C} {Q : Option Value → List ms_C → Prop} {a b : Nat} {T : Nat → Nat} {m p : Nat} {E : AS}
theorem readInto_wp (hp : SA h a T m p) (hT : ∃ E, TA h b E) (hd : a + 2 ≤ b ∨ b + 7 ≤ a) {l2 l3 : Option Value}
    (k : ∀ h1 p', SA h1 a T m p' → TA h1 b (rdF T m 200 emA 0).2 → OffX h h1 (fun i => i = a ∨ (b ≤ i ∧ i < b + 7)) → Q (some (.int (fO (rdF T m 200 emA 0).1))) h1) : WP sc 12 0 [some (.ref a), some (.ref b), l2, l3] [] h Q := by
  obtain ⟨E0, hT⟩ := hT
  obtain ⟨_, _, _, _, _, _, _, _, hI, -⟩ := hT.facts
  simp (disch := first | assumption | exact wn2_i | exact wn2_r | exact wn2_n | exact Nat.le_of_ble_eq_true rfl | omega | (refine nI_z ?_ ?_ <;> omega)) only [s12_0, s12_1, wX_some, Option.toList_some, Option.toList_none, List.cons_append, List.nil_append, List.map_cons, List.map_nil, List.sum_cons, List.sum_nil, Value.category, wn2_i, wn2_r, wn2_n, Option.isSome_some, List.getElem?_cons_zero, List.getElem?_cons_succ, nI_add, nI_rem2, hI]
  refine empty_wp hT (fun h1 hT1 ho1 => ?_)
  have hp1 : SA h1 a T m p := hp.offX (ho1.x (P := fun i => b ≤ i ∧ i < b + 7) (fun i x1 x2 => ⟨x1, x2⟩)) (fun i x1 x2 => by omega)
  obtain ⟨l, hg, hi, hIs, hch, hl, hm, hTT, hlen⟩ := hp1.facts
  have hx1 : OffX h h1 (fun i => i = a ∨ (b ≤ i ∧ i < b + 7)) := ho1.x (fun i x1 x2 => Or.inr ⟨x1, x2⟩)
  have key : ∀ fu i, i + fu = 200 → ∀ E p l3 h1, i ≤ p → p ≤ m → RG E → SA h1 a T m p → TA h1 b E → OffX h h1 (fun i => i = a ∨ (b ≤ i ∧ i < b + 7)) → rdF T m fu E p = rdF T m 200 emA 0 → WP sc 12 11 [some (.ref a), some (.ref b), some (.int (nI i)), l3] [] h1 Q := by
    intro fu
    induction fu with
    | zero =>
      intro i hi E p l3 h1 hip hpm hr hp1 hT1 hx hob
      have n1 : nI 200 ≤ nI i := nI_le (by omega) (by omega)
      rw [s12_11]
      simp (disch := first | assumption | exact wn2_i | exact wn2_r | exact wn2_n | exact Nat.le_of_ble_eq_true rfl | omega | (refine nI_z ?_ ?_ <;> omega)) only [s12_12, s12_15, s12_18, s12_19, s12_22, s12_23, s12_26, s12_29, s12_30, s12_33, s12_34, s12_35, s12_36, s12_39, s12_42, s12_43, s12_44, s12_47, s12_50, s12_52, wX_some, Option.toList_some, Option.toList_none, List.cons_append, List.nil_append, List.map_cons, List.map_nil, List.sum_cons, List.sum_nil, Value.category, wn2_i, wn2_r, wn2_n, Option.isSome_some, List.getElem?_cons_zero, List.getElem?_cons_succ, nI_add, nI_rem2, n1, if_true]
      have := k h1 p hp1 (by rw [← hob]; exact hT1) hx
      rw [← hob] at this
      exact this
    | succ fu ih =>
      intro i hi E p l3 h1 hip hpm hr hp1 hT1 hx hob
      have n1 : ¬ nI 200 ≤ nI i := nI_ge (by omega) (by omega)
      obtain ⟨l, hg, hi', hIs, hch, hl, hm, hTT, hlen⟩ := hp1.facts
      by_cases hlt : p < m
      · have n2 : ¬ nI m ≤ nI p := nI_ge hlt (by omega)
        rw [s12_11]
        simp (disch := first | assumption | exact wn2_i | exact wn2_r | exact wn2_n | exact Nat.le_of_ble_eq_true rfl | omega | (refine nI_z ?_ ?_ <;> omega)) only [s12_12, s12_15, s12_18, s12_19, s12_22, s12_23, s12_26, s12_29, s12_30, s12_33, s12_34, s12_35, s12_36, wX_some, Option.toList_some, Option.toList_none, List.cons_append, List.nil_append, List.map_cons, List.map_nil, List.sum_cons, List.sum_nil, Value.category, wn2_i, wn2_r, wn2_n, Option.isSome_some, List.getElem?_cons_zero, List.getElem?_cons_succ, nI_add, nI_rem2, n1, n2, if_false, hg, hIs]
        refine readItem_wp hp1 hlt hT1 hr.1 hr.2.1 hd (fun hno h2 p2 hp2 hT2 hx2 => ?_) (fun h2 E2 p2 hy hp2 hT2 hx2 => ?_)
        · have he : rdF T m (fu + 1) E p = (some p, E) := by rw [rdF, if_pos hlt, hno]
          simp (disch := first | assumption | exact wn2_i | exact wn2_r | exact wn2_n | exact Nat.le_of_ble_eq_true rfl | omega | (refine nI_z ?_ ?_ <;> omega)) only [s12_39, s12_42, s12_43, wX_some, Option.toList_some, Option.toList_none, List.cons_append, List.nil_append, List.map_cons, List.map_nil, List.sum_cons, List.sum_nil, Value.category, wn2_i, wn2_r, wn2_n, Option.isSome_some, List.getElem?_cons_zero, List.getElem?_cons_succ, nI_add, nI_rem2, nI_eq0, if_true]
          have := k h2 p2 hp2 (by rw [← hob, he]; exact hT2) (hx.tr hx2)
          rw [← hob, he] at this
          exact this
        · have he : rdF T m (fu + 1) E p = rdF T m fu E2 p2 := by rw [rdF, if_pos hlt, hy]
          obtain ⟨q1, q2, q3⟩ := itm_ok hr hy
          simp (disch := first | assumption | exact wn2_i | exact wn2_r | exact wn2_n | exact Nat.le_of_ble_eq_true rfl | omega | (refine nI_z ?_ ?_ <;> omega)) only [s12_39, s12_42, s12_43, s12_44, s12_47, wX_some, Option.toList_some, Option.toList_none, List.cons_append, List.nil_append, List.map_cons, List.map_nil, List.sum_cons, List.sum_nil, Value.category, wn2_i, wn2_r, wn2_n, Option.isSome_some, List.getElem?_cons_zero, List.getElem?_cons_succ, nI_add, nI_rem2, nI_eq0, if_false, Nat.reduceEqDiff]
          exact ih (i + 1) (by omega) E2 p2 _ h2 (by omega) q3 q1 hp2 hT2 (hx.tr hx2) (by rw [← hob, he])
      · have n2 : nI m ≤ nI p := nI_le (by omega) (by omega)
        have he : rdF T m (fu + 1) E p = (none, E) := by rw [rdF, if_neg hlt]
        rw [s12_11]
        simp (disch := first | assumption | exact wn2_i | exact wn2_r | exact wn2_n | exact Nat.le_of_ble_eq_true rfl | omega | (refine nI_z ?_ ?_ <;> omega)) only [s12_12, s12_15, s12_18, s12_19, s12_22, s12_23, s12_26, s12_29, s12_30, s12_33, s12_34, s12_35, s12_36, s12_39, s12_42, s12_43, s12_44, s12_47, s12_50, s12_52, wX_some, Option.toList_some, Option.toList_none, List.cons_append, List.nil_append, List.map_cons, List.map_nil, List.sum_cons, List.sum_nil, Value.category, wn2_i, wn2_r, wn2_n, Option.isSome_some, List.getElem?_cons_zero, List.getElem?_cons_succ, nI_add, nI_rem2, n1, n2, if_false, if_true, hg]
        have := k h1 p hp1 (by rw [← hob, he]; exact hT1) hx
        rw [← hob, he] at this
        exact this
  simp (disch := first | assumption | exact wn2_i | exact wn2_r | exact wn2_n | exact Nat.le_of_ble_eq_true rfl | omega | (refine nI_z ?_ ?_ <;> omega)) only [s12_4, s12_5, s12_6, s12_9, s12_10, wX_some, Option.toList_some, Option.toList_none, List.cons_append, List.nil_append, List.map_cons, List.map_nil, List.sum_cons, List.sum_nil, Value.category, wn2_i, wn2_r, wn2_n, Option.isSome_some, List.getElem?_cons_zero, List.getElem?_cons_succ, nI_add, nI_rem2, hi, List.set_cons_succ, List.set_cons_zero, List.length_cons, List.length_nil, Nat.reduceAdd, Nat.reduceLT, true_and]
  refine key 200 0 (by omega) emA 0 _ _ (by omega) (by omega) RG.em (hp1.pl 0) (hT1.off (b := a) (n := 1) (Off.rf.st (by omega) (by omega)) (by omega)) (hx1.st (Or.inl rfl)) rfl
theorem append_full (hp : SA h a T 200 p) {x : Int32} : WP sc 11 0 [some (.ref a), some (.int x)] [] h Q ↔ Q (some (.int (nI 0))) h := by
  obtain ⟨l, hg, hi, hIs, hch, hl, hm, hTT, hlen⟩ := hp.facts
  have n1 : ¬ nI 200 < nI l.length := nI_nlt (by omega) (by omega)
  simp (disch := first | assumption | exact wn2_i | exact wn2_r | exact wn2_n | exact Nat.le_of_ble_eq_true rfl | omega | (refine nI_z ?_ ?_ <;> omega)) only [s11_0, s11_1, s11_4, s11_5, s11_8, s11_9, s11_12, s11_13, s11_14, s11_15, s11_18, s11_19, s11_22, s11_23, s11_24, s11_25, s11_26, s11_29, s11_30, s11_31, s11_34, s11_35, wX_some, Option.toList_some, Option.toList_none, List.cons_append, List.nil_append, List.map_cons, List.map_nil, List.sum_cons, List.sum_nil, Value.category, wn2_i, wn2_r, wn2_n, Option.isSome_some, List.getElem?_cons_zero, List.getElem?_cons_succ, nI_add, nI_rem2, hg, hch, n1, if_false, nI_eq0, true_or, true_and]
theorem append_wp (hp : SA h a T m p) (hm : m < 200) {c : Nat} (hc : c ≤ 126) (k : ∀ h1, SA h1 a (up1 T m c) (m + 1) p → Off h h1 a 2 → Q (some (.int (nI 1))) h1) : WP sc 11 0 [some (.ref a), some (.int (nI c))] [] h Q := by
  obtain ⟨l, hg, hi, hIs, hch, hl, _, hTT, hlen⟩ := hp.facts
  obtain ⟨l', z0, z1, z2, z3, z4⟩ := hp
  have hll : l' = l := by have := a_chr z1; rw [hch] at this; exact (Option.some.inj this).symm
  subst hll
  have n1 : nI m < nI 200 := nI_lt (by omega) (by omega)
  have hvn : vp_nar .char (nI c) = nI c := by
    have := pk_charN (q := c) (by omega)
    unfold vp_nar
    rw [this.1]
  simp (disch := first | assumption | exact wn2_i | exact wn2_r | exact wn2_n | exact Nat.le_of_ble_eq_true rfl | omega | (refine nI_z ?_ ?_ <;> omega)) only [s11_0, s11_1, s11_4, s11_5, s11_8, s11_9, s11_12, s11_13, s11_14, s11_15, s11_18, s11_19, s11_22, s11_23, s11_24, s11_25, s11_26, s11_29, s11_30, s11_31, s11_34, s11_35, wX_some, Option.toList_some, Option.toList_none, List.cons_append, List.nil_append, List.map_cons, List.map_nil, List.sum_cons, List.sum_nil, Value.category, wn2_i, wn2_r, wn2_n, Option.isSome_some, List.getElem?_cons_zero, List.getElem?_cons_succ, nI_add, nI_rem2, hg, hch, hl, n1, if_true, iat_n, g_ne, i_ne, hi, hvn, List.set_cons_succ, List.set_cons_zero, List.length_cons, List.length_nil, Nat.reduceAdd, Nat.reduceLT, true_and, nI_eq1, or_true]
  refine k _ ?_ ?_
  rotate_left
  · exact (Off.rf.st (by omega) (by omega)).st (by omega) (by omega)
  refine ⟨l'.set m (nI c), s_eq (by simp; omega), ?_, by simpa using hl, by omega, fun i hi => ?_⟩
  · rw [List.getElem?_set_ne (by omega), s_eq (by omega)]
  · simp only [List.getD_eq_getElem?_getD]
    by_cases he : i = m
    · subst he
      rw [List.getElem?_set_self (by omega), up1_eq]
      exact ⟨rfl, hc⟩
    · rw [List.getElem?_set_ne (fun e => he e.symm), up1_ne he, ← List.getD_eq_getElem?_getD]
      exact hTT i (by omega)
end READ

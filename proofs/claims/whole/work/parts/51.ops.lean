-- MayorsChair's calls: help, order
def hlU (A : AS) (g n s : Nat) : Nat := mnW (lpA (up2 A 0 s (cap (A 0 s + g))) n) (A 7 0 - 1)
def hlp (A : AS) (g n : Nat) : Nat → Option (Nat × Nat)
  | 0 => none
  | i + 1 => match hlp A g n i with
    | none => some (i, hlU A g n i)
    | some (b, u) => if u < hlU A g n i then some (i, hlU A g n i) else some (b, u)
def hlB (o : Option (Nat × Nat)) : Nat := (o.map Prod.fst).getD 0
def hlV (o : Option (Nat × Nat)) : Nat := (o.map Prod.snd).getD 0
def op_help (g n w : Int32) (S : GS) : OPR := if rng 1 40 g && rng 0 40 n && rng 0 1 w then (if nat w = 0 then nI (hlB (hlp S.2.1 (nat g) (nat n) (S.2.1 7 0))) else nI (hlV (hlp S.2.1 (nat g) (nat n) (S.2.1 7 0))), S) else (-1, S)
def op_order (n j : Int32) (S : GS) : OPR := if rng 1 40 n && (decide (j = -1) || inW S.2.1 j) then (if j = -1 then pI (obL S.2.1 (nat n) 719 [0, 1, 2, 3, 4, 5] none []).1 else nI ((obL S.2.1 (nat n) 719 [0, 1, 2, 3, 4, 5] none []).2.getD (nat j) 0), S) else (-1, S)
theorem hlU_le {A : AS} {g n s : Nat} (hG : AG A) : hlU A g n s ≤ 999 := by
  have h2 : AG (up2 A 0 s (cap (A 0 s + g))) := upA_ag0 hG cap_le
  have hGl := lpA_ag h2 n
  have hs7 : lpA (up2 A 0 s (cap (A 0 s + g))) n 7 = A 7 := (lpA_s n).1
  have := hG.1.1
  exact mnW_le (n := A 7 0) (fun i hi => (hGl.2.2.1 i (by rw [hs7]; exact hi)).1) _ (by omega)
theorem hlp_le {A : AS} {g n : Nat} (hG : AG A) : ∀ i b u, hlp A g n i = some (b, u) → b < i ∧ u ≤ 999 := by
  intro i
  induction i with
  | zero => intro b u h; cases h
  | succ i ih =>
    intro b u h
    unfold hlp at h
    have h9 := hlU_le (g := g) (n := n) (s := i) hG
    split at h
    · cases h; exact ⟨by omega, h9⟩
    · rename_i b' u' hb
      have := ih _ _ hb
      split at h
      · cases h; exact ⟨by omega, h9⟩
      · cases h; omega
section CQ3
variable {sc : List Int32} {h : List ms_C} {Q : Option Value → List ms_C → Prop} {S : GS}
theorem c_helped {T : Nat → Nat} {m : Nat} {A : AS} {U K : List AS} {L : List (Nat × Nat)} (hc : CI h T m A U K L) (hAG0 : AG A) (hq : A 4 0 ≤ 999) {s g n : Nat} (hs : s < A 7 0) (hg : g ≤ 40) (hn : n ≤ 40) (k : ∀ h1, CI h1 T m A U K L → Off h h1 0 97 → Q (some (.int (nI (hlU A g n s)))) h1) : WP sc 61 0 [some (.ref 0), some (.int (nI s)), some (.int (nI g)), some (.int (nI n))] [] h Q := by
  have lay := cLay
  obtain ⟨g5, i0, iS, iT, iR, iP, iK, iG, iO⟩ := CI.facts hc
  simp (disch := first | assumption | exact wn2_i | exact wn2_r | exact wn2_n | exact Nat.le_of_ble_eq_true rfl | omega | (refine nI_z ?_ ?_ <;> omega)) only [s61_0, s61_1, s61_4, s61_5, s61_8, wX_some, Option.toList_some, Option.toList_none, List.cons_append, List.nil_append, List.map_cons, List.map_nil, List.sum_cons, List.sum_nil, Value.category, wn2_i, wn2_r, wn2_n, Option.isSome_some, List.getElem?_cons_zero, List.getElem?_cons_succ, nI_add, nI_rem2, g5]
  refine c_cop hc hAG0 (fun h1 hc1 hT1 ho1 => ?_)
  obtain ⟨g5, i0, iS, iT, iR, iP, iK, iG, iO⟩ := CI.facts hc1
  simp (disch := first | assumption | exact wn2_i | exact wn2_r | exact wn2_n | exact Nat.le_of_ble_eq_true rfl | omega | (refine nI_z ?_ ?_ <;> omega)) only [s61_11, s61_12, s61_15, s61_16, s61_17, wX_some, Option.toList_some, Option.toList_none, List.cons_append, List.nil_append, List.map_cons, List.map_nil, List.sum_cons, List.sum_nil, Value.category, wn2_i, wn2_r, wn2_n, Option.isSome_some, List.getElem?_cons_zero, List.getElem?_cons_succ, nI_add, nI_rem2, g5]
  have b0 := (hAG0.2.2.1 s hs).1
  have h6 := hAG0.1.2
  refine enrich_wp hT1 hs h6 (by omega) (by omega) (fun h2 hT2 ho2 => ?_)
  have hc2 := CI.trial hc1 ho2 hT2
  obtain ⟨g5, i0, iS, iT, iR, iP, iK, iG, iO⟩ := CI.facts hc2
  simp (disch := first | assumption | exact wn2_i | exact wn2_r | exact wn2_n | exact Nat.le_of_ble_eq_true rfl | omega | (refine nI_z ?_ ?_ <;> omega)) only [s61_20, s61_21, s61_24, s61_25, wX_some, Option.toList_some, Option.toList_none, List.cons_append, List.nil_append, List.map_cons, List.map_nil, List.sum_cons, List.sum_nil, Value.category, wn2_i, wn2_r, wn2_n, Option.isSome_some, List.getElem?_cons_zero, List.getElem?_cons_succ, nI_add, nI_rem2, g5]
  have hAG2 : AG (up2 A 0 s (cap (A 0 s + g))) := upA_ag0 hAG0 cap_le
  refine letPass_wp hT2 hAG2 (by omega) (show A 4 0 + n ≤ 200000 by omega) (fun h3 hT3 ho3 => ?_)
  have hc3 := CI.trial hc2 ho3 hT3
  obtain ⟨g5, i0, iS, iT, iR, iP, iK, iG, iO⟩ := CI.facts hc3
  have hGl := lpA_ag hAG2 n
  have hs7 : lpA (up2 A 0 s (cap (A 0 s + g))) n 7 = A 7 := (lpA_s n).1
  have h2 := hAG0.1.1
  have hpw := fun Q => poorestWealth_wp (sc := sc) (Q := Q) (l1 := none) (l2 := none) hT3 (by rw [hs7]; omega) (by rw [hs7]; omega) (fun s hs => by have := (hGl.2.2.1 s hs).1; omega)
  rw [hs7] at hpw
  simp (disch := first | assumption | exact wn2_i | exact wn2_r | exact wn2_n | exact Nat.le_of_ble_eq_true rfl | omega | (refine nI_z ?_ ?_ <;> omega)) only [s61_28, s61_29, s61_32, s61_35, wX_some, Option.toList_some, Option.toList_none, List.cons_append, List.nil_append, List.map_cons, List.map_nil, List.sum_cons, List.sum_nil, Value.category, wn2_i, wn2_r, wn2_n, Option.isSome_some, List.getElem?_cons_zero, List.getElem?_cons_succ, nI_add, nI_rem2, g5, hpw]
  exact k h3 hc3 ((ho1.tr (ho2.wide (by omega) (by omega))).tr (ho3.wide (by omega) (by omega)))
theorem c_help (hc : CIS h S) (hg : GIS S) {g n w : Int32} {l4 l5 l6 l7 : Option Value} (k : ∀ h1, CIS h1 (op_help g n w S).2 → Off h h1 0 97 → Q (some (.int (op_help g n w S).1)) h1) : WP sc 60 0 [some (.ref 0), some (.int g), some (.int n), some (.int w), l4, l5, l6, l7] [] h Q := by
  obtain ⟨⟨T, m⟩, A, U, K, L⟩ := S
  have lay := cLay
  have hc : CI h T m A U K L := hc
  have hg : GI m A U K L := hg
  have hc0 := hc
  obtain ⟨g5, i0, iS, iT, iR, iP, iK, iG, iO⟩ := CI.facts hc
  obtain ⟨-, hAG, hq, -⟩ := hg
  have hAG0 := hAG
  obtain ⟨⟨G1, G2⟩, ⟨G3, G4⟩, G5, G6, G7⟩ := hAG
  unfold op_help at k
  dsimp only at k
  cases hr : rng 1 40 g with
  | false =>
    rw [hr, Bool.false_and, Bool.false_and, if_neg (by decide)] at k
    simp (disch := first | assumption | exact wn2_i | exact wn2_r | exact wn2_n | exact Nat.le_of_ble_eq_true rfl | omega | (refine nI_z ?_ ?_ <;> omega)) only [s60_0, s60_1, s60_2, s60_4, s60_7, s60_10, s60_11, s60_12, s60_14, s60_17, s60_20, s60_21, s60_22, s60_23, s60_26, s60_29, s60_30, s60_31, s60_32, s60_34, s60_35, s60_37, s60_38, s60_40, s60_42, s60_43, s60_46, s60_49, s60_52, s60_53, s60_55, s60_56, s60_57, s60_60, s60_62, s60_64, s60_66, s60_69, s60_71, s60_73, s60_75, s60_77, s60_80, s60_83, s60_84, s60_87, s60_89, s60_92, s60_94, wX_some, Option.toList_some, Option.toList_none, List.cons_append, List.nil_append, List.map_cons, List.map_nil, List.sum_cons, List.sum_nil, Value.category, wn2_i, wn2_r, wn2_n, Option.isSome_some, List.getElem?_cons_zero, List.getElem?_cons_succ, nI_add, nI_rem2, within_rng, hr, Bool.false_eq_true, if_false, nI_eq0, if_true]
    exact k h hc0 Off.rf
  | true =>
    cases hr2 : rng 0 40 n with
    | false =>
      rw [hr2, Bool.and_false, Bool.false_and, if_neg (by decide)] at k
      simp (disch := first | assumption | exact wn2_i | exact wn2_r | exact wn2_n | exact Nat.le_of_ble_eq_true rfl | omega | (refine nI_z ?_ ?_ <;> omega)) only [s60_0, s60_1, s60_2, s60_4, s60_7, s60_10, s60_11, s60_12, s60_14, s60_17, s60_20, s60_21, s60_22, s60_23, s60_26, s60_29, s60_30, s60_31, s60_32, s60_34, s60_35, s60_37, s60_38, s60_40, s60_42, s60_43, s60_46, s60_49, s60_52, s60_53, s60_55, s60_56, s60_57, s60_60, s60_62, s60_64, s60_66, s60_69, s60_71, s60_73, s60_75, s60_77, s60_80, s60_83, s60_84, s60_87, s60_89, s60_92, s60_94, wX_some, Option.toList_some, Option.toList_none, List.cons_append, List.nil_append, List.map_cons, List.map_nil, List.sum_cons, List.sum_nil, Value.category, wn2_i, wn2_r, wn2_n, Option.isSome_some, List.getElem?_cons_zero, List.getElem?_cons_succ, nI_add, nI_rem2, hr, hr2, within_rng, Bool.false_eq_true, if_false, nI_eq0, if_true, Nat.reduceEqDiff]
      exact k h hc0 Off.rf
    | true =>
      cases hr3 : rng 0 1 w with
      | false =>
        rw [hr3, Bool.and_false, if_neg (by decide)] at k
        simp (disch := first | assumption | exact wn2_i | exact wn2_r | exact wn2_n | exact Nat.le_of_ble_eq_true rfl | omega | (refine nI_z ?_ ?_ <;> omega)) only [s60_0, s60_1, s60_2, s60_4, s60_7, s60_10, s60_11, s60_12, s60_14, s60_17, s60_20, s60_21, s60_22, s60_23, s60_26, s60_29, s60_30, s60_31, s60_32, s60_34, s60_35, s60_37, s60_38, s60_40, s60_42, s60_43, s60_46, s60_49, s60_52, s60_53, s60_55, s60_56, s60_57, s60_60, s60_62, s60_64, s60_66, s60_69, s60_71, s60_73, s60_75, s60_77, s60_80, s60_83, s60_84, s60_87, s60_89, s60_92, s60_94, wX_some, Option.toList_some, Option.toList_none, List.cons_append, List.nil_append, List.map_cons, List.map_nil, List.sum_cons, List.sum_nil, Value.category, wn2_i, wn2_r, wn2_n, Option.isSome_some, List.getElem?_cons_zero, List.getElem?_cons_succ, nI_add, nI_rem2, hr, hr2, hr3, within_rng, Bool.false_eq_true, if_false, nI_eq0, if_true, Nat.reduceEqDiff]
        exact k h hc0 Off.rf
      | true =>
        rw [hr, hr2, hr3, Bool.and_true, Bool.and_true, if_pos rfl] at k
        obtain ⟨i, i1, i2, rfl⟩ := rng_nI (by omega) hr
        obtain ⟨j, j1, j2, rfl⟩ := rng_nI (by omega) hr2
        obtain ⟨u, u1, u2, rfl⟩ := rng_nI (by omega) hr3
        rw [nat_nI (by omega), nat_nI (by omega), nat_nI (by omega)] at k
        have key : ∀ x, x ≤ A 7 0 → ∀ h1 l7, CI h1 T m A U K L → Off h h1 0 97 → WP sc 60 40 [some (.ref 0), some (.int (nI i)), some (.int (nI j)), some (.int (nI u)), some (.int (nI (hlB (hlp A i j x)))), some (.int (pI ((hlp A i j x).map Prod.snd))), some (.int (nI x)), l7] [] h1 Q := by
          refine loop_up ?_ ?_
          · intro h1 l7 hc1 ho1
            obtain ⟨g5, i0, iS, iT, iR, iP, iK, iG, iO⟩ := CI.facts hc1
            obtain ⟨_, _, _, _, _, _, hgT, -⟩ := hc1.2.2.1.facts
            have hge : nI (A 7 0) ≤ nI (A 7 0) := nI_le (Nat.le_refl _) (by omega)
            have hv : pI ((hlp A i j (A 7 0)).map Prod.snd) = nI (hlV (hlp A i j (A 7 0))) := by
              obtain ⟨x, hx⟩ : ∃ x, A 7 0 = x + 1 := ⟨A 7 0 - 1, by omega⟩
              rw [hx]
              unfold hlp
              split
              · rfl
              · split <;> rfl
            rw [s60_40]
            by_cases hu : u = 0
            · rw [if_pos hu] at k
              subst hu
              simp (disch := first | assumption | exact wn2_i | exact wn2_r | exact wn2_n | exact Nat.le_of_ble_eq_true rfl | omega | (refine nI_z ?_ ?_ <;> omega)) only [s60_42, s60_43, s60_46, s60_49, s60_52, s60_53, s60_55, s60_56, s60_57, s60_60, s60_62, s60_64, s60_66, s60_69, s60_71, s60_73, s60_75, s60_77, s60_80, s60_83, s60_84, s60_87, s60_89, s60_92, s60_94, wX_some, Option.toList_some, Option.toList_none, List.cons_append, List.nil_append, List.map_cons, List.map_nil, List.sum_cons, List.sum_nil, Value.category, wn2_i, wn2_r, wn2_n, Option.isSome_some, List.getElem?_cons_zero, List.getElem?_cons_succ, nI_add, nI_rem2, g5, hgT, hge, if_true, nI_eq0]
              exact k h1 hc1 ho1
            · rw [if_neg hu] at k
              have hu0 : (nI u = 0) ↔ False := ⟨fun e => hu ((nI_eq0 (by omega)).mp e), False.elim⟩
              simp (disch := first | assumption | exact wn2_i | exact wn2_r | exact wn2_n | exact Nat.le_of_ble_eq_true rfl | omega | (refine nI_z ?_ ?_ <;> omega)) only [s60_42, s60_43, s60_46, s60_49, s60_52, s60_53, s60_55, s60_56, s60_57, s60_60, s60_62, s60_64, s60_66, s60_69, s60_71, s60_73, s60_75, s60_77, s60_80, s60_83, s60_84, s60_87, s60_89, s60_92, s60_94, wX_some, Option.toList_some, Option.toList_none, List.cons_append, List.nil_append, List.map_cons, List.map_nil, List.sum_cons, List.sum_nil, Value.category, wn2_i, wn2_r, wn2_n, Option.isSome_some, List.getElem?_cons_zero, List.getElem?_cons_succ, nI_add, nI_rem2, g5, hgT, hge, if_true, hu0, if_false]
              rw [hv]
              exact k h1 hc1 ho1
          · intro x hx ih h1 l7 hc1 ho1
            obtain ⟨g5, i0, iS, iT, iR, iP, iK, iG, iO⟩ := CI.facts hc1
            obtain ⟨_, _, _, _, _, _, hgT, -⟩ := hc1.2.2.1.facts
            have hge : ¬ nI (A 7 0) ≤ nI x := nI_ge hx (by omega)
            rw [s60_40]
            simp (disch := first | assumption | exact wn2_i | exact wn2_r | exact wn2_n | exact Nat.le_of_ble_eq_true rfl | omega | (refine nI_z ?_ ?_ <;> omega)) only [s60_42, s60_43, s60_46, s60_49, s60_52, s60_53, s60_55, s60_56, s60_57, wX_some, Option.toList_some, Option.toList_none, List.cons_append, List.nil_append, List.map_cons, List.map_nil, List.sum_cons, List.sum_nil, Value.category, wn2_i, wn2_r, wn2_n, Option.isSome_some, List.getElem?_cons_zero, List.getElem?_cons_succ, nI_add, nI_rem2, g5, hgT, hge, if_false]
            refine c_helped hc1 hAG0 hq hx (by omega) (by omega) (fun h2 hc2 ho2 => ?_)
            have hu9 := hlU_le (g := i) (n := j) (s := x) hAG0
            have e9 : hlp A i j (x + 1) = match hlp A i j x with
              | none => some (x, hlU A i j x)
              | some (b, u) => if u < hlU A i j x then some (x, hlU A i j x) else some (b, u) := rfl
            rw [e9] at ih
            cases hp : hlp A i j x with
            | none =>
              rw [hp] at ih
              have n1 : ¬ nI (hlU A i j x) ≤ -1 := by
                rw [Int32.le_iff_toInt_le, nI_toInt (by omega)]
                have : (-1 : Int32).toInt = -1 := rfl
                omega
              simp (disch := first | assumption | exact wn2_i | exact wn2_r | exact wn2_n | exact Nat.le_of_ble_eq_true rfl | omega | (refine nI_z ?_ ?_ <;> omega)) only [s60_60, s60_62, s60_64, s60_66, s60_69, s60_71, s60_73, s60_75, s60_77, s60_80, wX_some, Option.toList_some, Option.toList_none, List.cons_append, List.nil_append, List.map_cons, List.map_nil, List.sum_cons, List.sum_nil, Value.category, wn2_i, wn2_r, wn2_n, Option.isSome_some, List.getElem?_cons_zero, List.getElem?_cons_succ, nI_add, nI_rem2, Option.map_none, pI, n1, if_false]
              exact ih h2 _ hc2 (ho1.tr ho2)
            | some bu =>
              obtain ⟨b, v⟩ := bu
              rw [hp] at ih
              have hb9 := hlp_le hAG0 _ _ _ hp
              dsimp only at ih
              by_cases hlt : v < hlU A i j x
              · rw [if_pos hlt] at ih
                have n1 : ¬ nI (hlU A i j x) ≤ nI v := nI_ge hlt (by omega)
                simp (disch := first | assumption | exact wn2_i | exact wn2_r | exact wn2_n | exact Nat.le_of_ble_eq_true rfl | omega | (refine nI_z ?_ ?_ <;> omega)) only [s60_60, s60_62, s60_64, s60_66, s60_69, s60_71, s60_73, s60_75, s60_77, s60_80, wX_some, Option.toList_some, Option.toList_none, List.cons_append, List.nil_append, List.map_cons, List.map_nil, List.sum_cons, List.sum_nil, Value.category, wn2_i, wn2_r, wn2_n, Option.isSome_some, List.getElem?_cons_zero, List.getElem?_cons_succ, nI_add, nI_rem2, Option.map_some, pI, n1, if_false]
                exact ih h2 _ hc2 (ho1.tr ho2)
              · rw [if_neg hlt] at ih
                have n1 : nI (hlU A i j x) ≤ nI v := nI_le (by omega) (by omega)
                simp (disch := first | assumption | exact wn2_i | exact wn2_r | exact wn2_n | exact Nat.le_of_ble_eq_true rfl | omega | (refine nI_z ?_ ?_ <;> omega)) only [s60_60, s60_62, s60_64, s60_66, s60_69, s60_71, s60_73, s60_75, s60_77, s60_80, wX_some, Option.toList_some, Option.toList_none, List.cons_append, List.nil_append, List.map_cons, List.map_nil, List.sum_cons, List.sum_nil, Value.category, wn2_i, wn2_r, wn2_n, Option.isSome_some, List.getElem?_cons_zero, List.getElem?_cons_succ, nI_add, nI_rem2, Option.map_some, pI, n1, if_true]
                exact ih h2 _ hc2 (ho1.tr ho2)
        simp (disch := first | assumption | exact wn2_i | exact wn2_r | exact wn2_n | exact Nat.le_of_ble_eq_true rfl | omega | (refine nI_z ?_ ?_ <;> omega)) only [s60_0, s60_1, s60_2, s60_4, s60_7, s60_10, s60_11, s60_12, s60_14, s60_17, s60_20, s60_21, s60_22, s60_23, s60_26, s60_29, s60_30, s60_31, s60_32, s60_34, s60_35, s60_37, s60_38, wX_some, Option.toList_some, Option.toList_none, List.cons_append, List.nil_append, List.map_cons, List.map_nil, List.sum_cons, List.sum_nil, Value.category, wn2_i, wn2_r, wn2_n, Option.isSome_some, List.getElem?_cons_zero, List.getElem?_cons_succ, nI_add, nI_rem2, hr, hr2, hr3, within_rng, if_false, nI_eq0, if_true, Nat.reduceEqDiff]
        exact key 0 (by omega) h _ hc0 Off.rf
theorem obL_some {A : AS} {n : Nat} : ∀ f t m b, ∃ v, (obL A n f t m b).1 = some v := by
  intro f
  have isS : ∀ (m : Option Nat) (b : List Nat) u t, ∃ v, (if btr m u then (some u, t) else (m, b)).1 = some v := by
    intro m b u t
    cases m with
    | none => exact ⟨u, rfl⟩
    | some v =>
      by_cases hb : btr (some v) u = true
      · exact ⟨u, by rw [if_pos hb]⟩
      · exact ⟨v, by rw [if_neg hb]⟩
  induction f with
  | zero => intro t m b; exact isS _ _ _ _
  | succ f ih =>
    intro t m b
    unfold obL
    split
    · exact isS _ _ _ _
    · exact ih _ _ _
theorem c_order (hc : CIS h S) (hg : GIS S) {n j : Int32} {l3 : Option Value} (k : ∀ h1, CIS h1 (op_order n j S).2 → Off h h1 0 97 → Q (some (.int (op_order n j S).1)) h1) : WP sc 58 0 [some (.ref 0), some (.int n), some (.int j), l3] [] h Q := by
  obtain ⟨⟨T, m⟩, A, U, K, L⟩ := S
  have lay := cLay
  have hc : CI h T m A U K L := hc
  have hg : GI m A U K L := hg
  have hc0 := hc
  obtain ⟨g5, i0, iS, iT, iR, iP, iK, iG, iO⟩ := CI.facts hc
  obtain ⟨-, hAG, hq, -⟩ := hg
  have hAG0 := hAG
  obtain ⟨⟨G1, G2⟩, ⟨G3, G4⟩, G5, G6, G7⟩ := hAG
  have hw := fun Q x => hasWork_rng (sc := sc) (Q := Q) hc.2.2.1 G3 G4 (x := x)
  unfold op_order inW at k
  dsimp only at k
  cases hr : rng 1 40 n with
  | false =>
    rw [hr, Bool.false_and, if_neg (by decide)] at k
    simp (disch := first | assumption | exact wn2_i | exact wn2_r | exact wn2_n | exact Nat.le_of_ble_eq_true rfl | omega | (refine nI_z ?_ ?_ <;> omega)) only [s58_0, s58_1, s58_2, s58_4, s58_7, s58_10, s58_11, s58_12, s58_15, s58_16, s58_19, s58_20, s58_23, s58_26, s58_27, s58_28, s58_29, s58_32, s58_33, s58_36, s58_37, s58_40, s58_41, s58_44, s58_45, s58_46, s58_47, s58_50, s58_51, s58_54, s58_55, s58_58, s58_61, s58_62, s58_63, wX_some, Option.toList_some, Option.toList_none, List.cons_append, List.nil_append, List.map_cons, List.map_nil, List.sum_cons, List.sum_nil, Value.category, wn2_i, wn2_r, wn2_n, Option.isSome_some, List.getElem?_cons_zero, List.getElem?_cons_succ, nI_add, nI_rem2, within_rng, hr, Bool.false_eq_true, if_false, nI_eq0, if_true]
    exact k h hc0 Off.rf
  | true =>
    obtain ⟨i, i1, i2, rfl⟩ := rng_nI (by omega) hr
    rw [hr, Bool.true_and, nat_nI (by omega)] at k
    obtain ⟨h0, hs, hT, ⟨B, hR⟩, hP, hK, hG, ⟨t, be, htb, hO⟩⟩ := hc
    have fb := fun Q l4 l5 l6 l7 kk => findBest_wp (sc := sc) (Q := Q) (l4 := l4) (l5 := l5) (l6 := l6) (l7 := l7) hO htb hT ⟨B, hR⟩ hAG0 (n := i) (by omega) (by omega) (by omega) (by omega) (by omega) kk
    have upd : ∀ h1 t' be', TB t' → OA h1 cO t' be' → (∃ B, TA h1 cR B) → OffX h h1 (fun i => (cO ≤ i ∧ i < cO + 3) ∨ (cR ≤ i ∧ i < cR + 7)) → CI h1 T m A U K L ∧ Off h h1 0 97 := by
      intro h1 t' be' x1 x2 x3 hx
      obtain ⟨p', hs⟩ := hs
      exact ⟨⟨(hx.2 0 (by omega)).trans h0, ⟨p', hs.offX hx (fun i x1 x2 => by omega)⟩, hT.offX hx (fun i x1 x2 => by omega), x3, hP.offX hx (fun i x1 x2 => by omega), hK.offX hx (fun i x1 x2 => by omega), hG.offX hx (fun i x1 x2 => by omega), ⟨t', be', x1, x2⟩⟩, hx.off (fun i hi => by omega)⟩
    by_cases hj : j = -1
    · rw [decide_eq_true hj, Bool.true_or, if_pos rfl, if_pos hj] at k
      subst hj
      simp (disch := first | assumption | exact wn2_i | exact wn2_r | exact wn2_n | exact Nat.le_of_ble_eq_true rfl | omega | (refine nI_z ?_ ?_ <;> omega)) only [s58_0, s58_1, s58_2, s58_4, s58_7, s58_10, s58_11, s58_12, s58_15, s58_16, s58_19, s58_20, s58_23, s58_26, s58_27, s58_28, s58_29, s58_32, s58_33, s58_36, s58_37, s58_40, s58_41, wX_some, Option.toList_some, Option.toList_none, List.cons_append, List.nil_append, List.map_cons, List.map_nil, List.sum_cons, List.sum_nil, Value.category, wn2_i, wn2_r, wn2_n, Option.isSome_some, List.getElem?_cons_zero, List.getElem?_cons_succ, nI_add, nI_rem2, g5, hr, within_rng, if_false, nI_eq0, if_true, Nat.reduceEqDiff]
      refine fb _ _ _ _ _ (fun h1 t' x1 x2 x3 x4 => ?_)
      obtain ⟨hc1, ho1⟩ := upd h1 _ _ x1 x2 x3 x4
      simp (disch := first | assumption | exact wn2_i | exact wn2_r | exact wn2_n | exact Nat.le_of_ble_eq_true rfl | omega | (refine nI_z ?_ ?_ <;> omega)) only [s58_44, s58_45, s58_46, s58_47, s58_50, s58_51, s58_54, s58_55, s58_58, s58_61, s58_62, s58_63, wX_some, Option.toList_some, Option.toList_none, List.cons_append, List.nil_append, List.map_cons, List.map_nil, List.sum_cons, List.sum_nil, Value.category, wn2_i, wn2_r, wn2_n, Option.isSome_some, List.getElem?_cons_zero, List.getElem?_cons_succ, nI_add, nI_rem2, if_true]
      exact k h1 hc1 ho1
    · rw [decide_eq_false hj, Bool.false_or] at k
      cases hr2 : rng 0 (A 7 1 - 1) j with
      | false =>
        rw [hr2, if_neg (by decide)] at k
        simp (disch := first | assumption | exact wn2_i | exact wn2_r | exact wn2_n | exact Nat.le_of_ble_eq_true rfl | omega | (refine nI_z ?_ ?_ <;> omega)) only [s58_0, s58_1, s58_2, s58_4, s58_7, s58_10, s58_11, s58_12, s58_15, s58_16, s58_19, s58_20, s58_23, s58_26, s58_27, s58_28, s58_29, s58_32, s58_33, s58_36, s58_37, s58_40, s58_41, s58_44, s58_45, s58_46, s58_47, s58_50, s58_51, s58_54, s58_55, s58_58, s58_61, s58_62, s58_63, wX_some, Option.toList_some, Option.toList_none, List.cons_append, List.nil_append, List.map_cons, List.map_nil, List.sum_cons, List.sum_nil, Value.category, wn2_i, wn2_r, wn2_n, Option.isSome_some, List.getElem?_cons_zero, List.getElem?_cons_succ, nI_add, nI_rem2, g5, hw, hr, hr2, hj, within_rng, Bool.false_eq_true, if_false, nI_eq0, if_true, Nat.reduceEqDiff]
        exact k h hc0 Off.rf
      | true =>
        rw [hr2, if_pos rfl, if_neg hj] at k
        obtain ⟨u, u1, u2, rfl⟩ := rng_nI (by omega) hr2
        rw [nat_nI (by omega)] at k
        simp (disch := first | assumption | exact wn2_i | exact wn2_r | exact wn2_n | exact Nat.le_of_ble_eq_true rfl | omega | (refine nI_z ?_ ?_ <;> omega)) only [s58_0, s58_1, s58_2, s58_4, s58_7, s58_10, s58_11, s58_12, s58_15, s58_16, s58_19, s58_20, s58_23, s58_26, s58_27, s58_28, s58_29, s58_32, s58_33, s58_36, s58_37, s58_40, s58_41, wX_some, Option.toList_some, Option.toList_none, List.cons_append, List.nil_append, List.map_cons, List.map_nil, List.sum_cons, List.sum_nil, Value.category, wn2_i, wn2_r, wn2_n, Option.isSome_some, List.getElem?_cons_zero, List.getElem?_cons_succ, nI_add, nI_rem2, g5, hw, hr, hr2, hj, within_rng, if_false, nI_eq0, if_true, Nat.reduceEqDiff]
        refine fb _ _ _ _ _ (fun h1 t' x1 x2 x3 x4 => ?_)
        obtain ⟨hc1, ho1⟩ := upd h1 _ _ x1 x2 x3 x4
        obtain ⟨g5, -⟩ := CI.facts hc1
        have hgO := g_obj x2.1
        have hb := a_arr x2.2.2.1
        have hbl := x2.2.2.2
        simp (disch := first | assumption | exact wn2_i | exact wn2_r | exact wn2_n | exact Nat.le_of_ble_eq_true rfl | omega | (refine nI_z ?_ ?_ <;> omega)) only [s58_44, s58_45, s58_46, s58_47, s58_50, s58_51, s58_54, s58_55, s58_58, s58_61, s58_62, s58_63, wX_some, Option.toList_some, Option.toList_none, List.cons_append, List.nil_append, List.map_cons, List.map_nil, List.sum_cons, List.sum_nil, Value.category, wn2_i, wn2_r, wn2_n, Option.isSome_some, List.getElem?_cons_zero, List.getElem?_cons_succ, nI_add, nI_rem2, hj, if_false, g5, hgO, hb, hbl, iat_n, mp_get]
        exact k h1 hc1 ho1
end CQ3

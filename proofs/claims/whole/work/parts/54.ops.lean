-- MayorsChair's calls: likely
section CQ6
variable {sc : List Int32} {h : List ms_C} {Q : Option Value → List ms_C → Prop} {S : GS}
theorem c_behindW {T : Nat → Nat} {m : Nat} {A : AS} {U K : List AS} {L : List (Nat × Nat)} (hc : CI h T m A U K L) (hAG0 : AG A) (hq : A 4 0 ≤ 999) {w n : Nat} (hw : w < 256) (hn : n ≤ 8) (hn1 : 1 ≤ n) {l3 : Option Value} (k : ∀ h1, CI h1 T m A U K L → Off h h1 0 97 → Q (some (.int (chI (chW A w n 4 2)))) h1) : WP sc 67 0 [some (.ref 0), some (.int (nI w)), some (.int (nI n)), l3] [] h Q := by
  have lay := cLay
  obtain ⟨g5, i0, iS, iT, iR, iP, iK, iG, iO⟩ := CI.facts hc
  have key : ∀ i, i ≤ n → ∀ h1, CI h1 T m A U K L → TA h1 cR (chW A w i) → Off h h1 0 97 → WP sc 67 13 [some (.ref 0), some (.int (nI w)), some (.int (nI n)), some (.int (nI i))] [] h1 Q := by
    refine loop_up ?_ ?_
    · intro h1 hc1 hT1 ho1
      obtain ⟨g5, i0, iS, iT, iR, iP, iK, iG, iO⟩ := CI.facts hc1
      obtain ⟨_, _, _, _, _, _, hgT, -⟩ := hT1.facts
      have hge : nI n ≤ nI n := nI_le (Nat.le_refl _) (by omega)
      rw [s67_13]
      simp (disch := first | assumption | exact wn2_i | exact wn2_r | exact wn2_n | exact Nat.le_of_ble_eq_true rfl | omega | (refine nI_z ?_ ?_ <;> omega)) only [s67_14, s67_15, s67_45, s67_46, s67_49, s67_52, wX_some, Option.toList_some, Option.toList_none, List.cons_append, List.nil_append, List.map_cons, List.map_nil, List.sum_cons, List.sum_nil, Value.category, wn2_i, wn2_r, wn2_n, Option.isSome_some, List.getElem?_cons_zero, List.getElem?_cons_succ, nI_add, nI_rem2, hge, if_true, g5, hgT]
      exact k h1 hc1 ho1
    · intro i hi ih h1 hc1 hT1 ho1
      obtain ⟨g5, i0, iS, iT, iR, iP, iK, iG, iO⟩ := CI.facts hc1
      have hge : ¬ nI n ≤ nI i := nI_ge hi (by omega)
      have hb := bit_n w hw i (by omega)
      obtain ⟨d1, d2, d3⟩ := chW_ag (w := w) hAG0 i
      have ih2 : ∀ h1, CI h1 T m A U K L → TA h1 cR (nqA (chW A w i) (w.testBit i)) → Off h h1 0 97 → WP sc 67 13 [some (.ref 0), some (.int (nI w)), some (.int (nI n)), some (.int (nI (i + 1)))] [] h1 Q := ih
      rw [s67_13]
      cases hz : w.testBit i with
      | true =>
        rw [hz, if_pos rfl] at hb
        rw [hz] at ih2
        simp (disch := first | assumption | exact wn2_i | exact wn2_r | exact wn2_n | exact Nat.le_of_ble_eq_true rfl | omega | (refine nI_z ?_ ?_ <;> omega)) only [s67_14, s67_15, s67_18, s67_19, s67_22, s67_23, s67_24, s67_25, s67_26, s67_27, s67_28, s67_31, s67_32, s67_35, s67_36, wX_some, Option.toList_some, Option.toList_none, List.cons_append, List.nil_append, List.map_cons, List.map_nil, List.sum_cons, List.sum_nil, Value.category, wn2_i, wn2_r, wn2_n, Option.isSome_some, List.getElem?_cons_zero, List.getElem?_cons_succ, nI_add, nI_rem2, hge, if_false, g5, hb, if_true]
        refine c_nq (lost := true) hc1 hT1 d1 (by rw [d3]; omega) (fun h3 hc3 hT3 ho3 => ?_)
        simp (disch := first | assumption | exact wn2_i | exact wn2_r | exact wn2_n | exact Nat.le_of_ble_eq_true rfl | omega | (refine nI_z ?_ ?_ <;> omega)) only [s67_39, s67_42, wX_some, Option.toList_some, Option.toList_none, List.cons_append, List.nil_append, List.map_cons, List.map_nil, List.sum_cons, List.sum_nil, Value.category, wn2_i, wn2_r, wn2_n, Option.isSome_some, List.getElem?_cons_zero, List.getElem?_cons_succ, nI_add, nI_rem2]
        exact ih2 h3 hc3 hT3 (ho1.tr ho3)
      | false =>
        rw [hz, if_neg (by decide)] at hb
        rw [hz] at ih2
        have n01 : ¬ nI 0 = nI 1 := by decide
        simp (disch := first | assumption | exact wn2_i | exact wn2_r | exact wn2_n | exact Nat.le_of_ble_eq_true rfl | omega | (refine nI_z ?_ ?_ <;> omega)) only [s67_14, s67_15, s67_18, s67_19, s67_22, s67_23, s67_24, s67_25, s67_26, s67_27, s67_28, s67_31, s67_32, s67_35, s67_36, wX_some, Option.toList_some, Option.toList_none, List.cons_append, List.nil_append, List.map_cons, List.map_nil, List.sum_cons, List.sum_nil, Value.category, wn2_i, wn2_r, wn2_n, Option.isSome_some, List.getElem?_cons_zero, List.getElem?_cons_succ, nI_add, nI_rem2, hge, if_false, g5, hb, n01]
        refine c_nq (lost := false) hc1 hT1 d1 (by rw [d3]; omega) (fun h3 hc3 hT3 ho3 => ?_)
        simp (disch := first | assumption | exact wn2_i | exact wn2_r | exact wn2_n | exact Nat.le_of_ble_eq_true rfl | omega | (refine nI_z ?_ ?_ <;> omega)) only [s67_39, s67_42, wX_some, Option.toList_some, Option.toList_none, List.cons_append, List.nil_append, List.map_cons, List.map_nil, List.sum_cons, List.sum_nil, Value.category, wn2_i, wn2_r, wn2_n, Option.isSome_some, List.getElem?_cons_zero, List.getElem?_cons_succ, nI_add, nI_rem2]
        exact ih2 h3 hc3 hT3 (ho1.tr ho3)
  simp (disch := first | assumption | exact wn2_i | exact wn2_r | exact wn2_n | exact Nat.le_of_ble_eq_true rfl | omega | (refine nI_z ?_ ?_ <;> omega)) only [s67_0, s67_1, s67_4, s67_5, s67_8, wX_some, Option.toList_some, Option.toList_none, List.cons_append, List.nil_append, List.map_cons, List.map_nil, List.sum_cons, List.sum_nil, Value.category, wn2_i, wn2_r, wn2_n, Option.isSome_some, List.getElem?_cons_zero, List.getElem?_cons_succ, nI_add, nI_rem2, g5]
  refine c_cop hc hAG0 (fun h1 hc1 hT1 ho1 => ?_)
  simp (disch := first | assumption | exact wn2_i | exact wn2_r | exact wn2_n | exact Nat.le_of_ble_eq_true rfl | omega | (refine nI_z ?_ ?_ <;> omega)) only [s67_11, s67_12, wX_some, Option.toList_some, Option.toList_none, List.cons_append, List.nil_append, List.map_cons, List.map_nil, List.sum_cons, List.sum_nil, Value.category, wn2_i, wn2_r, wn2_n, Option.isSome_some, List.getElem?_cons_zero, List.getElem?_cons_succ, nI_add, nI_rem2]
  exact key 0 (by omega) h1 hc1 hT1 ho1
theorem chW_ch {A : AS} {w n : Nat} (h : AG A) (hn : 1 ≤ n) : ∃ c, c < A 7 0 ∧ chW A w n 4 2 = c + 1 := by
  obtain ⟨i, rfl⟩ : ∃ i, n = i + 1 := ⟨n - 1, by omega⟩
  obtain ⟨d1, d2, d3⟩ := chW_ag (w := w) h i
  have := whoA_lt (l := w.testBit i) d1
  rw [d2] at this
  exact ⟨_, this, rfl⟩
theorem c_likely (hc : CIS h S) (hg : GIS S) {s n x p : Int32} {l5 l6 l7 : Option Value} (k : ∀ h1, CIS h1 (op_likely s n x p S).2 → Off h h1 0 97 → Q (some (.int (op_likely s n x p S).1)) h1) : WP sc 66 0 [some (.ref 0), some (.int s), some (.int n), some (.int x), some (.int p), l5, l6, l7] [] h Q := by
  obtain ⟨⟨T, m⟩, A, U, K, L⟩ := S
  have lay := cLay
  have hc : CI h T m A U K L := hc
  have hg : GI m A U K L := hg
  have hc0 := hc
  obtain ⟨g5, i0, iS, iT, iR, iP, iK, iG, iO⟩ := CI.facts hc
  obtain ⟨-, hAG, hq, -⟩ := hg
  have hAG0 := hAG
  obtain ⟨⟨G1, G2⟩, ⟨G3, G4⟩, G5, G6, G7⟩ := hAG
  have hw := fun Q x => hasStreet_rng (sc := sc) (Q := Q) hc.2.2.1 (by omega) G2 (x := x)
  unfold op_likely inS at k
  dsimp only at k
  cases hr : rng 0 (A 7 0 - 1) s with
  | false =>
    rw [hr, Bool.false_and, Bool.false_and, Bool.false_and, if_neg (by decide)] at k
    simp (disch := first | assumption | exact wn2_i | exact wn2_r | exact wn2_n | exact Nat.le_of_ble_eq_true rfl | omega | (refine nI_z ?_ ?_ <;> omega)) only [s66_0, s66_1, s66_4, s66_5, s66_8, s66_11, s66_12, s66_13, s66_15, s66_18, s66_21, s66_22, s66_23, s66_25, s66_28, s66_31, s66_33, s66_34, s66_35, s66_38, s66_41, s66_42, wX_some, Option.toList_some, Option.toList_none, List.cons_append, List.nil_append, List.map_cons, List.map_nil, List.sum_cons, List.sum_nil, Value.category, wn2_i, wn2_r, wn2_n, Option.isSome_some, List.getElem?_cons_zero, List.getElem?_cons_succ, nI_add, nI_rem2, g5, hw, hr, Bool.false_eq_true, if_false, nI_eq0, if_true]
    exact k h hc0 Off.rf
  | true =>
    cases hr2 : rng 1 8 n with
    | false =>
      rw [hr2, Bool.and_false, Bool.false_and, Bool.false_and, if_neg (by decide)] at k
      simp (disch := first | assumption | exact wn2_i | exact wn2_r | exact wn2_n | exact Nat.le_of_ble_eq_true rfl | omega | (refine nI_z ?_ ?_ <;> omega)) only [s66_0, s66_1, s66_4, s66_5, s66_8, s66_11, s66_12, s66_13, s66_15, s66_18, s66_21, s66_22, s66_23, s66_25, s66_28, s66_31, s66_33, s66_34, s66_35, s66_38, s66_41, s66_42, wX_some, Option.toList_some, Option.toList_none, List.cons_append, List.nil_append, List.map_cons, List.map_nil, List.sum_cons, List.sum_nil, Value.category, wn2_i, wn2_r, wn2_n, Option.isSome_some, List.getElem?_cons_zero, List.getElem?_cons_succ, nI_add, nI_rem2, g5, hw, hr, hr2, within_rng, Bool.false_eq_true, if_false, nI_eq0, if_true, Nat.reduceEqDiff]
      exact k h hc0 Off.rf
    | true =>
      cases hr3 : rng 0 10 x with
      | false =>
        rw [hr3, Bool.and_false, Bool.false_and, if_neg (by decide)] at k
        simp (disch := first | assumption | exact wn2_i | exact wn2_r | exact wn2_n | exact Nat.le_of_ble_eq_true rfl | omega | (refine nI_z ?_ ?_ <;> omega)) only [s66_0, s66_1, s66_4, s66_5, s66_8, s66_11, s66_12, s66_13, s66_15, s66_18, s66_21, s66_22, s66_23, s66_25, s66_28, s66_31, s66_33, s66_34, s66_35, s66_38, s66_41, s66_42, wX_some, Option.toList_some, Option.toList_none, List.cons_append, List.nil_append, List.map_cons, List.map_nil, List.sum_cons, List.sum_nil, Value.category, wn2_i, wn2_r, wn2_n, Option.isSome_some, List.getElem?_cons_zero, List.getElem?_cons_succ, nI_add, nI_rem2, g5, hw, hr, hr2, hr3, within_rng, Bool.false_eq_true, if_false, nI_eq0, if_true, Nat.reduceEqDiff]
        exact k h hc0 Off.rf
      | true =>
        cases hr4 : rng 0 1 p with
        | false =>
          rw [hr4, Bool.and_false, if_neg (by decide)] at k
          simp (disch := first | assumption | exact wn2_i | exact wn2_r | exact wn2_n | exact Nat.le_of_ble_eq_true rfl | omega | (refine nI_z ?_ ?_ <;> omega)) only [s66_0, s66_1, s66_4, s66_5, s66_8, s66_11, s66_12, s66_13, s66_15, s66_18, s66_21, s66_22, s66_23, s66_25, s66_28, s66_31, s66_33, s66_34, s66_35, s66_38, s66_41, s66_42, wX_some, Option.toList_some, Option.toList_none, List.cons_append, List.nil_append, List.map_cons, List.map_nil, List.sum_cons, List.sum_nil, Value.category, wn2_i, wn2_r, wn2_n, Option.isSome_some, List.getElem?_cons_zero, List.getElem?_cons_succ, nI_add, nI_rem2, g5, hw, hr, hr2, hr3, hr4, within_rng, Bool.false_eq_true, if_false, nI_eq0, if_true, Nat.reduceEqDiff]
          exact k h hc0 Off.rf
        | true =>
          rw [hr, hr2, hr3, hr4, Bool.and_true, Bool.and_true, Bool.and_true, if_pos rfl] at k
          obtain ⟨i, i1, i2, rfl⟩ := rng_nI (by omega) hr
          obtain ⟨j, j1, j2, rfl⟩ := rng_nI (by omega) hr2
          obtain ⟨u, u1, u2, rfl⟩ := rng_nI (by omega) hr3
          obtain ⟨v, v1, v2, rfl⟩ := rng_nI (by omega) hr4
          rw [nat_nI (by omega), nat_nI (by omega), nat_nI (by omega), nat_nI (by omega)] at k
          have hsh := shl_n j (by omega)
          have h2 := two_le j2
          have h10 := ten_le j2
          have key : ∀ y, y ≤ 2 ^ j → ∀ h1 l7, CI h1 T m A U K L → Off h h1 0 97 → WP sc 66 49 [some (.ref 0), some (.int (nI i)), some (.int (nI j)), some (.int (nI u)), some (.int (nI v)), some (.int (nI (abv A i j u y))), some (.int (nI y)), l7] [] h1 Q := by
            refine loop_up ?_ ?_
            · intro h1 l7 hc1 ho1
              have hge : nI (2 ^ j) ≤ nI (2 ^ j) := nI_le (Nat.le_refl _) (by omega)
              have hab := abv_ten (A := A) (s := i) (x := u) j2 u2 (Nat.le_refl (2 ^ j))
              have hgp : 1 ≤ Nat.gcd (10 ^ j) (abv A i j u (2 ^ j)) := Nat.gcd_pos_of_pos_left _ h10.1
              have hgl : Nat.gcd (10 ^ j) (abv A i j u (2 ^ j)) ≤ 10 ^ j := Nat.gcd_le_left _ h10.1
              have hpw := fun Q l2 l3 => power_wp (sc := sc) (h := h1) (Q := Q) (b := 10) (n := j) (l2 := l2) (l3 := l3) (by omega)
              have hgc := fun Q l2 l3 l4 l5 => gcd_wp (sc := sc) (h := h1) (Q := Q) (a := 10 ^ j) (b := abv A i j u (2 ^ j)) (l2 := l2) (l3 := l3) (l4 := l4) (l5 := l5) (by omega) (by omega)
              have kk := k h1 hc1 ho1
              rw [s66_49]
              revert kk hab hgp hgl hgc
              generalize abv A i j u (2 ^ j) = ab
              intro hab hgp hgl hgc kk
              revert hpw kk hab hgp hgl hgc
              revert h10
              generalize 10 ^ j = te
              intro h10 hpw hab hgp hgl hgc kk
              revert kk hgp hgl hgc
              generalize Nat.gcd te ab = gg
              intro hgp hgl hgc kk
              have n1 : ¬ nI gg < nI 1 := nI_nlt hgp (by omega)
              have n2 : ¬ nI gg = 0 := nI_z hgp (by omega)
              have q1 : nI ab / nI gg = nI (ab / gg) := nI_div (by omega) hgp (by omega)
              have q2 : nI te / nI gg = nI (te / gg) := nI_div (by omega) hgp (by omega)
              by_cases hv : v = 0
              · rw [if_pos hv] at kk
                have e1 : (nI v = 0) ↔ True := ⟨fun _ => trivial, fun _ => (nI_eq0 (by omega)).mpr hv⟩
                simp (disch := first | assumption | exact wn2_i | exact wn2_r | exact wn2_n | exact Nat.le_of_ble_eq_true rfl | omega | (refine nI_z ?_ ?_ <;> omega)) only [s66_51, s66_52, s66_53, s66_54, s66_104, s66_106, s66_107, s66_110, s66_112, s66_114, s66_116, s66_119, s66_121, s66_123, s66_126, s66_128, s66_131, s66_133, s66_135, s66_136, s66_139, s66_140, wX_some, Option.toList_some, Option.toList_none, List.cons_append, List.nil_append, List.map_cons, List.map_nil, List.sum_cons, List.sum_nil, Value.category, wn2_i, wn2_r, wn2_n, Option.isSome_some, List.getElem?_cons_zero, List.getElem?_cons_succ, nI_add, nI_rem2, hsh, hge, if_true, hpw, hgc, e1, n1, if_false, q1, n2, not_false_eq_true]
                exact kk
              · rw [if_neg hv] at kk
                have e1 : (nI v = 0) ↔ False := ⟨fun e => hv ((nI_eq0 (by omega)).mp e), False.elim⟩
                simp (disch := first | assumption | exact wn2_i | exact wn2_r | exact wn2_n | exact Nat.le_of_ble_eq_true rfl | omega | (refine nI_z ?_ ?_ <;> omega)) only [s66_51, s66_52, s66_53, s66_54, s66_104, s66_106, s66_107, s66_110, s66_112, s66_114, s66_116, s66_119, s66_121, s66_123, s66_126, s66_128, s66_131, s66_133, s66_135, s66_136, s66_139, s66_140, wX_some, Option.toList_some, Option.toList_none, List.cons_append, List.nil_append, List.map_cons, List.map_nil, List.sum_cons, List.sum_nil, Value.category, wn2_i, wn2_r, wn2_n, Option.isSome_some, List.getElem?_cons_zero, List.getElem?_cons_succ, nI_add, nI_rem2, hsh, hge, if_true, hpw, hgc, e1, n1, if_false, q2, n2, not_false_eq_true]
                exact kk
            · intro y hy ih h1 l7 hc1 ho1
              have hge : ¬ nI (2 ^ j) ≤ nI y := nI_ge hy (by omega)
              obtain ⟨g5, i0, iS, iT, iR, iP, iK, iG, iO⟩ := CI.facts hc1
              have ih2 : ∀ h1 l7, CI h1 T m A U K L → Off h h1 0 97 → WP sc 66 49 [some (.ref 0), some (.int (nI i)), some (.int (nI j)), some (.int (nI u)), some (.int (nI v)), some (.int (nI (abv A i j u y + if chW A y j 4 2 = i + 1 then trm u j y else 0))), some (.int (nI (y + 1))), l7] [] h1 Q := ih
              rw [s66_49]
              simp (disch := first | assumption | exact wn2_i | exact wn2_r | exact wn2_n | exact Nat.le_of_ble_eq_true rfl | omega | (refine nI_z ?_ ?_ <;> omega)) only [s66_51, s66_52, s66_53, s66_54, s66_57, s66_58, s66_60, s66_61, wX_some, Option.toList_some, Option.toList_none, List.cons_append, List.nil_append, List.map_cons, List.map_nil, List.sum_cons, List.sum_nil, Value.category, wn2_i, wn2_r, wn2_n, Option.isSome_some, List.getElem?_cons_zero, List.getElem?_cons_succ, nI_add, nI_rem2, hsh, hge, if_false]
              refine c_behindW (w := y) (n := j) hc1 hAG0 hq (by omega) j2 j1 (fun h2 hc2 ho2 => ?_)
              obtain ⟨c, hcl, hce⟩ := chW_ch (w := y) hAG0 j1
              rw [hce, chI_s]
              rw [hce] at ih2
              by_cases hci : c = i
              · rw [if_pos (by omega)] at ih2
                have e1 : (nI c = nI i) ↔ True := ⟨fun _ => trivial, fun _ => by rw [hci]⟩
                have hbc : bcI (nI y) = nI (pop y j) := by rw [bcI_8 y (by omega), pop_8 j2 hy]
                have hpl := pop_le (w := y) j
                have hs1 : nI 10 - nI u = nI (10 - u) := nI_sub u2
                have hs2 : nI j - nI (pop y j) = nI (j - pop y j) := nI_sub hpl
                have hpw1 := fun Q l2 l3 => power_wp (sc := sc) (h := h2) (Q := Q) (b := u) (n := pop y j) (l2 := l2) (l3 := l3) (by omega)
                have hpw2 := fun Q l2 l3 => power_wp (sc := sc) (h := h2) (Q := Q) (b := 10 - u) (n := j - pop y j) (l2 := l2) (l3 := l3) (by omega)
                simp (disch := first | assumption | exact wn2_i | exact wn2_r | exact wn2_n | exact Nat.le_of_ble_eq_true rfl | omega | (refine nI_z ?_ ?_ <;> omega)) only [s66_64, s66_65, s66_68, s66_70, s66_73, s66_75, s66_77, s66_78, s66_80, s66_83, s66_85, s66_86, s66_87, s66_88, s66_90, s66_91, s66_94, s66_95, s66_96, s66_98, s66_101, wX_some, Option.toList_some, Option.toList_none, List.cons_append, List.nil_append, List.map_cons, List.map_nil, List.sum_cons, List.sum_nil, Value.category, wn2_i, wn2_r, wn2_n, Option.isSome_some, List.getElem?_cons_zero, List.getElem?_cons_succ, nI_add, nI_rem2, e1, if_true, bitCount_wp, hbc, hpw1, hs1, hs2, hpw2, pk_mul]
                exact ih2 h2 _ hc2 (ho1.tr ho2)
              · rw [if_neg (by omega)] at ih2
                have e1 : (nI c = nI i) ↔ False := ⟨fun e => hci ((nI_eq (by omega) (by omega)).mp e), False.elim⟩
                simp (disch := first | assumption | exact wn2_i | exact wn2_r | exact wn2_n | exact Nat.le_of_ble_eq_true rfl | omega | (refine nI_z ?_ ?_ <;> omega)) only [s66_64, s66_65, s66_98, s66_101, wX_some, Option.toList_some, Option.toList_none, List.cons_append, List.nil_append, List.map_cons, List.map_nil, List.sum_cons, List.sum_nil, Value.category, wn2_i, wn2_r, wn2_n, Option.isSome_some, List.getElem?_cons_zero, List.getElem?_cons_succ, nI_add, nI_rem2, e1, if_false]
                exact ih2 h2 _ hc2 (ho1.tr ho2)
          simp (disch := first | assumption | exact wn2_i | exact wn2_r | exact wn2_n | exact Nat.le_of_ble_eq_true rfl | omega | (refine nI_z ?_ ?_ <;> omega)) only [s66_0, s66_1, s66_4, s66_5, s66_8, s66_11, s66_12, s66_13, s66_15, s66_18, s66_21, s66_22, s66_23, s66_25, s66_28, s66_31, s66_33, s66_34, s66_35, s66_38, s66_41, s66_42, s66_43, s66_44, s66_46, s66_47, wX_some, Option.toList_some, Option.toList_none, List.cons_append, List.nil_append, List.map_cons, List.map_nil, List.sum_cons, List.sum_nil, Value.category, wn2_i, wn2_r, wn2_n, Option.isSome_some, List.getElem?_cons_zero, List.getElem?_cons_succ, nI_add, nI_rem2, g5, hw, hr, hr2, hr3, hr4, within_rng, if_false, nI_eq0, if_true, Nat.reduceEqDiff]
          exact key 0 (Nat.zero_le _) h _ hc0 Off.rf
end CQ6

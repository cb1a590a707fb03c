-- the model's calls: likely
theorem trm_up {x k w : Nat} : trm x (k + 1) w = trm x k w * (if w.testBit k then x else 10 - x) := by
  have hp := pop_le (w := w) k
  unfold trm
  have e : pop w (k + 1) = pop w k + if w.testBit k then 1 else 0 := rfl
  rw [e]
  cases hz : w.testBit k with
  | true =>
    rw [if_pos rfl, if_pos rfl, show k + 1 - (pop w k + 1) = k - pop w k by omega, Nat.pow_succ]
    rw [Nat.mul_right_comm]
  | false =>
    rw [if_neg (by decide), if_neg (by decide), Nat.add_zero, show k + 1 - pop w k = (k - pop w k) + 1 by omega, Nat.pow_succ, Nat.mul_assoc]
section M71
variable {sc : List Int32} {h : List ms_C} {Q : Option Value → List ms_C → Prop} {o1 k1 o2 u2 : Int32} {T : Nat → Nat} {m : Nat} {A B : AS} {U K : List AS} {L : List (Nat × Nat)} {S : GS}
theorem has_wp {w i : Nat} (hw : w < 256) (hi : i < 8) : WP sc 124 0 [some (.int (nI w)), some (.int (nI i))] [] h Q ↔ Q (some (.int (if w.testBit i then nI 1 else nI 0))) h := by
  have hb := bit_n w hw i hi
  have z0 : (nI 0 = 0 ∨ nI 0 = 1) ↔ True := ⟨fun _ => trivial, fun _ => Or.inl rfl⟩
  have z1 : (nI 1 = 0 ∨ nI 1 = 1) ↔ True := ⟨fun _ => trivial, fun _ => Or.inr rfl⟩
  cases hz : w.testBit i with
  | true =>
    rw [hz, if_pos rfl] at hb
    simp (disch := first | assumption | exact wn2_i | exact wn2_r | exact wn2_n | exact Nat.le_of_ble_eq_true rfl | omega | (refine nI_z ?_ ?_ <;> omega)) only [s124_0, s124_1, s124_2, s124_3, s124_4, s124_5, s124_6, s124_9, s124_10, s124_13, s124_14, wX_some, Option.toList_some, Option.toList_none, List.cons_append, List.nil_append, List.map_cons, List.map_nil, List.sum_cons, List.sum_nil, Value.category, wn2_i, wn2_r, wn2_n, Option.isSome_some, List.getElem?_cons_zero, List.getElem?_cons_succ, nI_add, nI_rem2, hb, if_true, z1, true_and]
  | false =>
    rw [hz, if_neg (by decide)] at hb
    have n01 : ¬ nI 0 = nI 1 := by decide
    simp (disch := first | assumption | exact wn2_i | exact wn2_r | exact wn2_n | exact Nat.le_of_ble_eq_true rfl | omega | (refine nI_z ?_ ?_ <;> omega)) only [s124_0, s124_1, s124_2, s124_3, s124_4, s124_5, s124_6, s124_9, s124_10, s124_13, s124_14, wX_some, Option.toList_some, Option.toList_none, List.cons_append, List.nil_append, List.map_cons, List.map_nil, List.sum_cons, List.sum_nil, Value.category, wn2_i, wn2_r, wn2_n, Option.isSome_some, List.getElem?_cons_zero, List.getElem?_cons_succ, nI_add, nI_rem2, hb, n01, if_false, z0, true_and, Bool.false_eq_true]
theorem mgcd {l0 l1 l2 l3 l4 l5 l6 : Option Value} (w6 : wn_ok l6 = true) {l9' : Nat} (k : ∀ l9, WP sc 123 184 [l0, l1, l2, l3, l4, l5, l6, some (.int (nI l9')), some (.int (nI 0)), l9] [] h Q) : ∀ d c l9, Nat.gcd c d = l9' → c ≤ 100000000 → d ≤ 100000000 → WP sc 123 161 [l0, l1, l2, l3, l4, l5, l6, some (.int (nI c)), some (.int (nI d)), l9] [] h Q := by
  intro d
  induction d using Nat.strongRecOn with
  | ind d ih =>
    intro c l9 hg hc hd
    by_cases h0 : d = 0
    · subst h0
      rw [Nat.gcd_zero_right] at hg
      subst hg
      have := k l9
      simp (disch := first | assumption | exact wn2_i | exact wn2_r | exact wn2_n | exact Nat.le_of_ble_eq_true rfl | omega | (refine nI_z ?_ ?_ <;> omega)) only [s123_161, s123_163, wX_some, Option.toList_some, Option.toList_none, List.cons_append, List.nil_append, List.map_cons, List.map_nil, List.sum_cons, List.sum_nil, Value.category, wn2_i, wn2_r, wn2_n, Option.isSome_some, List.getElem?_cons_zero, List.getElem?_cons_succ, nI_add, nI_rem2, nI_eq0, if_true]
      exact this
    · have hd0 : 0 < d := by omega
      have e1 : (nI d = 0) ↔ False := ⟨fun e => h0 ((nI_eq0 (by omega)).mp e), False.elim⟩
      have z1 : ¬ nI d = 0 := nI_z hd0 (by omega)
      have hr1 : nI c - nI c / nI d * nI d = nI (c % d) := nI_rem (by omega) hd0 (by omega)
      have hlt : c % d < d := Nat.mod_lt _ hd0
      have := ih (c % d) hlt d (some (.int (nI (c % d)))) (by rw [← hg, Nat.gcd_comm c d, Nat.gcd_rec d c]; exact Nat.gcd_comm _ _) hd (by omega)
      rw [s123_161]
      simp (disch := first | assumption | exact wn2_i | exact wn2_r | exact wn2_n | exact Nat.le_of_ble_eq_true rfl | omega | (refine nI_z ?_ ?_ <;> omega)) only [s123_163, s123_166, s123_168, s123_170, s123_171, s123_173, s123_175, s123_177, s123_179, s123_181, wX_some, Option.toList_some, Option.toList_none, List.cons_append, List.nil_append, List.map_cons, List.map_nil, List.sum_cons, List.sum_nil, Value.category, wn2_i, wn2_r, wn2_n, Option.isSome_some, List.getElem?_cons_zero, List.getElem?_cons_succ, nI_add, nI_rem2, e1, if_false, hr1]
      exact this
theorem m_likely (hM : MIS h S) (hg : GIS S) {s n x p : Int32} {l5 l6 l7 l8 l9 : Option Value} (k : ∀ h1, MIS h1 (op_likely s n x p S).2 → Off h h1 97 13 → Q (some (.int (op_likely s n x p S).1)) h1) : WP sc 123 0 [some (.ref 97), some (.int s), some (.int n), some (.int x), some (.int p), l5, l6, l7, l8, l9] [] h Q := by
  obtain ⟨⟨T, m⟩, A, U, K, L⟩ := S
  have hM0 := hM
  obtain ⟨k1, u2, hM⟩ := hM
  have hg : GI m A U K L := hg
  have hM : MJ h (-4) k1 (-4) u2 T m A U K L := hM
  obtain ⟨-, hAG, hq, -⟩ := hg
  have hAG0 := hAG
  obtain ⟨⟨G1, G2⟩, ⟨G3, G4⟩, G5, G6, G7⟩ := hAG
  have hw := fun Q x => isStreet_wp (sc := sc) (Q := Q) hM (by omega) G2 (x := x)
  obtain ⟨_, _, _, _, _, _, hI, -⟩ := hM.facts
  unfold op_likely inS at k
  dsimp only at k
  cases hr : rng 0 (A 7 0 - 1) s with
  | false =>
    rw [hr, Bool.false_and, Bool.false_and, Bool.false_and, if_neg (by decide)] at k
    simp (disch := first | assumption | exact wn2_i | exact wn2_r | exact wn2_n | exact Nat.le_of_ble_eq_true rfl | omega | (refine nI_z ?_ ?_ <;> omega)) only [s123_0, s123_1, s123_2, s123_5, s123_8, s123_9, s123_10, s123_11, s123_14, s123_17, s123_20, s123_21, s123_22, s123_23, s123_26, s123_29, s123_32, s123_34, s123_35, s123_36, s123_37, s123_40, s123_43, s123_44, wX_some, Option.toList_some, Option.toList_none, List.cons_append, List.nil_append, List.map_cons, List.map_nil, List.sum_cons, List.sum_nil, Value.category, wn2_i, wn2_r, wn2_n, Option.isSome_some, List.getElem?_cons_zero, List.getElem?_cons_succ, nI_add, nI_rem2, hw, hr, Bool.false_eq_true, if_false, nI_eq0, if_true]
    exact k h hM0 Off.rf
  | true =>
    cases hr2 : rng 1 8 n with
    | false =>
      rw [hr2, Bool.and_false, Bool.false_and, Bool.false_and, if_neg (by decide)] at k
      simp (disch := first | assumption | exact wn2_i | exact wn2_r | exact wn2_n | exact Nat.le_of_ble_eq_true rfl | omega | (refine nI_z ?_ ?_ <;> omega)) only [s123_0, s123_1, s123_2, s123_5, s123_8, s123_9, s123_10, s123_11, s123_14, s123_17, s123_20, s123_21, s123_22, s123_23, s123_26, s123_29, s123_32, s123_34, s123_35, s123_36, s123_37, s123_40, s123_43, s123_44, wX_some, Option.toList_some, Option.toList_none, List.cons_append, List.nil_append, List.map_cons, List.map_nil, List.sum_cons, List.sum_nil, Value.category, wn2_i, wn2_r, wn2_n, Option.isSome_some, List.getElem?_cons_zero, List.getElem?_cons_succ, nI_add, nI_rem2, hw, hr, hr2, in_rng, Bool.false_eq_true, if_false, nI_eq0, if_true, Nat.reduceEqDiff]
      exact k h hM0 Off.rf
    | true =>
      cases hr3 : rng 0 10 x with
      | false =>
        rw [hr3, Bool.and_false, Bool.false_and, if_neg (by decide)] at k
        simp (disch := first | assumption | exact wn2_i | exact wn2_r | exact wn2_n | exact Nat.le_of_ble_eq_true rfl | omega | (refine nI_z ?_ ?_ <;> omega)) only [s123_0, s123_1, s123_2, s123_5, s123_8, s123_9, s123_10, s123_11, s123_14, s123_17, s123_20, s123_21, s123_22, s123_23, s123_26, s123_29, s123_32, s123_34, s123_35, s123_36, s123_37, s123_40, s123_43, s123_44, wX_some, Option.toList_some, Option.toList_none, List.cons_append, List.nil_append, List.map_cons, List.map_nil, List.sum_cons, List.sum_nil, Value.category, wn2_i, wn2_r, wn2_n, Option.isSome_some, List.getElem?_cons_zero, List.getElem?_cons_succ, nI_add, nI_rem2, hw, hr, hr2, hr3, in_rng, Bool.false_eq_true, if_false, nI_eq0, if_true, Nat.reduceEqDiff]
        exact k h hM0 Off.rf
      | true =>
        cases hr4 : rng 0 1 p with
        | false =>
          rw [hr4, Bool.and_false, if_neg (by decide)] at k
          simp (disch := first | assumption | exact wn2_i | exact wn2_r | exact wn2_n | exact Nat.le_of_ble_eq_true rfl | omega | (refine nI_z ?_ ?_ <;> omega)) only [s123_0, s123_1, s123_2, s123_5, s123_8, s123_9, s123_10, s123_11, s123_14, s123_17, s123_20, s123_21, s123_22, s123_23, s123_26, s123_29, s123_32, s123_34, s123_35, s123_36, s123_37, s123_40, s123_43, s123_44, wX_some, Option.toList_some, Option.toList_none, List.cons_append, List.nil_append, List.map_cons, List.map_nil, List.sum_cons, List.sum_nil, Value.category, wn2_i, wn2_r, wn2_n, Option.isSome_some, List.getElem?_cons_zero, List.getElem?_cons_succ, nI_add, nI_rem2, hw, hr, hr2, hr3, hr4, in_rng, Bool.false_eq_true, if_false, nI_eq0, if_true, Nat.reduceEqDiff]
          exact k h hM0 Off.rf
        | true =>
          rw [hr, hr2, hr3, hr4, Bool.and_true, Bool.and_true, Bool.and_true, if_pos rfl] at k
          obtain ⟨i, i1, i2, rfl⟩ := rng_nI (by omega) hr
          obtain ⟨j, j1, j2, rfl⟩ := rng_nI (by omega) hr2
          obtain ⟨u, u1, u2', rfl⟩ := rng_nI (by omega) hr3
          obtain ⟨v, v1, v2, rfl⟩ := rng_nI (by omega) hr4
          rw [nat_nI (by omega), nat_nI (by omega), nat_nI (by omega), nat_nI (by omega)] at k
          have hsh := shl_n j (by omega)
          have h2 := two_le j2
          have h10 := ten_le j2
          have key : ∀ y, y ≤ 2 ^ j → ∀ h1 l8 l9, MJ h1 (-4) k1 (-4) u2 T m A U K L → Off h h1 97 13 → WP sc 123 54 [some (.ref 97), some (.int (nI i)), some (.int (nI j)), some (.int (nI u)), some (.int (nI v)), some (.int (nI (abv A i j u y))), some (.int (nI (tot u j y))), some (.int (nI y)), l8, l9] [] h1 Q := by
            refine loop_up ?_ ?_
            · intro h1 l8 l9 hM1 ho1
              have hge : nI (2 ^ j) ≤ nI (2 ^ j) := nI_le (Nat.le_refl _) (by omega)
              have hab := abv_ten (A := A) (s := i) (x := u) j2 u2' (Nat.le_refl (2 ^ j))
              have hgp : 1 ≤ Nat.gcd (10 ^ j) (abv A i j u (2 ^ j)) := Nat.gcd_pos_of_pos_left _ h10.1
              have hgl : Nat.gcd (10 ^ j) (abv A i j u (2 ^ j)) ≤ 10 ^ j := Nat.gcd_le_left _ h10.1
              have ht := tot_all j (by omega) u (by omega)
              have kk := k h1 ⟨k1, u2, hM1⟩ ho1
              have hgc : Nat.gcd (abv A i j u (2 ^ j)) (10 ^ j) = Nat.gcd (10 ^ j) (abv A i j u (2 ^ j)) := Nat.gcd_comm _ _
              rw [ht, s123_54]
              revert hab hgp hgl kk hgc
              generalize abv A i j u (2 ^ j) = ab
              intro hab hgp hgl kk hgc
              clear ht
              revert h10 hab hgp hgl kk hgc
              generalize 10 ^ j = te
              intro h10 hab hgp hgl kk hgc
              revert hgp hgl kk hgc
              generalize Nat.gcd te ab = gg
              intro hgp hgl kk hgc
              have n2 : ¬ nI gg = 0 := nI_z hgp (by omega)
              have q1 : nI ab / nI gg = nI (ab / gg) := nI_div (by omega) hgp (by omega)
              have q2 : nI te / nI gg = nI (te / gg) := nI_div (by omega) hgp (by omega)
              simp (disch := first | assumption | exact wn2_i | exact wn2_r | exact wn2_n | exact Nat.le_of_ble_eq_true rfl | omega | (refine nI_z ?_ ?_ <;> omega)) only [s123_56, s123_57, s123_58, s123_59, s123_153, s123_155, s123_157, s123_159, wX_some, Option.toList_some, Option.toList_none, List.cons_append, List.nil_append, List.map_cons, List.map_nil, List.sum_cons, List.sum_nil, Value.category, wn2_i, wn2_r, wn2_n, Option.isSome_some, List.getElem?_cons_zero, List.getElem?_cons_succ, nI_add, nI_rem2, hsh, hge, if_true]
              refine mgcd rfl (fun l9 => ?_) te ab _ hgc (by omega) (by omega)
              by_cases hv : v = 0
              · rw [if_pos hv] at kk
                have e1 : (nI v = 0) ↔ True := ⟨fun _ => trivial, fun _ => (nI_eq0 (by omega)).mpr hv⟩
                simp (disch := first | assumption | exact wn2_i | exact wn2_r | exact wn2_n | exact Nat.le_of_ble_eq_true rfl | omega | (refine nI_z ?_ ?_ <;> omega)) only [s123_184, s123_186, s123_189, s123_191, s123_193, s123_194, s123_197, s123_199, s123_201, s123_202, wX_some, Option.toList_some, Option.toList_none, List.cons_append, List.nil_append, List.map_cons, List.map_nil, List.sum_cons, List.sum_nil, Value.category, wn2_i, wn2_r, wn2_n, Option.isSome_some, List.getElem?_cons_zero, List.getElem?_cons_succ, nI_add, nI_rem2, e1, if_true, q1, n2, not_false_eq_true]
                exact kk
              · rw [if_neg hv] at kk
                have e1 : (nI v = 0) ↔ False := ⟨fun e => hv ((nI_eq0 (by omega)).mp e), False.elim⟩
                simp (disch := first | assumption | exact wn2_i | exact wn2_r | exact wn2_n | exact Nat.le_of_ble_eq_true rfl | omega | (refine nI_z ?_ ?_ <;> omega)) only [s123_184, s123_186, s123_189, s123_191, s123_193, s123_194, s123_197, s123_199, s123_201, s123_202, wX_some, Option.toList_some, Option.toList_none, List.cons_append, List.nil_append, List.map_cons, List.map_nil, List.sum_cons, List.sum_nil, Value.category, wn2_i, wn2_r, wn2_n, Option.isSome_some, List.getElem?_cons_zero, List.getElem?_cons_succ, nI_add, nI_rem2, e1, if_false, q2, n2, not_false_eq_true]
                exact kk
            · intro y hy ih h1 l8 l9 hM1 ho1
              have hge : ¬ nI (2 ^ j) ≤ nI y := nI_ge hy (by omega)
              obtain ⟨_, _, _, _, _, _, hI, -⟩ := hM1.facts
              have ih2 : ∀ h1 l8 l9, MJ h1 (-4) k1 (-4) u2 T m A U K L → Off h h1 97 13 → WP sc 123 54 [some (.ref 97), some (.int (nI i)), some (.int (nI j)), some (.int (nI u)), some (.int (nI v)), some (.int (nI (abv A i j u y + if chW A y j 4 2 = i + 1 then trm u j y else 0))), some (.int (nI (tot u j y + trm u j y))), some (.int (nI (y + 1))), l8, l9] [] h1 Q := ih
              have inner : ∀ x, x ≤ j → ∀ h3, MJ h3 (-4) k1 (-4) u2 T m A U K L → MS h3 (-4) k1 (-4) u2 (chW A y x) → Off h h3 97 13 → WP sc 123 72 [some (.ref 97), some (.int (nI i)), some (.int (nI j)), some (.int (nI u)), some (.int (nI v)), some (.int (nI (abv A i j u y))), some (.int (nI (tot u j y))), some (.int (nI y)), some (.int (nI (trm u x y))), some (.int (nI x))] [] h3 Q := by
                refine loop_up ?_ ?_
                · intro h3 hM3 hS3 ho3
                  have hge : nI j ≤ nI j := nI_le (Nat.le_refl _) (by omega)
                  obtain ⟨m', un, km, nm, sp, td, sd, hgo, hI, at1, as1, lt1, ls1, t0, t1, hk, hR, pt, hlen⟩ := hS3.facts
                  obtain ⟨c, hcl, hce⟩ := chW_ch (w := y) hAG0 j1
                  have vc : sd.getD 25 0 = nI c := by
                    have := hR.2.2.2.1
                    dsimp only at this
                    rw [this, hce]
                    rfl
                  rw [hce] at ih2
                  rw [s123_72]
                  by_cases hci : c = i
                  · rw [if_pos (by omega)] at ih2
                    have e1 : (nI c = nI i) ↔ True := ⟨fun _ => trivial, fun _ => by rw [hci]⟩
                    simp (disch := first | assumption | exact wn2_i | exact wn2_r | exact wn2_n | exact Nat.le_of_ble_eq_true rfl | omega | (refine nI_z ?_ ?_ <;> omega)) only [s123_74, s123_75, s123_118, s123_120, s123_122, s123_123, s123_125, s123_127, s123_128, s123_131, s123_133, s123_134, s123_135, s123_138, s123_140, s123_143, s123_144, s123_145, s123_147, s123_150, wX_some, Option.toList_some, Option.toList_none, List.cons_append, List.nil_append, List.map_cons, List.map_nil, List.sum_cons, List.sum_nil, Value.category, wn2_i, wn2_r, wn2_n, Option.isSome_some, List.getElem?_cons_zero, List.getElem?_cons_succ, nI_add, nI_rem2, hge, if_true, hgo, as1, ls1, iat_n, vc, e1]
                    exact ih2 h3 _ _ hM3 ho3
                  · rw [if_neg (by omega)] at ih2
                    have e1 : (nI c = nI i) ↔ False := ⟨fun e => hci ((nI_eq (by omega) (by omega)).mp e), False.elim⟩
                    simp (disch := first | assumption | exact wn2_i | exact wn2_r | exact wn2_n | exact Nat.le_of_ble_eq_true rfl | omega | (refine nI_z ?_ ?_ <;> omega)) only [s123_74, s123_75, s123_118, s123_120, s123_122, s123_123, s123_125, s123_127, s123_128, s123_131, s123_133, s123_134, s123_135, s123_138, s123_140, s123_143, s123_144, s123_145, s123_147, s123_150, wX_some, Option.toList_some, Option.toList_none, List.cons_append, List.nil_append, List.map_cons, List.map_nil, List.sum_cons, List.sum_nil, Value.category, wn2_i, wn2_r, wn2_n, Option.isSome_some, List.getElem?_cons_zero, List.getElem?_cons_succ, nI_add, nI_rem2, hge, if_true, hgo, as1, ls1, iat_n, vc, e1, if_false]
                    exact ih2 h3 _ _ hM3 ho3
                · intro x hx ihx h3 hM3 hS3 ho3
                  have hge : ¬ nI j ≤ nI x := nI_ge hx (by omega)
                  obtain ⟨_, _, _, _, _, _, hI, -⟩ := hM3.facts
                  obtain ⟨d1, d2, d3⟩ := chW_ag (w := y) hAG0 x
                  have hhas := fun Q => has_wp (sc := sc) (h := h3) (Q := Q) (w := y) (i := x) (by omega) (by omega)
                  have hs1 : nI 10 - nI u = nI (10 - u) := nI_sub u2'
                  have ihx2 : ∀ h1, MJ h1 (-4) k1 (-4) u2 T m A U K L → MS h1 (-4) k1 (-4) u2 (nqA (chW A y x) (y.testBit x)) → Off h h1 97 13 → WP sc 123 72 [some (.ref 97), some (.int (nI i)), some (.int (nI j)), some (.int (nI u)), some (.int (nI v)), some (.int (nI (abv A i j u y))), some (.int (nI (tot u j y))), some (.int (nI y)), some (.int (nI (trm u x y * (if y.testBit x then u else 10 - u)))), some (.int (nI (x + 1)))] [] h1 Q := by
                    rw [← trm_up]
                    exact ihx
                  rw [s123_72]
                  cases hz : y.testBit x with
                  | true =>
                    rw [hz] at ihx2
                    rw [if_pos rfl] at ihx2
                    simp only [hz, if_true] at hhas
                    simp (disch := first | assumption | exact wn2_i | exact wn2_r | exact wn2_n | exact Nat.le_of_ble_eq_true rfl | omega | (refine nI_z ?_ ?_ <;> omega)) only [s123_74, s123_75, s123_78, s123_80, s123_82, s123_84, s123_87, s123_90, s123_91, s123_94, s123_96, s123_97, s123_98, s123_99, s123_101, s123_102, s123_104, s123_106, s123_109, wX_some, Option.toList_some, Option.toList_none, List.cons_append, List.nil_append, List.map_cons, List.map_nil, List.sum_cons, List.sum_nil, Value.category, wn2_i, wn2_r, wn2_n, Option.isSome_some, List.getElem?_cons_zero, List.getElem?_cons_succ, nI_add, nI_rem2, hge, if_false, hhas, nI_eq0, Nat.reduceEqDiff, pk_mul]
                    refine m_nq (lost := true) hM3 hS3 d1 (by rw [d3]; omega) (fun h4 hM4 hS4 ho4 => ?_)
                    simp (disch := first | assumption | exact wn2_i | exact wn2_r | exact wn2_n | exact Nat.le_of_ble_eq_true rfl | omega | (refine nI_z ?_ ?_ <;> omega)) only [s123_112, s123_115, wX_some, Option.toList_some, Option.toList_none, List.cons_append, List.nil_append, List.map_cons, List.map_nil, List.sum_cons, List.sum_nil, Value.category, wn2_i, wn2_r, wn2_n, Option.isSome_some, List.getElem?_cons_zero, List.getElem?_cons_succ, nI_add, nI_rem2]
                    exact ihx2 h4 hM4 hS4 (ho3.tr ho4)
                  | false =>
                    rw [hz] at ihx2
                    rw [if_neg (by decide)] at ihx2
                    simp only [hz, Bool.false_eq_true, if_false] at hhas
                    simp (disch := first | assumption | exact wn2_i | exact wn2_r | exact wn2_n | exact Nat.le_of_ble_eq_true rfl | omega | (refine nI_z ?_ ?_ <;> omega)) only [s123_74, s123_75, s123_78, s123_80, s123_82, s123_84, s123_87, s123_90, s123_91, s123_94, s123_96, s123_97, s123_98, s123_99, s123_101, s123_102, s123_104, s123_106, s123_109, wX_some, Option.toList_some, Option.toList_none, List.cons_append, List.nil_append, List.map_cons, List.map_nil, List.sum_cons, List.sum_nil, Value.category, wn2_i, wn2_r, wn2_n, Option.isSome_some, List.getElem?_cons_zero, List.getElem?_cons_succ, nI_add, nI_rem2, hge, if_false, hhas, nI_eq0, if_true, hs1, pk_mul]
                    refine m_nq (lost := false) hM3 hS3 d1 (by rw [d3]; omega) (fun h4 hM4 hS4 ho4 => ?_)
                    simp (disch := first | assumption | exact wn2_i | exact wn2_r | exact wn2_n | exact Nat.le_of_ble_eq_true rfl | omega | (refine nI_z ?_ ?_ <;> omega)) only [s123_112, s123_115, wX_some, Option.toList_some, Option.toList_none, List.cons_append, List.nil_append, List.map_cons, List.map_nil, List.sum_cons, List.sum_nil, Value.category, wn2_i, wn2_r, wn2_n, Option.isSome_some, List.getElem?_cons_zero, List.getElem?_cons_succ, nI_add, nI_rem2]
                    exact ihx2 h4 hM4 hS4 (ho3.tr ho4)
              rw [s123_54]
              simp (disch := first | assumption | exact wn2_i | exact wn2_r | exact wn2_n | exact Nat.le_of_ble_eq_true rfl | omega | (refine nI_z ?_ ?_ <;> omega)) only [s123_56, s123_57, s123_58, s123_59, s123_62, s123_63, s123_65, s123_66, wX_some, Option.toList_some, Option.toList_none, List.cons_append, List.nil_append, List.map_cons, List.map_nil, List.sum_cons, List.sum_nil, Value.category, wn2_i, wn2_r, wn2_n, Option.isSome_some, List.getElem?_cons_zero, List.getElem?_cons_succ, nI_add, nI_rem2, hsh, hge, if_false]
              refine m_aside hM1 hAG0 (fun h2 hM2 hS2 ho2 => ?_)
              simp (disch := first | assumption | exact wn2_i | exact wn2_r | exact wn2_n | exact Nat.le_of_ble_eq_true rfl | omega | (refine nI_z ?_ ?_ <;> omega)) only [s123_69, s123_70, wX_some, Option.toList_some, Option.toList_none, List.cons_append, List.nil_append, List.map_cons, List.map_nil, List.sum_cons, List.sum_nil, Value.category, wn2_i, wn2_r, wn2_n, Option.isSome_some, List.getElem?_cons_zero, List.getElem?_cons_succ, nI_add, nI_rem2]
              exact inner 0 (by omega) h2 hM2 hS2 (ho1.tr ho2)
          simp (disch := first | assumption | exact wn2_i | exact wn2_r | exact wn2_n | exact Nat.le_of_ble_eq_true rfl | omega | (refine nI_z ?_ ?_ <;> omega)) only [s123_0, s123_1, s123_2, s123_5, s123_8, s123_9, s123_10, s123_11, s123_14, s123_17, s123_20, s123_21, s123_22, s123_23, s123_26, s123_29, s123_32, s123_34, s123_35, s123_36, s123_37, s123_40, s123_43, s123_44, s123_45, s123_46, s123_48, s123_49, s123_51, s123_52, wX_some, Option.toList_some, Option.toList_none, List.cons_append, List.nil_append, List.map_cons, List.map_nil, List.sum_cons, List.sum_nil, Value.category, wn2_i, wn2_r, wn2_n, Option.isSome_some, List.getElem?_cons_zero, List.getElem?_cons_succ, nI_add, nI_rem2, hw, hr, hr2, hr3, hr4, in_rng, if_false, nI_eq0, if_true, Nat.reduceEqDiff]
          exact key 0 (Nat.zero_le _) h _ _ hM Off.rf
end M71

-- the model's calls: kinds, uses
def agU (B : AS) (L : List (Nat × Nat)) : Nat → Bool
  | 0 => true
  | n + 1 => agU B L n && agr L (n + 1) (lpA B (n + 1) 4 2)
theorem agU_all {B : AS} {L : List (Nat × Nat)} : ∀ n, agU B L n = true ↔ ∀ i, 1 ≤ i → i ≤ n → agr L i (lpA B i 4 2) = true := by
  intro n
  induction n with
  | zero => exact ⟨fun _ i h1 h2 => by omega, fun _ => rfl⟩
  | succ n ih =>
    unfold agU
    rw [Bool.and_eq_true, ih]
    constructor
    · rintro ⟨a, b⟩ i h1 h2
      by_cases e : i = n + 1
      · subst e; exact b
      · exact a i h1 (by omega)
    · intro a
      exact ⟨fun i h1 h2 => a i h1 (by omega), a (n + 1) (by omega) (Nat.le_refl _)⟩
theorem agU_tru {B : AS} {L : List (Nat × Nat)} (hL : ∀ q ∈ L, 1 ≤ q.1 ∧ q.1 ≤ 40) : agU B L 40 = tru B L := by
  apply Bool.eq_iff_iff.mpr
  rw [agU_all]
  unfold tru agr
  constructor
  · intro a
    refine List.all_eq_true.mpr (fun q hq => ?_)
    have h40 := hL q hq
    have h9 := List.all_eq_true.mp (a q.1 h40.1 h40.2) q hq
    simpa using h9
  · intro a i h1 h2
    refine List.all_eq_true.mpr (fun q hq => ?_)
    have h9 := List.all_eq_true.mp a q hq
    rw [decide_eq_true_eq] at h9 ⊢
    by_cases e : q.1 = i
    · right; rw [← e]; exact h9
    · left; exact e
theorem or_z {x : Int32} : x ||| nI 0 = x := by
  rw [nI_0]
  simp
section M70
variable {sc : List Int32} {h : List ms_C} {Q : Option Value → List ms_C → Prop} {o1 k1 o2 u2 : Int32} {T : Nat → Nat} {m : Nat} {A B : AS} {U K : List AS} {L : List (Nat × Nat)} {S : GS}
theorem isSeen_wp (hM : MJ h o1 k1 o2 u2 T m A U K L) (hA : AG A) (hB : ∀ h1, MJ h1 o1 k1 o2 u2 T m A U K L → AR h1 103 27 (fun l => RA (fun i => l.getD i 0) A) → MS h1 o1 k1 o2 u2 B) (hG : AG B) (hq : B 4 0 ≤ 999) (hl6 : L.length ≤ 6) (hL : ∀ q ∈ L, (1 ≤ q.1 ∧ q.1 ≤ 40) ∧ q.2 ≤ 1000) {l1 l2 l3 : Option Value} (k : ∀ h1, MJ h1 o1 k1 o2 u2 T m A U K L → Off h h1 97 13 → Q (some (.int (if tru B L then nI 1 else nI 0))) h1) : WP sc 121 0 [some (.ref 97), l1, l2, l3] [] h Q := by
  obtain ⟨_, _, _, _, _, _, hI, -⟩ := hM.facts
  have key : ∀ n, n ≤ 40 → ∀ h1 l3, MJ h1 o1 k1 o2 u2 T m A U K L → MS h1 o1 k1 o2 u2 (lpA B n) → Off h h1 97 13 → WP sc 121 8 [some (.ref 97), some (.int (if agU B L n then nI 1 else nI 0)), some (.int (nI (n + 1))), l3] [] h1 Q := by
    refine loop_up ?_ ?_
    · intro h1 l3 hM1 hS1 ho1
      have hgt : nI 41 ≤ nI (40 + 1) := nI_le (by omega) (by omega)
      rw [s121_8]
      simp (disch := first | assumption | exact wn2_i | exact wn2_r | exact wn2_n | exact Nat.le_of_ble_eq_true rfl | omega | (refine nI_z ?_ ?_ <;> omega)) only [s121_9, s121_11, s121_83, s121_84, wX_some, Option.toList_some, Option.toList_none, List.cons_append, List.nil_append, List.map_cons, List.map_nil, List.sum_cons, List.sum_nil, Value.category, wn2_i, wn2_r, wn2_n, Option.isSome_some, List.getElem?_cons_zero, List.getElem?_cons_succ, nI_add, nI_rem2, hgt, if_true, b01, true_and]
      have := k h1 hM1 ho1
      rw [← agU_tru (fun q hq => (hL q hq).1)] at this
      exact this
    · intro n hn ih h1 l3 hM1 hS1 ho1
      have hgt : ¬ nI 41 ≤ nI (n + 1) := nI_ge (by omega) (by omega)
      obtain ⟨_, _, _, _, _, _, hI, -⟩ := hM1.facts
      rw [s121_8]
      simp (disch := first | assumption | exact wn2_i | exact wn2_r | exact wn2_n | exact Nat.le_of_ble_eq_true rfl | omega | (refine nI_z ?_ ?_ <;> omega)) only [s121_9, s121_11, s121_14, s121_15, s121_16, wX_some, Option.toList_some, Option.toList_none, List.cons_append, List.nil_append, List.map_cons, List.map_nil, List.sum_cons, List.sum_nil, Value.category, wn2_i, wn2_r, wn2_n, Option.isSome_some, List.getElem?_cons_zero, List.getElem?_cons_succ, nI_add, nI_rem2, hgt, if_false]
      refine m_nq (lost := false) hM1 hS1 (lpA_ag hG n) (by rw [(lpA_s n).2.2.2.2]; omega) (fun h2 hM2 hS2 ho2 => ?_)
      have hM2' := hM2
      obtain ⟨⟨sp, z1⟩, ⟨a98, a99, a100, a101, a102, a104, a105, a106, a107, a108, a109⟩, a103⟩ := hM2
      obtain ⟨nt, t1, t2, t3⟩ := a106
      obtain ⟨sd, s1, s2, s3⟩ := hS2.ar
      have hg := fun k => g_obj (k := k) z1
      have an := a_arr t1
      have as1 := a_arr s1
      have hwl := whoA_lt (l := false) (lpA_ag hG n)
      have hw6 := (lpA_ag hG n).1.2
      have hch : sd.getD 25 0 = nI (whoA (lpA B n) false) := s3.2.2.2.1
      have hch2 : lpA B (n + 1) 4 2 = whoA (lpA B n) false + 1 := rfl
      have ag9 : agU B L (n + 1) = (agU B L n && agr L (n + 1) (lpA B (n + 1) 4 2)) := rfl
      have inner : ∀ x, x ≤ L.length → WP sc 121 21 [some (.ref 97), some (.int (if agU B L n && agr (L.take x) (n + 1) (lpA B (n + 1) 4 2) then nI 1 else nI 0)), some (.int (nI (n + 1))), some (.int (nI x))] [] h2 Q := by
        refine loop_up ?_ ?_
        · have hge : nI L.length ≤ nI L.length := nI_le (Nat.le_refl _) (by omega)
          rw [List.take_length, ← ag9, s121_21]
          simp (disch := first | assumption | exact wn2_i | exact wn2_r | exact wn2_n | exact Nat.le_of_ble_eq_true rfl | omega | (refine nI_z ?_ ?_ <;> omega)) only [s121_22, s121_23, s121_26, s121_77, s121_80, wX_some, Option.toList_some, Option.toList_none, List.cons_append, List.nil_append, List.map_cons, List.map_nil, List.sum_cons, List.sum_nil, Value.category, wn2_i, wn2_r, wn2_n, Option.isSome_some, List.getElem?_cons_zero, List.getElem?_cons_succ, nI_add, nI_rem2, hg, hge, if_true]
          exact ih h2 _ hM2' hS2 (ho1.tr ho2)
        · intro x hx ihx
          have hge : ¬ nI L.length ≤ nI x := nI_ge hx (by omega)
          obtain ⟨q, hq9⟩ : ∃ q, L[x]? = some q := ⟨_, List.getElem?_eq_getElem hx⟩
          obtain ⟨v1, v2⟩ := t3 x q hq9
          have hqL := hL q (List.mem_of_getElem? hq9)
          have hlt1 : 2 * x < 12 := by omega
          have hlt2 : 2 * x + 1 < 12 := by omega
          have etk : agr (L.take (x + 1)) (n + 1) (lpA B (n + 1) 4 2) = (agr (L.take x) (n + 1) (lpA B (n + 1) 4 2) && decide (q.1 ≠ n + 1 ∨ lpA B (n + 1) 4 2 = q.2 + 1)) := by
            unfold agr
            rw [List.take_add_one, hq9, List.all_append]
            simp
          rw [etk] at ihx
          rw [s121_21]
          cases hb : (agU B L n && agr (L.take x) (n + 1) (lpA B (n + 1) 4 2)) with
          | false =>
            rw [← Bool.and_assoc, hb, Bool.false_and] at ihx
            simp (disch := first | assumption | exact wn2_i | exact wn2_r | exact wn2_n | exact Nat.le_of_ble_eq_true rfl | omega | (refine nI_z ?_ ?_ <;> omega)) only [s121_22, s121_23, s121_26, s121_29, s121_30, s121_69, s121_70, s121_71, s121_74, wX_some, Option.toList_some, Option.toList_none, List.cons_append, List.nil_append, List.map_cons, List.map_nil, List.sum_cons, List.sum_nil, Value.category, wn2_i, wn2_r, wn2_n, Option.isSome_some, List.getElem?_cons_zero, List.getElem?_cons_succ, nI_add, nI_rem2, hg, hge, if_false, Bool.false_eq_true, nI_eq0, if_true]
            simpa only [Bool.false_eq_true, if_false] using ihx
          | true =>
            rw [← Bool.and_assoc, hb, Bool.true_and] at ihx
            by_cases c1 : q.1 = n + 1
            · have e1 : (nI q.1 = nI (n + 1)) ↔ True := ⟨fun _ => trivial, fun _ => by rw [c1]⟩
              by_cases c2 : whoA (lpA B n) false = q.2
              · have e2 : (nI q.2 = nI (whoA (lpA B n) false)) ↔ True := ⟨fun _ => trivial, fun _ => by rw [c2]⟩
                have e3 : decide (q.1 ≠ n + 1 ∨ lpA B (n + 1) 4 2 = q.2 + 1) = true := by rw [decide_eq_true_eq, hch2]; right; omega
                rw [e3] at ihx
                simp (disch := first | assumption | exact wn2_i | exact wn2_r | exact wn2_n | exact Nat.le_of_ble_eq_true rfl | omega | (refine nI_z ?_ ?_ <;> omega)) only [s121_22, s121_23, s121_26, s121_29, s121_30, s121_33, s121_34, s121_37, s121_38, s121_39, s121_40, s121_41, s121_42, s121_45, s121_46, s121_49, s121_50, s121_51, s121_52, s121_53, s121_54, s121_55, s121_56, s121_59, s121_61, s121_62, s121_65, s121_66, s121_69, s121_70, s121_71, s121_74, wX_some, Option.toList_some, Option.toList_none, List.cons_append, List.nil_append, List.map_cons, List.map_nil, List.sum_cons, List.sum_nil, Value.category, wn2_i, wn2_r, wn2_n, Option.isSome_some, List.getElem?_cons_zero, List.getElem?_cons_succ, nI_add, nI_rem2, hg, hge, if_false, if_true, nI_eq0, Nat.reduceEqDiff, an, t2, as1, s2, iat_n, pk_mul, v1, v2, hch, e1, e2]
                simpa only [if_true] using ihx
              · have e2 : (nI q.2 = nI (whoA (lpA B n) false)) ↔ False := ⟨fun e => c2 ((nI_eq (by omega) (by omega)).mp e).symm, False.elim⟩
                have e3 : decide (q.1 ≠ n + 1 ∨ lpA B (n + 1) 4 2 = q.2 + 1) = false := by rw [decide_eq_false_iff_not, hch2]; omega
                rw [e3] at ihx
                simp (disch := first | assumption | exact wn2_i | exact wn2_r | exact wn2_n | exact Nat.le_of_ble_eq_true rfl | omega | (refine nI_z ?_ ?_ <;> omega)) only [s121_22, s121_23, s121_26, s121_29, s121_30, s121_33, s121_34, s121_37, s121_38, s121_39, s121_40, s121_41, s121_42, s121_45, s121_46, s121_49, s121_50, s121_51, s121_52, s121_53, s121_54, s121_55, s121_56, s121_59, s121_61, s121_62, s121_65, s121_66, s121_69, s121_70, s121_71, s121_74, wX_some, Option.toList_some, Option.toList_none, List.cons_append, List.nil_append, List.map_cons, List.map_nil, List.sum_cons, List.sum_nil, Value.category, wn2_i, wn2_r, wn2_n, Option.isSome_some, List.getElem?_cons_zero, List.getElem?_cons_succ, nI_add, nI_rem2, hg, hge, if_false, if_true, nI_eq0, Nat.reduceEqDiff, an, t2, as1, s2, iat_n, pk_mul, v1, v2, hch, e1, e2]
                simpa only [Bool.false_eq_true, if_false] using ihx
            · have e1 : (nI q.1 = nI (n + 1)) ↔ False := ⟨fun e => c1 ((nI_eq (by omega) (by omega)).mp e), False.elim⟩
              have e3 : decide (q.1 ≠ n + 1 ∨ lpA B (n + 1) 4 2 = q.2 + 1) = true := by rw [decide_eq_true_eq]; exact Or.inl c1
              rw [e3] at ihx
              simp (disch := first | assumption | exact wn2_i | exact wn2_r | exact wn2_n | exact Nat.le_of_ble_eq_true rfl | omega | (refine nI_z ?_ ?_ <;> omega)) only [s121_22, s121_23, s121_26, s121_29, s121_30, s121_33, s121_34, s121_37, s121_38, s121_39, s121_40, s121_41, s121_42, s121_45, s121_46, s121_49, s121_50, s121_51, s121_52, s121_53, s121_54, s121_55, s121_56, s121_59, s121_61, s121_62, s121_65, s121_66, s121_69, s121_70, s121_71, s121_74, wX_some, Option.toList_some, Option.toList_none, List.cons_append, List.nil_append, List.map_cons, List.map_nil, List.sum_cons, List.sum_nil, Value.category, wn2_i, wn2_r, wn2_n, Option.isSome_some, List.getElem?_cons_zero, List.getElem?_cons_succ, nI_add, nI_rem2, hg, hge, if_false, if_true, nI_eq0, Nat.reduceEqDiff, an, t2, iat_n, pk_mul, v1, e1]
              simpa only [if_true] using ihx
      have := inner 0 (Nat.zero_le _)
      have e0 : (agU B L n && agr (L.take 0) (n + 1) (lpA B (n + 1) 4 2)) = agU B L n := by
        rw [List.take_zero]
        exact Bool.and_true _
      rw [e0] at this
      simp (disch := first | assumption | exact wn2_i | exact wn2_r | exact wn2_n | exact Nat.le_of_ble_eq_true rfl | omega | (refine nI_z ?_ ?_ <;> omega)) only [s121_19, s121_20, wX_some, Option.toList_some, Option.toList_none, List.cons_append, List.nil_append, List.map_cons, List.map_nil, List.sum_cons, List.sum_nil, Value.category, wn2_i, wn2_r, wn2_n, Option.isSome_some, List.getElem?_cons_zero, List.getElem?_cons_succ, nI_add, nI_rem2]
      exact this
  simp (disch := first | assumption | exact wn2_i | exact wn2_r | exact wn2_n | exact Nat.le_of_ble_eq_true rfl | omega | (refine nI_z ?_ ?_ <;> omega)) only [s121_0, s121_1, s121_2, s121_3, wX_some, Option.toList_some, Option.toList_none, List.cons_append, List.nil_append, List.map_cons, List.map_nil, List.sum_cons, List.sum_nil, Value.category, wn2_i, wn2_r, wn2_n, Option.isSome_some, List.getElem?_cons_zero, List.getElem?_cons_succ, nI_add, nI_rem2]
  refine aside_wp hM hA (fun h1 hM1 hs1 ho1 => ?_)
  simp (disch := first | assumption | exact wn2_i | exact wn2_r | exact wn2_n | exact Nat.le_of_ble_eq_true rfl | omega | (refine nI_z ?_ ?_ <;> omega)) only [s121_6, s121_7, wX_some, Option.toList_some, Option.toList_none, List.cons_append, List.nil_append, List.map_cons, List.map_nil, List.sum_cons, List.sum_nil, Value.category, wn2_i, wn2_r, wn2_n, Option.isSome_some, List.getElem?_cons_zero, List.getElem?_cons_succ, nI_add, nI_rem2]
  exact key 0 (by omega) h1 _ hM1 (hB h1 hM1 hs1) (ho1.wide (by omega) (by omega))
theorem MJ.obj (hM : MJ h o1 k1 o2 u2 T m A U K L) : ∃ sp : Int32, h[97]? = some (ms_obj 6 (MO (nI m) (nI U.length) (nI K.length) (nI L.length) sp o1 k1 o2 u2)) ∧ ∀ (sp' p1 l1 p2 l2 : Int32), MJ (h.set 97 (ms_obj 6 (MO (nI m) (nI U.length) (nI K.length) (nI L.length) sp' p1 l1 p2 l2))) p1 l1 p2 l2 T m A U K L := by
  obtain ⟨⟨sp, z1⟩, ⟨a98, a99, a100, a101, a102, a104, a105, a106, a107, a108, a109⟩, a103⟩ := hM
  refine ⟨sp, z1, fun sp' p1 l1 p2 l2 => ?_⟩
  have hx : OffX h (h.set 97 (ms_obj 6 (MO (nI m) (nI U.length) (nI K.length) (nI L.length) sp' p1 l1 p2 l2))) (fun i => i = 97) := OffX.rf.st rfl
  exact ⟨⟨sp', s_eq (lt_of_some z1)⟩, ⟨a98.off (hx.2 98 (by omega)), a99.off (hx.2 99 (by omega)), a100.off (hx.2 100 (by omega)), a101.off (hx.2 101 (by omega)), a102.off (hx.2 102 (by omega)), a104.off (hx.2 104 (by omega)), a105.off (hx.2 105 (by omega)), a106.off (hx.2 106 (by omega)), a107.off (hx.2 107 (by omega)), a108.off (hx.2 108 (by omega)), a109.off (hx.2 109 (by omega))⟩, a103.off (hx.2 103 (by omega))⟩
theorem m_kinds (hM : MIS h S) (hg : GIS S) {s : Int32} {l2 : Option Value} (k : ∀ h1, MIS h1 (op_kinds s S).2 → Off h h1 97 13 → Q (some (.int (op_kinds s S).1)) h1) : WP sc 120 0 [some (.ref 97), some (.int s), l2] [] h Q := by
  obtain ⟨⟨T, m⟩, A, U, K, L⟩ := S
  have hM0 := hM
  obtain ⟨k1, u2, hM⟩ := hM
  have hg : GI m A U K L := hg
  have hM : MJ h (-4) k1 (-4) u2 T m A U K L := hM
  obtain ⟨-, hAG, hq, hU, hKK, hUl, hKl, hLl, hL⟩ := hg
  have hAG0 := hAG
  obtain ⟨⟨G1, G2⟩, ⟨G3, G4⟩, G5, G6, G7⟩ := hAG
  have hw := fun Q x => isStreet_wp (sc := sc) (Q := Q) hM (by omega) G2 (x := x)
  obtain ⟨_, _, _, _, _, _, hI, -⟩ := hM.facts
  unfold op_kinds inS at k
  dsimp only at k
  cases hr : rng 0 (A 7 0 - 1) s with
  | false =>
    rw [hr, if_neg (by decide)] at k
    simp (disch := first | assumption | exact wn2_i | exact wn2_r | exact wn2_n | exact Nat.le_of_ble_eq_true rfl | omega | (refine nI_z ?_ ?_ <;> omega)) only [s120_0, s120_1, s120_2, s120_5, s120_8, s120_9, wX_some, Option.toList_some, Option.toList_none, List.cons_append, List.nil_append, List.map_cons, List.map_nil, List.sum_cons, List.sum_nil, Value.category, wn2_i, wn2_r, wn2_n, Option.isSome_some, List.getElem?_cons_zero, List.getElem?_cons_succ, nI_add, nI_rem2, hw, hr, Bool.false_eq_true, if_false, nI_eq0, if_true]
    exact k h hM0 Off.rf
  | true =>
    rw [hr, if_pos rfl] at k
    obtain ⟨j, j1, j2, rfl⟩ := rng_nI (by omega) hr
    rw [nat_nI (by omega)] at k
    have hj : j < A 7 0 := by omega
    have key : ∀ n, n ≤ 4 → ∀ h1, MJ h1 (nI j) (nI n) (-4) u2 T m A U K L → Off h h1 97 13 → WP sc 120 22 [some (.ref 97), some (.int (nI j)), some (.int (kin A L j n))] [] h1 Q := by
      refine loop_up ?_ ?_
      · intro h1 hM1 ho1
        have hge : nI 4 ≤ nI 4 := nI_le (Nat.le_refl _) (by omega)
        obtain ⟨sp, z1, hset⟩ := hM1.obj
        have hgo := fun k => g_obj (k := k) z1
        have his := i_obj z1
        rw [s120_22]
        simp (disch := first | assumption | exact wn2_i | exact wn2_r | exact wn2_n | exact Nat.le_of_ble_eq_true rfl | omega | (refine nI_z ?_ ?_ <;> omega)) only [s120_23, s120_26, s120_27, s120_63, s120_64, s120_66, s120_69, s120_70, wX_some, Option.toList_some, Option.toList_none, List.cons_append, List.nil_append, List.map_cons, List.map_nil, List.sum_cons, List.sum_nil, Value.category, wn2_i, wn2_r, wn2_n, Option.isSome_some, List.getElem?_cons_zero, List.getElem?_cons_succ, nI_add, nI_rem2, hgo, hge, if_true, his, List.set_cons_succ, List.set_cons_zero, List.length_cons, List.length_nil, Nat.reduceAdd, Nat.reduceLT, true_and]
        exact k _ ⟨nI 4, u2, hset sp (-4) (nI 4) (-4) u2⟩ (ho1.st (by omega) (by omega))
      · intro n hn ih h1 hM1 ho1
        have hge : ¬ nI 4 ≤ nI n := nI_ge hn (by omega)
        obtain ⟨sp, z1, hset⟩ := hM1.obj
        have hgo := fun k => g_obj (k := k) z1
        have hI : (ms_is h1 97 6).isSome = true := by rw [i_obj z1]; rfl
        rw [s120_22]
        simp (disch := first | assumption | exact wn2_i | exact wn2_r | exact wn2_n | exact Nat.le_of_ble_eq_true rfl | omega | (refine nI_z ?_ ?_ <;> omega)) only [s120_23, s120_26, s120_27, s120_30, s120_31, s120_32, wX_some, Option.toList_some, Option.toList_none, List.cons_append, List.nil_append, List.map_cons, List.map_nil, List.sum_cons, List.sum_nil, Value.category, wn2_i, wn2_r, wn2_n, Option.isSome_some, List.getElem?_cons_zero, List.getElem?_cons_succ, nI_add, nI_rem2, hgo, hge, if_false]
        have hAG1 := upA_ag5 (i := j) hAG0 (show n ≤ 3 by omega)
        refine isSeen_wp (B := up2 A 5 j n) hM1 hAG0 (fun h2 hM2 hs2 => hM2.ms hs2 rfl (fun s hs => ⟨?_, ?_⟩)) hAG1 hq hLl (fun q hq => ⟨(hL q hq).1, by have := (hL q hq).2; omega⟩) (fun h2 hM2 ho2 => ?_)
        · show _ = nI (up1 (A 5) j n s)
          unfold up1
          by_cases e : s = j
          · rw [if_pos (by rw [e]), if_pos e]
          · rw [if_neg (fun q => e ((nI_eq (by omega) (by omega)).mp q)), if_neg e]
        · rw [if_neg (fun q => by rw [m4_ne (by omega)] at q; exact q)]
          rfl
        · obtain ⟨sp, z1, hset⟩ := hM2.obj
          have hgo := fun k => g_obj (k := k) z1
          have his := i_obj z1
          have e9 : kin A L j (n + 1) = if tru (up2 A 5 j n) L then kin A L j n ||| (nI 1 <<< (nI n &&& 31)) else kin A L j n := rfl
          rw [e9] at ih
          cases ht : tru (up2 A 5 j n) L with
          | true =>
            rw [ht, if_pos rfl] at ih
            simp (disch := first | assumption | exact wn2_i | exact wn2_r | exact wn2_n | exact Nat.le_of_ble_eq_true rfl | omega | (refine nI_z ?_ ?_ <;> omega)) only [s120_35, s120_38, s120_39, s120_40, s120_43, s120_44, s120_47, s120_48, s120_49, s120_50, s120_51, s120_52, s120_55, s120_56, s120_57, s120_60, wX_some, Option.toList_some, Option.toList_none, List.cons_append, List.nil_append, List.map_cons, List.map_nil, List.sum_cons, List.sum_nil, Value.category, wn2_i, wn2_r, wn2_n, Option.isSome_some, List.getElem?_cons_zero, List.getElem?_cons_succ, nI_add, nI_rem2, if_true, nI_eq0, Nat.reduceEqDiff, if_false, hgo, his, List.set_cons_succ, List.set_cons_zero, List.length_cons, List.length_nil, Nat.reduceAdd, Nat.reduceLT, true_and]
            exact ih _ (hset sp (nI j) (nI (n + 1)) (-4) u2) ((ho1.tr ho2).st (by omega) (by omega))
          | false =>
            rw [ht, if_neg (by decide)] at ih
            simp (disch := first | assumption | exact wn2_i | exact wn2_r | exact wn2_n | exact Nat.le_of_ble_eq_true rfl | omega | (refine nI_z ?_ ?_ <;> omega)) only [s120_35, s120_38, s120_39, s120_40, s120_43, s120_44, s120_47, s120_48, s120_49, s120_50, s120_51, s120_52, s120_55, s120_56, s120_57, s120_60, wX_some, Option.toList_some, Option.toList_none, List.cons_append, List.nil_append, List.map_cons, List.map_nil, List.sum_cons, List.sum_nil, Value.category, wn2_i, wn2_r, wn2_n, Option.isSome_some, List.getElem?_cons_zero, List.getElem?_cons_succ, nI_add, nI_rem2, Bool.false_eq_true, if_true, nI_eq0, if_false, or_z, hgo, his, List.set_cons_succ, List.set_cons_zero, List.length_cons, List.length_nil, Nat.reduceAdd, Nat.reduceLT, true_and]
            exact ih _ (hset sp (nI j) (nI (n + 1)) (-4) u2) ((ho1.tr ho2).st (by omega) (by omega))
    obtain ⟨sp, z1, hset⟩ := hM.obj
    have his := i_obj z1
    simp (disch := first | assumption | exact wn2_i | exact wn2_r | exact wn2_n | exact Nat.le_of_ble_eq_true rfl | omega | (refine nI_z ?_ ?_ <;> omega)) only [s120_0, s120_1, s120_2, s120_5, s120_8, s120_9, s120_10, s120_11, s120_12, s120_13, s120_14, wX_some, Option.toList_some, Option.toList_none, List.cons_append, List.nil_append, List.map_cons, List.map_nil, List.sum_cons, List.sum_nil, Value.category, wn2_i, wn2_r, wn2_n, Option.isSome_some, List.getElem?_cons_zero, List.getElem?_cons_succ, nI_add, nI_rem2, hw, hr, if_false, nI_eq0, if_true, Nat.reduceEqDiff, his, List.set_cons_succ, List.set_cons_zero, List.length_cons, List.length_nil, Nat.reduceAdd, Nat.reduceLT, true_and]
    have hM1 := hset sp (nI j) k1 (-4) u2
    have ho1 : Off h (h.set 97 (ms_obj 6 (MO (nI m) (nI U.length) (nI K.length) (nI L.length) sp (nI j) k1 (-4) u2))) 97 13 := Off.rf.st (by omega) (by omega)
    generalize h.set 97 (ms_obj 6 (MO (nI m) (nI U.length) (nI K.length) (nI L.length) sp (nI j) k1 (-4) u2)) = h1 at hM1 ho1 ⊢
    obtain ⟨sp, z1, hset⟩ := hM1.obj
    have his := i_obj z1
    simp (disch := first | assumption | exact wn2_i | exact wn2_r | exact wn2_n | exact Nat.le_of_ble_eq_true rfl | omega | (refine nI_z ?_ ?_ <;> omega)) only [s120_17, s120_18, s120_19, wX_some, Option.toList_some, Option.toList_none, List.cons_append, List.nil_append, List.map_cons, List.map_nil, List.sum_cons, List.sum_nil, Value.category, wn2_i, wn2_r, wn2_n, Option.isSome_some, List.getElem?_cons_zero, List.getElem?_cons_succ, nI_add, nI_rem2, his, List.set_cons_succ, List.set_cons_zero, List.length_cons, List.length_nil, Nat.reduceAdd, Nat.reduceLT, true_and]
    exact key 0 (by omega) _ (hset sp (nI j) (nI 0) (-4) u2) (ho1.st (by omega) (by omega))
theorem m_uses (hM : MIS h S) (hg : GIS S) {s : Int32} {l2 : Option Value} (k : ∀ h1, MIS h1 (op_uses s S).2 → Off h h1 97 13 → Q (some (.int (op_uses s S).1)) h1) : WP sc 122 0 [some (.ref 97), some (.int s), l2] [] h Q := by
  obtain ⟨⟨T, m⟩, A, U, K, L⟩ := S
  have hM0 := hM
  obtain ⟨k1, u2, hM⟩ := hM
  have hg : GI m A U K L := hg
  have hM : MJ h (-4) k1 (-4) u2 T m A U K L := hM
  obtain ⟨-, hAG, hq, hU, hKK, hUl, hKl, hLl, hL⟩ := hg
  have hAG0 := hAG
  obtain ⟨⟨G1, G2⟩, ⟨G3, G4⟩, G5, G6, G7⟩ := hAG
  have hw := fun Q x => isStreet_wp (sc := sc) (Q := Q) hM (by omega) G2 (x := x)
  obtain ⟨_, _, _, _, _, _, hI, -⟩ := hM.facts
  unfold op_uses inS at k
  dsimp only at k
  cases hr : rng 0 (A 7 0 - 1) s with
  | false =>
    rw [hr, if_neg (by decide)] at k
    simp (disch := first | assumption | exact wn2_i | exact wn2_r | exact wn2_n | exact Nat.le_of_ble_eq_true rfl | omega | (refine nI_z ?_ ?_ <;> omega)) only [s122_0, s122_1, s122_2, s122_5, s122_8, s122_9, wX_some, Option.toList_some, Option.toList_none, List.cons_append, List.nil_append, List.map_cons, List.map_nil, List.sum_cons, List.sum_nil, Value.category, wn2_i, wn2_r, wn2_n, Option.isSome_some, List.getElem?_cons_zero, List.getElem?_cons_succ, nI_add, nI_rem2, hw, hr, Bool.false_eq_true, if_false, nI_eq0, if_true]
    exact k h hM0 Off.rf
  | true =>
    rw [hr, if_pos rfl] at k
    obtain ⟨j, j1, j2, rfl⟩ := rng_nI (by omega) hr
    rw [nat_nI (by omega)] at k
    have hj : j < A 7 0 := by omega
    have key : ∀ n, n ≤ 10 → ∀ h1, MJ h1 (-4) k1 (nI j) (nI n) T m A U K L → Off h h1 97 13 → WP sc 122 22 [some (.ref 97), some (.int (nI j)), some (.int (usn A L j n))] [] h1 Q := by
      refine loop_up ?_ ?_
      · intro h1 hM1 ho1
        have hge : nI 10 ≤ nI 10 := nI_le (Nat.le_refl _) (by omega)
        obtain ⟨sp, z1, hset⟩ := hM1.obj
        have hgo := fun k => g_obj (k := k) z1
        have his := i_obj z1
        rw [s122_22]
        simp (disch := first | assumption | exact wn2_i | exact wn2_r | exact wn2_n | exact Nat.le_of_ble_eq_true rfl | omega | (refine nI_z ?_ ?_ <;> omega)) only [s122_23, s122_26, s122_28, s122_64, s122_65, s122_67, s122_70, s122_71, wX_some, Option.toList_some, Option.toList_none, List.cons_append, List.nil_append, List.map_cons, List.map_nil, List.sum_cons, List.sum_nil, Value.category, wn2_i, wn2_r, wn2_n, Option.isSome_some, List.getElem?_cons_zero, List.getElem?_cons_succ, nI_add, nI_rem2, hgo, hge, if_true, his, List.set_cons_succ, List.set_cons_zero, List.length_cons, List.length_nil, Nat.reduceAdd, Nat.reduceLT, true_and]
        exact k _ ⟨k1, nI 10, hset sp (-4) k1 (-4) (nI 10)⟩ (ho1.st (by omega) (by omega))
      · intro n hn ih h1 hM1 ho1
        have hge : ¬ nI 10 ≤ nI n := nI_ge hn (by omega)
        obtain ⟨sp, z1, hset⟩ := hM1.obj
        have hgo := fun k => g_obj (k := k) z1
        have hI : (ms_is h1 97 6).isSome = true := by rw [i_obj z1]; rfl
        rw [s122_22]
        simp (disch := first | assumption | exact wn2_i | exact wn2_r | exact wn2_n | exact Nat.le_of_ble_eq_true rfl | omega | (refine nI_z ?_ ?_ <;> omega)) only [s122_23, s122_26, s122_28, s122_31, s122_32, s122_33, wX_some, Option.toList_some, Option.toList_none, List.cons_append, List.nil_append, List.map_cons, List.map_nil, List.sum_cons, List.sum_nil, Value.category, wn2_i, wn2_r, wn2_n, Option.isSome_some, List.getElem?_cons_zero, List.getElem?_cons_succ, nI_add, nI_rem2, hgo, hge, if_false]
        have hAG1 := upA_ag6 (i := j) hAG0 (show n ≤ 9 by omega)
        refine isSeen_wp (B := up2 A 6 j n) hM1 hAG0 (fun h2 hM2 hs2 => hM2.ms hs2 rfl (fun s hs => ⟨?_, ?_⟩)) hAG1 hq hLl (fun q hq => ⟨(hL q hq).1, by have := (hL q hq).2; omega⟩) (fun h2 hM2 ho2 => ?_)
        · rw [if_neg (fun q => by rw [m4_ne (by omega)] at q; exact q)]
          rfl
        · show _ = nI (up1 (A 6) j n s)
          unfold up1
          by_cases e : s = j
          · rw [if_pos (by rw [e]), if_pos e]
          · rw [if_neg (fun q => e ((nI_eq (by omega) (by omega)).mp q)), if_neg e]
        · obtain ⟨sp, z1, hset⟩ := hM2.obj
          have hgo := fun k => g_obj (k := k) z1
          have his := i_obj z1
          have e9 : usn A L j (n + 1) = if tru (up2 A 6 j n) L then usn A L j n ||| (nI 1 <<< (nI n &&& 31)) else usn A L j n := rfl
          rw [e9] at ih
          cases ht : tru (up2 A 6 j n) L with
          | true =>
            rw [ht, if_pos rfl] at ih
            simp (disch := first | assumption | exact wn2_i | exact wn2_r | exact wn2_n | exact Nat.le_of_ble_eq_true rfl | omega | (refine nI_z ?_ ?_ <;> omega)) only [s122_36, s122_39, s122_40, s122_41, s122_44, s122_45, s122_48, s122_49, s122_50, s122_51, s122_52, s122_53, s122_56, s122_57, s122_58, s122_61, wX_some, Option.toList_some, Option.toList_none, List.cons_append, List.nil_append, List.map_cons, List.map_nil, List.sum_cons, List.sum_nil, Value.category, wn2_i, wn2_r, wn2_n, Option.isSome_some, List.getElem?_cons_zero, List.getElem?_cons_succ, nI_add, nI_rem2, if_true, nI_eq0, Nat.reduceEqDiff, if_false, hgo, his, List.set_cons_succ, List.set_cons_zero, List.length_cons, List.length_nil, Nat.reduceAdd, Nat.reduceLT, true_and]
            exact ih _ (hset sp (-4) k1 (nI j) (nI (n + 1))) ((ho1.tr ho2).st (by omega) (by omega))
          | false =>
            rw [ht, if_neg (by decide)] at ih
            simp (disch := first | assumption | exact wn2_i | exact wn2_r | exact wn2_n | exact Nat.le_of_ble_eq_true rfl | omega | (refine nI_z ?_ ?_ <;> omega)) only [s122_36, s122_39, s122_40, s122_41, s122_44, s122_45, s122_48, s122_49, s122_50, s122_51, s122_52, s122_53, s122_56, s122_57, s122_58, s122_61, wX_some, Option.toList_some, Option.toList_none, List.cons_append, List.nil_append, List.map_cons, List.map_nil, List.sum_cons, List.sum_nil, Value.category, wn2_i, wn2_r, wn2_n, Option.isSome_some, List.getElem?_cons_zero, List.getElem?_cons_succ, nI_add, nI_rem2, Bool.false_eq_true, if_true, nI_eq0, if_false, or_z, hgo, his, List.set_cons_succ, List.set_cons_zero, List.length_cons, List.length_nil, Nat.reduceAdd, Nat.reduceLT, true_and]
            exact ih _ (hset sp (-4) k1 (nI j) (nI (n + 1))) ((ho1.tr ho2).st (by omega) (by omega))
    obtain ⟨sp, z1, hset⟩ := hM.obj
    have his := i_obj z1
    simp (disch := first | assumption | exact wn2_i | exact wn2_r | exact wn2_n | exact Nat.le_of_ble_eq_true rfl | omega | (refine nI_z ?_ ?_ <;> omega)) only [s122_0, s122_1, s122_2, s122_5, s122_8, s122_9, s122_10, s122_11, s122_12, s122_13, s122_14, wX_some, Option.toList_some, Option.toList_none, List.cons_append, List.nil_append, List.map_cons, List.map_nil, List.sum_cons, List.sum_nil, Value.category, wn2_i, wn2_r, wn2_n, Option.isSome_some, List.getElem?_cons_zero, List.getElem?_cons_succ, nI_add, nI_rem2, hw, hr, if_false, nI_eq0, if_true, Nat.reduceEqDiff, his, List.set_cons_succ, List.set_cons_zero, List.length_cons, List.length_nil, Nat.reduceAdd, Nat.reduceLT, true_and]
    have hM1 := hset sp (-4) k1 (nI j) u2
    have ho1 : Off h (h.set 97 (ms_obj 6 (MO (nI m) (nI U.length) (nI K.length) (nI L.length) sp (-4) k1 (nI j) u2))) 97 13 := Off.rf.st (by omega) (by omega)
    generalize h.set 97 (ms_obj 6 (MO (nI m) (nI U.length) (nI K.length) (nI L.length) sp (-4) k1 (nI j) u2)) = h1 at hM1 ho1 ⊢
    obtain ⟨sp, z1, hset⟩ := hM1.obj
    have his := i_obj z1
    simp (disch := first | assumption | exact wn2_i | exact wn2_r | exact wn2_n | exact Nat.le_of_ble_eq_true rfl | omega | (refine nI_z ?_ ?_ <;> omega)) only [s122_17, s122_18, s122_19, wX_some, Option.toList_some, Option.toList_none, List.cons_append, List.nil_append, List.map_cons, List.map_nil, List.sum_cons, List.sum_nil, Value.category, wn2_i, wn2_r, wn2_n, Option.isSome_some, List.getElem?_cons_zero, List.getElem?_cons_succ, nI_add, nI_rem2, his, List.set_cons_succ, List.set_cons_zero, List.length_cons, List.length_nil, Nat.reduceAdd, Nat.reduceLT, true_and]
    exact key 0 (by omega) _ (hset sp (-4) k1 (nI j) (nI 0)) (ho1.st (by omega) (by omega))
end M70

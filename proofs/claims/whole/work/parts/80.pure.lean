-- the law's loop; its run from the start
section SIZE
variable {h : List ms_C} {S : GS}
/-- the cells from a on, n of them, are there, and small -/
def SM (h : List ms_C) (a n : Nat) : Prop := ∀ i, a ≤ i → i < a + n → ∃ c, h[i]? = some c ∧ ms_cs c ≤ 300
theorem SM.one {a : Nat} {c : ms_C} (e : h[a]? = some c) (hc : ms_cs c ≤ 300) : SM h a 1 := fun i h1 h2 => by
  have : i = a := by omega
  subst this
  exact ⟨c, e, hc⟩
theorem SM.cat {a n b m : Nat} (h1 : SM h a n) (h2 : SM h b m) (e : b = a + n) : SM h a (n + m) := fun i x1 x2 => by
  by_cases c : i < a + n
  · exact h1 i x1 c
  · exact h2 i (by omega) (by omega)
theorem cs_ia {l : List Int32} {n : Nat} (e : l.length = n) (hn : n ≤ 300) : ms_cs (ms_ia l) ≤ 300 := by
  show l.length ≤ 300
  omega
theorem TA.sm {a : Nat} {A : AS} (hT : TA h a A) : SM h a 7 := by
  obtain ⟨kd, we, us, di, st, wo, h0, ⟨h1, h2, h3, h4, h5, h6⟩, ⟨g1, -⟩, ⟨g2, -⟩, ⟨g3, -⟩, ⟨g4, -⟩, ⟨g5, -⟩, ⟨g6, -⟩⟩ := hT
  have k0 : ms_cs (ms_obj 4 (TO a A)) ≤ 300 := by show 11 ≤ 300; omega
  exact ((((((SM.one h0 k0).cat (SM.one h1 (cs_ia g1 (by omega))) rfl).cat (SM.one h2 (cs_ia g2 (by omega))) rfl).cat (SM.one h3 (cs_ia g3 (by omega))) rfl).cat (SM.one h4 (cs_ia g4 (by omega))) rfl).cat (SM.one h5 (cs_ia g5 (by omega))) rfl).cat (SM.one h6 (cs_ia g6 (by omega))) rfl
theorem PA.sm {p K : Nat} {As : List AS} (hP : PA h p K As) (hK : K ≤ 8) : SM h p (2 + 7 * K) := by
  obtain ⟨js, ⟨a1, -⟩, -, c0, c1, c2, -⟩ := hP
  have k1 : ms_cs (ms_ra (js.map fun j => some (pad p j))) ≤ 300 := by
    show (js.map fun j => some (pad p j)).length ≤ 300
    rw [List.length_map]; omega
  have k0 : ms_cs (ms_obj 1 [.ref (p + 1), .int (nI As.length)]) ≤ 300 := by show 2 ≤ 300; omega
  refine ((SM.one c0 k0).cat (SM.one c1 k1) rfl).cat (b := p + 2) (m := 7 * K) (fun i x1 x2 => ?_) rfl
  obtain ⟨A, hA⟩ := c2 ((i - (p + 2)) / 7) (by omega)
  exact hA.sm i (by unfold pad; omega) (by unfold pad; omega)
theorem AR.sm {c n : Nat} {p : List Int32 → Prop} (ha : AR h c n p) (hn : n ≤ 300) : SM h c 1 := by
  obtain ⟨l, a, b, -⟩ := ha
  exact SM.one a (cs_ia b hn)
theorem sum_le {n : Nat} : ∀ (g : List ms_C), (∀ (i : Nat) (c : ms_C), g[i]? = some c → ms_cs c ≤ n) → ms_sz g ≤ n * g.length := by
  intro g
  induction g with
  | nil => intro _; exact Nat.zero_le _
  | cons x t ih =>
    intro hk
    have h0 := hk 0 x rfl
    have ht := ih (fun i c e => hk (i + 1) c (by simpa using e))
    have e : ms_sz (x :: t) = ms_cs x + ms_sz t := by simp [ms_sz]
    rw [e, List.length_cons, Nat.mul_succ]
    omega
theorem INV.sz (hI : INV h S) : h.length ≤ 600000 ∧ ms_sz h ≤ 7302250 := by
  obtain ⟨hc, ⟨k1, u2, ⟨sp, z1⟩, ⟨a98, a99, a100, a101, a102, a104, a105, a106, a107, a108, a109⟩, a103⟩, -, hl⟩ := hI
  have lay := cLay
  obtain ⟨h0, ⟨p, hs⟩, hT, ⟨B, hR⟩, hP, hK, hG, ⟨t, be, htb, hO⟩⟩ := hc
  obtain ⟨l, s0, s1, s2, -⟩ := hs
  obtain ⟨qs, ps, g0, g1, g2, g3, g4, -⟩ := hG
  obtain ⟨o0, o1, o2, o3⟩ := hO
  have q0 : SM h 0 1 := SM.one h0 (by show 7 ≤ 300; omega)
  have q1 : SM h 1 1 := SM.one s0 (by show 3 ≤ 300; omega)
  have q2 : SM h 2 1 := SM.one s1 (by show l.length ≤ 300; omega)
  have q3 : SM h 3 7 := hT.sm
  have q10 : SM h 10 7 := hR.sm
  have q17 : SM h 17 58 := hP.sm (by omega)
  have q75 : SM h 75 16 := hK.sm (by omega)
  have q91 : SM h 91 1 := SM.one g0 (by show 3 ≤ 300; omega)
  have q92 : SM h 92 1 := SM.one g1 (cs_ia g3 (by omega))
  have q93 : SM h 93 1 := SM.one g2 (cs_ia g4 (by omega))
  have q94 : SM h 94 1 := SM.one o0 (by show 2 ≤ 300; omega)
  have q95 : SM h 95 1 := SM.one o1 (by show (t.map nI).length ≤ 300; rw [List.length_map, htb.1]; omega)
  have q96 : SM h 96 1 := SM.one o2 (cs_ia o3 (by omega))
  have q97 : SM h 97 1 := SM.one z1 (by show 21 ≤ 300; omega)
  have all : ∀ i, i < 110 → ∃ c, h[i]? = some c ∧ ms_cs c ≤ 300 := by
    intro i hi
    by_cases c : i < 97
    · exact ((((((((((((q0.cat q1 rfl).cat q2 rfl).cat q3 rfl).cat q10 rfl).cat q17 rfl).cat q75 rfl).cat q91 rfl).cat q92 rfl).cat q93 rfl).cat q94 rfl).cat q95 rfl).cat q96 rfl) i (Nat.zero_le _) (by omega)
    · have q := ((((((((((((q97.cat (a98.sm (by omega)) rfl).cat (a99.sm (by omega)) rfl).cat (a100.sm (by omega)) rfl).cat (a101.sm (by omega)) rfl).cat (a102.sm (by omega)) rfl).cat (a103.sm (by omega)) rfl).cat (a104.sm (by omega)) rfl).cat (a105.sm (by omega)) rfl).cat (a106.sm (by omega)) rfl).cat (a107.sm (by omega)) rfl).cat (a108.sm (by omega)) rfl).cat (a109.sm (by omega)) rfl)
      exact q i (by omega) (by omega)
  have hsz := sum_le (n := 300) h (fun i c e => by
    have hi : i < 110 := by rw [← hl]; exact (List.getElem?_eq_some_iff.mp e).1
    obtain ⟨c', e', k⟩ := all i hi
    rw [e] at e'
    cases e'
    exact k)
  rw [hl] at hsz
  exact ⟨by omega, by omega⟩
end SIZE
section LOOP
variable {sc : List Int32} {h : List ms_C} {Q : Option Value → List ms_C → Prop} {S : GS} {i : Nat}
theorem law_case (hI : INV h S) (hi5 : i + 5 ≤ sc.length) (hn : sc.length ≤ 2560) (next : ∀ h1 S1, INV h1 S1 → WP sc 134 840 [some (.float 0), some (.ref 0), some (.ref 97), some (.int (nI i))] [] h1 Q) : WP sc 134 26 [some (.float 0), some (.ref 0), some (.ref 97), some (.int (nI i))] [] h Q := by
      simp (disch := first | assumption | exact wn2_i | exact wn2_r | exact wn2_n | exact Nat.le_of_ble_eq_true rfl | omega | (refine nI_z ?_ ?_ <;> omega)) only [s134_26, s134_27, s134_28, s134_29, s134_31, wX_some, Option.toList_some, Option.toList_none, List.cons_append, List.nil_append, List.map_cons, List.map_nil, List.sum_cons, List.sum_nil, Value.category, wn2_i, wn2_r, wn2_n, Option.isSome_some, List.getElem?_cons_zero, List.getElem?_cons_succ, nI_add, nI_rem2, iat_n]
      rw [s134_32]
      by_cases c0 : sc.getD i 0 &&& nI 31 = nI 0
      · rw [if_pos c0]
        exact law_0 hI hi5 hn next
      rw [if_neg c0]
      by_cases c1 : sc.getD i 0 &&& nI 31 = nI 1
      · rw [if_pos c1]
        exact law_1 hI hi5 hn next
      rw [if_neg c1]
      by_cases c2 : sc.getD i 0 &&& nI 31 = nI 2
      · rw [if_pos c2]
        exact law_2 hI hi5 hn next
      rw [if_neg c2]
      by_cases c3 : sc.getD i 0 &&& nI 31 = nI 3
      · rw [if_pos c3]
        exact law_3 hI hi5 hn next
      rw [if_neg c3]
      by_cases c4 : sc.getD i 0 &&& nI 31 = nI 4
      · rw [if_pos c4]
        exact law_4 hI hi5 hn next
      rw [if_neg c4]
      by_cases c5 : sc.getD i 0 &&& nI 31 = nI 5
      · rw [if_pos c5]
        exact law_5 hI hi5 hn next
      rw [if_neg c5]
      by_cases c6 : sc.getD i 0 &&& nI 31 = nI 6
      · rw [if_pos c6]
        exact law_6 hI hi5 hn next
      rw [if_neg c6]
      by_cases c7 : sc.getD i 0 &&& nI 31 = nI 7
      · rw [if_pos c7]
        exact law_7 hI hi5 hn next
      rw [if_neg c7]
      by_cases c8 : sc.getD i 0 &&& nI 31 = nI 8
      · rw [if_pos c8]
        exact law_8 hI hi5 hn next
      rw [if_neg c8]
      by_cases c9 : sc.getD i 0 &&& nI 31 = nI 9
      · rw [if_pos c9]
        exact law_9 hI hi5 hn next
      rw [if_neg c9]
      by_cases c10 : sc.getD i 0 &&& nI 31 = nI 10
      · rw [if_pos c10]
        exact law_10 hI hi5 hn next
      rw [if_neg c10]
      by_cases c11 : sc.getD i 0 &&& nI 31 = nI 11
      · rw [if_pos c11]
        exact law_11 hI hi5 hn next
      rw [if_neg c11]
      by_cases c12 : sc.getD i 0 &&& nI 31 = nI 12
      · rw [if_pos c12]
        exact law_12 hI hi5 hn next
      rw [if_neg c12]
      by_cases c13 : sc.getD i 0 &&& nI 31 = nI 13
      · rw [if_pos c13]
        exact law_13 hI hi5 hn next
      rw [if_neg c13]
      by_cases c14 : sc.getD i 0 &&& nI 31 = nI 14
      · rw [if_pos c14]
        exact law_14 hI hi5 hn next
      rw [if_neg c14]
      by_cases c15 : sc.getD i 0 &&& nI 31 = nI 15
      · rw [if_pos c15]
        exact law_15 hI hi5 hn next
      rw [if_neg c15]
      by_cases c16 : sc.getD i 0 &&& nI 31 = nI 16
      · rw [if_pos c16]
        exact law_16 hI hi5 hn next
      rw [if_neg c16]
      by_cases c17 : sc.getD i 0 &&& nI 31 = nI 17
      · rw [if_pos c17]
        exact law_17 hI hi5 hn next
      rw [if_neg c17]
      by_cases c18 : sc.getD i 0 &&& nI 31 = nI 18
      · rw [if_pos c18]
        exact law_18 hI hi5 hn next
      rw [if_neg c18]
      by_cases c19 : sc.getD i 0 &&& nI 31 = nI 19
      · rw [if_pos c19]
        exact law_19 hI hi5 hn next
      rw [if_neg c19]
      by_cases c20 : sc.getD i 0 &&& nI 31 = nI 20
      · rw [if_pos c20]
        exact law_20 hI hi5 hn next
      rw [if_neg c20]
      by_cases c21 : sc.getD i 0 &&& nI 31 = nI 21
      · rw [if_pos c21]
        exact law_21 hI hi5 hn next
      rw [if_neg c21]
      by_cases c22 : sc.getD i 0 &&& nI 31 = nI 22
      · rw [if_pos c22]
        exact law_22 hI hi5 hn next
      rw [if_neg c22]
      by_cases c23 : sc.getD i 0 &&& nI 31 = nI 23
      · rw [if_pos c23]
        exact law_23 hI hi5 hn next
      rw [if_neg c23]
      by_cases c24 : sc.getD i 0 &&& nI 31 = nI 24
      · rw [if_pos c24]
        exact law_24 hI hi5 hn next
      rw [if_neg c24]
      by_cases c25 : sc.getD i 0 &&& nI 31 = nI 25
      · rw [if_pos c25]
        exact law_25 hI hi5 hn next
      rw [if_neg c25]
      exact next h S hI
theorem law_loop (hn : sc.length ≤ 2560) : ∀ f i h S, sc.length < i + f → i ≤ 3000 → INV h S → WP sc 134 18 [some (.float 0), some (.ref 0), some (.ref 97), some (.int (nI i))] [] h (fun r h' => r = some (.int 1) ∧ h'.length ≤ 600000 ∧ ms_sz h' ≤ 7302250) := by
  intro f
  induction f with
  | zero =>
    intro i h S hf hi hI
    have n1 : nI sc.length - nI 5 < nI i := by
      by_cases c : 5 ≤ sc.length
      · rw [nI_sub c]
        exact nI_lt (by omega) (by omega)
      · exact Int32.lt_of_lt_of_le (pk_sneg (show (5 : Nat) < 2 ^ 30 by omega) (by omega)) (by rw [← nI_0]; exact nI_le (Nat.zero_le _) (by omega))
    have b11' : (nI 1 = 0 ∨ nI 1 = 1) ↔ True := ⟨fun _ => trivial, fun _ => Or.inr rfl⟩
    rw [s134_18]
    simp (disch := first | assumption | exact wn2_i | exact wn2_r | exact wn2_n | exact Nat.le_of_ble_eq_true rfl | omega | (refine nI_z ?_ ?_ <;> omega)) only [s134_19, s134_20, s134_21, s134_22, s134_23, s134_846, s134_847, wX_some, Option.toList_some, Option.toList_none, List.cons_append, List.nil_append, List.map_cons, List.map_nil, List.sum_cons, List.sum_nil, Value.category, wn2_i, wn2_r, wn2_n, Option.isSome_some, List.getElem?_cons_zero, List.getElem?_cons_succ, nI_add, nI_rem2, n1, if_true, b11', true_and]
    exact ⟨rfl, hI.sz⟩
  | succ f ih =>
    intro i h S hf hi hI
    by_cases c : i + 5 ≤ sc.length
    · have n1 : ¬ nI sc.length - nI 5 < nI i := by
        rw [nI_sub (by omega)]
        exact nI_nlt (by omega) (by omega)
      rw [s134_18]
      simp (disch := first | assumption | exact wn2_i | exact wn2_r | exact wn2_n | exact Nat.le_of_ble_eq_true rfl | omega | (refine nI_z ?_ ?_ <;> omega)) only [s134_19, s134_20, s134_21, s134_22, s134_23, wX_some, Option.toList_some, Option.toList_none, List.cons_append, List.nil_append, List.map_cons, List.map_nil, List.sum_cons, List.sum_nil, Value.category, wn2_i, wn2_r, wn2_n, Option.isSome_some, List.getElem?_cons_zero, List.getElem?_cons_succ, nI_add, nI_rem2, n1, if_false]
      refine law_case hI c hn (fun h1 S1 hI1 => ?_)
      simp (disch := first | assumption | exact wn2_i | exact wn2_r | exact wn2_n | exact Nat.le_of_ble_eq_true rfl | omega | (refine nI_z ?_ ?_ <;> omega)) only [s134_840, s134_843, wX_some, Option.toList_some, Option.toList_none, List.cons_append, List.nil_append, List.map_cons, List.map_nil, List.sum_cons, List.sum_nil, Value.category, wn2_i, wn2_r, wn2_n, Option.isSome_some, List.getElem?_cons_zero, List.getElem?_cons_succ, nI_add, nI_rem2]
      exact ih (i + 5) h1 S1 (by omega) (by omega) hI1
    · have n1 : nI sc.length - nI 5 < nI i := by
        by_cases c2 : 5 ≤ sc.length
        · rw [nI_sub c2]
          exact nI_lt (by omega) (by omega)
        · exact Int32.lt_of_lt_of_le (pk_sneg (show (5 : Nat) < 2 ^ 30 by omega) (by omega)) (by rw [← nI_0]; exact nI_le (Nat.zero_le _) (by omega))
      have b11' : (nI 1 = 0 ∨ nI 1 = 1) ↔ True := ⟨fun _ => trivial, fun _ => Or.inr rfl⟩
      rw [s134_18]
      simp (disch := first | assumption | exact wn2_i | exact wn2_r | exact wn2_n | exact Nat.le_of_ble_eq_true rfl | omega | (refine nI_z ?_ ?_ <;> omega)) only [s134_19, s134_20, s134_21, s134_22, s134_23, s134_846, s134_847, wX_some, Option.toList_some, Option.toList_none, List.cons_append, List.nil_append, List.map_cons, List.map_nil, List.sum_cons, List.sum_nil, Value.category, wn2_i, wn2_r, wn2_n, Option.isSome_some, List.getElem?_cons_zero, List.getElem?_cons_succ, nI_add, nI_rem2, n1, if_true, b11', true_and]
      exact ⟨rfl, hI.sz⟩
theorem inv0 : INV HH S0 := ⟨cis0, mis0, gis0, hh_len⟩
theorem s134_0 {L : List (Option Value)} {S : List Value} : WP sc 134 0 L S h Q ↔ WP sc 134 3 L (.ref h.length :: S) (h ++ [.inl (5, ms_d 5)]) Q := wp_on (by decide +kernel : decode (ms_B 134) 0 = .ok (.new 7, 3)) rfl (fun _ _ => rfl)
theorem s134_8 {L : List (Option Value)} {S : List Value} : WP sc 134 8 L S h Q ↔ WP sc 134 11 L (.ref h.length :: S) (h ++ [.inl (6, ms_d 6)]) Q := wp_on (by decide +kernel : decode (ms_B 134) 8 = .ok (.new 10, 3)) rfl (fun _ _ => rfl)
theorem wp_run {y : Nat} {L : List (Option Value)} {g : List ms_C} {f : Nat} (e : eqR (sb_run f y 0 L [] h) g = true) (k : Q none g) : WP sc y 0 L [] h Q :=
  ⟨f, none, g, sb_ok _ _ _ _ _ _ _ (eqR_ok e), k⟩
theorem law_run (hn : sc.length ≤ 2560) : WP sc 134 0 [some (.float 0), none, none, none] [] [] (fun r h' => r = some (.int 1) ∧ h'.length ≤ 600000 ∧ ms_sz h' ≤ 7302250) := by
  rw [s134_0]
  simp (disch := first | assumption | exact wn2_i | exact wn2_r | exact wn2_n | exact Nat.le_of_ble_eq_true rfl | omega | (refine nI_z ?_ ?_ <;> omega)) only [s134_3, wX_some, Option.toList_some, Option.toList_none, List.cons_append, List.nil_append, List.map_cons, List.map_nil, List.sum_cons, List.sum_nil, Value.category, wn2_i, wn2_r, wn2_n, Option.isSome_some, List.getElem?_cons_zero, List.getElem?_cons_succ, nI_add, nI_rem2]
  refine (wp_spec (vs := [.ref 0]) (rest := [.ref 0]) (by decide +kernel : decode (ms_B 134) 4 = .ok (.invokespecial 9, 3)) rfl rfl rfl rfl (by decide) (by decide) (by decide) (by simp [ms_args, ms_L, ms_Ll]) rfl).mpr ?_
  refine wp_run ctor_class ?_
  have wf : wn_ok (some (.float 0)) = true := rfl
  simp (disch := first | assumption | exact wn2_i | exact wn2_r | exact wn2_n | exact Nat.le_of_ble_eq_true rfl | omega | (refine nI_z ?_ ?_ <;> omega)) only [s134_7, wX_some, Option.toList_some, Option.toList_none, List.cons_append, List.nil_append, List.map_cons, List.map_nil, List.sum_cons, List.sum_nil, Value.category, wn2_i, wn2_r, wn2_n, Option.isSome_some, List.getElem?_cons_zero, List.getElem?_cons_succ, nI_add, nI_rem2, Nat.reduceAdd]
  rw [s134_8]
  simp (disch := first | assumption | exact wn2_i | exact wn2_r | exact wn2_n | exact Nat.le_of_ble_eq_true rfl | omega | (refine nI_z ?_ ?_ <;> omega)) only [s134_11, wX_some, Option.toList_some, Option.toList_none, List.cons_append, List.nil_append, List.map_cons, List.map_nil, List.sum_cons, List.sum_nil, Value.category, wn2_i, wn2_r, wn2_n, Option.isSome_some, List.getElem?_cons_zero, List.getElem?_cons_succ, nI_add, nI_rem2]
  have hl : H0.length = 97 := by decide +kernel
  rw [hl]
  refine (wp_spec (vs := [.ref 97]) (rest := [.ref 97]) (by decide +kernel : decode (ms_B 134) 12 = .ok (.invokespecial 12, 3)) rfl rfl rfl rfl (by decide) (by decide) (by decide) (by simp [ms_args, ms_L, ms_Ll]) rfl).mpr ?_
  refine wp_run ctor_model ?_
  simp (disch := first | assumption | exact wn2_i | exact wn2_r | exact wn2_n | exact Nat.le_of_ble_eq_true rfl | omega | (refine nI_z ?_ ?_ <;> omega)) only [s134_15, s134_16, s134_17, wX_some, Option.toList_some, Option.toList_none, List.cons_append, List.nil_append, List.map_cons, List.map_nil, List.sum_cons, List.sum_nil, Value.category, wn2_i, wn2_r, wn2_n, Option.isSome_some, List.getElem?_cons_zero, List.getElem?_cons_succ, nI_add, nI_rem2, Nat.reduceAdd]
  exact law_loop hn 3000 0 HH S0 (by omega) (by omega) inv0
end LOOP
theorem pure_law (xs : List Int32) (hx : xs.length ≤ 2560) : ∃ (f : Nat) (h' : List ms_C), ms_run xs f 134 0 (ms_init [.float 0] 4) [] [] = some (some (.int 1), h') ∧ h'.length ≤ 600000 ∧ ms_sz h' ≤ 7302250 := by
  obtain ⟨f, r, h', e, rfl, q1, q2⟩ := law_run hx
  exact ⟨f, h', e, q1, q2⟩

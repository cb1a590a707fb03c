-- Pile: towns as they stood
def pad (p j : Nat) : Nat := p + 2 + 7 * j
/-- the pile at p of K towns holds As, the latest last; js: which of its towns lies where -/
def PJ (h : List ms_C) (p K : Nat) (js : List Nat) (As : List AS) : Prop := (js.length = K ∧ js.Nodup ∧ ∀ j ∈ js, j < K) ∧ As.length ≤ K ∧ h[p]? = some (ms_obj 1 [.ref (p + 1), .int (nI As.length)]) ∧ h[p + 1]? = some (ms_ra (js.map fun j => some (pad p j))) ∧ (∀ j, j < K → ∃ A, TA h (pad p j) A) ∧ ∀ (i : Nat) (A : AS), As[i]? = some A → ∃ j, js[i]? = some j ∧ TA h (pad p j) A
def PA (h : List ms_C) (p K : Nat) (As : List AS) : Prop := ∃ js, PJ h p K js As
theorem PA.offX {h h1 : List ms_C} {p K : Nat} {As : List AS} {P : Nat → Prop} (hp : PA h p K As) (ho : OffX h h1 P) (hd : ∀ i, p ≤ i → i < p + 2 + 7 * K → ¬ P i) : PA h1 p K As := by
  obtain ⟨js, a, b, c, d, e, f⟩ := hp
  have tt : ∀ j A, j < K → TA h (pad p j) A → TA h1 (pad p j) A := fun j A hj hT => hT.offX ho (fun i h1 h2 => hd i (by unfold pad at h1; omega) (by unfold pad at h2; omega))
  refine ⟨js, a, b, (ho.2 _ (hd _ (by omega) (by omega))).trans c, (ho.2 _ (hd _ (by omega) (by omega))).trans d, fun j hj => ?_, fun i A hi => ?_⟩
  · obtain ⟨A, hA⟩ := e j hj
    exact ⟨A, tt j A hj hA⟩
  · obtain ⟨j, h1, h2⟩ := f i A hi
    exact ⟨j, h1, tt j A (a.2.2 j (List.mem_of_getElem? h1)) h2⟩
section PILE
variable {sc : List Int32} {h : List ms_C} {Q : Option Value → List ms_C → Prop} {p K b : Nat} {js : List Nat} {As : List AS} {B : AS}
theorem pl_get {js : List Nat} {p i : Nat} (hi : i < js.length) : (js.map fun j => some (pad p j)).getD i none = some (pad p (js.getD i 0)) := by
  simp [List.getD_eq_getElem?_getD, hi]
theorem js_get {js : List Nat} {i : Nat} (hi : i < js.length) : js[i]? = some (js.getD i 0) := by
  simp [List.getD_eq_getElem?_getD, hi]
/-- the latest is taken back into the town at b -/
theorem takeInto_wp (hp : PA h p K As) (hK : K ≤ 8) (hU : ∃ B, TA h b B) (hd : b + 7 ≤ p ∨ p + 2 + 7 * K ≤ b) (hA : ∀ A ∈ As, A 7 0 ≤ 6 ∧ A 7 1 ≤ 6) (k0 : As = [] → Q (some (.int (nI 0))) h)
    (k : ∀ h1 A, As.getLast? = some A → TA h1 b A → PA h1 p K As.dropLast → OffX h h1 (fun i => (b ≤ i ∧ i < b + 7) ∨ i = p) → Q (some (.int (nI 1))) h1) : WP sc 9 0 [some (.ref p), some (.ref b)] [] h Q := by
  obtain ⟨js, ⟨a1, a2, a3⟩, hl, c0, c1, c2, c3⟩ := hp
  obtain ⟨B, hU⟩ := hU
  have hg := g_obj c0
  have hi := i_obj c0
  have hrow := a_row c1
  have hlp := lt_of_some c0
  by_cases he : As = []
  · subst he
    have n1 : ¬ 0 < nI ([] : List AS).length := fun q => by simp [nI_0] at q
    simp (disch := first | assumption | exact wn2_i | exact wn2_r | exact wn2_n | exact Nat.le_of_ble_eq_true rfl | omega | (refine nI_z ?_ ?_ <;> omega)) only [s9_0, s9_1, s9_4, s9_7, s9_8, s9_9, s9_10, s9_11, s9_14, s9_15, s9_16, s9_19, s9_20, s9_21, s9_24, s9_25, s9_28, s9_29, s9_32, s9_33, wX_some, Option.toList_some, Option.toList_none, List.cons_append, List.nil_append, List.map_cons, List.map_nil, List.sum_cons, List.sum_nil, Value.category, wn2_i, wn2_r, wn2_n, Option.isSome_some, List.getElem?_cons_zero, List.getElem?_cons_succ, nI_add, nI_rem2, hg, n1, if_false, nI_eq0, true_or, true_and]
    exact k0 rfl
  · have hpos : 0 < As.length := List.length_pos_iff.mpr he
    have n1 : 0 < nI As.length := by rw [← nI_0]; exact nI_lt hpos (by omega)
    have hm : nI As.length - nI 1 = nI (As.length - 1) := nI_sub (by omega)
    have hlt : As.length - 1 < js.length := by omega
    have hjs := js_get hlt
    obtain ⟨A, hlast⟩ : ∃ A, As.getLast? = some A := by
      rw [List.getLast?_eq_getElem?]
      exact ⟨_, List.getElem?_eq_getElem (by omega)⟩
    have hlast' := hlast
    rw [List.getLast?_eq_getElem?] at hlast'
    obtain ⟨j, hj1, hj2⟩ := c3 _ _ hlast'
    have hje : js.getD (As.length - 1) 0 = j := Option.some.inj (hjs.symm.trans hj1)
    have hjK := a3 j (List.mem_of_getElem? hj1)
    obtain ⟨q1, q2⟩ := hA A (List.mem_of_getElem? hlast')
    have hpad : p + 2 ≤ pad p j ∧ pad p j + 7 ≤ p + 2 + 7 * K := by unfold pad; omega
    have hIb : (ms_is (h.set p (ms_obj 1 [.ref (p + 1), .int (nI (As.length - 1))])) b 4).isSome = true := by
      obtain ⟨kd, we, us, di, st, wo, z0, -⟩ := hU
      rw [i_ne (by omega), i_obj z0]; rfl
    simp (disch := first | assumption | exact wn2_i | exact wn2_r | exact wn2_n | exact Nat.le_of_ble_eq_true rfl | omega | (refine nI_z ?_ ?_ <;> omega)) only [s9_0, s9_1, s9_4, s9_7, s9_8, s9_9, s9_10, s9_11, s9_14, s9_15, s9_16, s9_19, s9_20, s9_21, s9_24, s9_25, s9_28, s9_29, s9_32, s9_33, wX_some, Option.toList_some, Option.toList_none, List.cons_append, List.nil_append, List.map_cons, List.map_nil, List.sum_cons, List.sum_nil, Value.category, wn2_i, wn2_r, wn2_n, Option.isSome_some, List.getElem?_cons_zero, List.getElem?_cons_succ, nI_add, nI_rem2, hg, hi, n1, if_true, hm, List.set_cons_succ, List.set_cons_zero, List.length_cons, List.length_nil, Nat.reduceAdd, Nat.reduceLT, true_and, g_eq, r_ne, hrow, iat_n, List.length_map, pl_get, hje]
    have ho0 : OffX h (h.set p (ms_obj 1 [.ref (p + 1), .int (nI (As.length - 1))])) (fun i => (b ≤ i ∧ i < b + 7) ∨ i = p) := OffX.rf.st (Or.inr rfl)
    refine become_wp (b := pad p j) (hU.off (b := p) (n := 1) (Off.rf.st (by omega) (by omega)) (by omega)) (hj2.off (b := p) (n := 1) (Off.rf.st (by omega) (by omega)) (by omega)) (by omega) q1 q2 (fun h1 hT1 ho1 => ?_)
    simp (disch := first | assumption | exact wn2_i | exact wn2_r | exact wn2_n | exact Nat.le_of_ble_eq_true rfl | omega | (refine nI_z ?_ ?_ <;> omega)) only [s9_32, s9_33, wX_some, Option.toList_some, Option.toList_none, List.cons_append, List.nil_append, List.map_cons, List.map_nil, List.sum_cons, List.sum_nil, Value.category, wn2_i, wn2_r, wn2_n, Option.isSome_some, List.getElem?_cons_zero, List.getElem?_cons_succ, nI_add, nI_rem2, nI_eq1, or_true, true_and]
    have ho : OffX h h1 (fun i => (b ≤ i ∧ i < b + 7) ∨ i = p) := ho0.tr (ho1.x (fun i x1 x2 => Or.inl ⟨x1, x2⟩))
    have tt : ∀ j A, TA h (pad p j) A → j < K → TA h1 (pad p j) A := fun j A hT hj => hT.offX ho (fun i x1 x2 => by unfold pad at x1 x2; omega)
    refine k _ A hlast hT1 ⟨js, ⟨a1, a2, a3⟩, by simp; omega, ?_, ?_, fun j hj => ?_, fun i A' hi' => ?_⟩ ho
    · rw [ho1.2 p (by omega), s_eq hlp]; simp
    · rw [ho1.2 (p + 1) (by omega), List.getElem?_set_ne (by omega)]; exact c1
    · obtain ⟨A', hA'⟩ := c2 j hj
      exact ⟨A', tt j A' hA' hj⟩
    · have : As[i]? = some A' := by
        rw [List.getElem?_dropLast] at hi'
        split at hi'
        · exact hi'
        · cases hi'
      obtain ⟨j', x1, x2⟩ := c3 i A' this
      exact ⟨j', x1, tt j' A' x2 (a3 j' (List.mem_of_getElem? x1))⟩
end PILE
section PILE2
variable {sc : List Int32} {h : List ms_C} {Q : Option Value → List ms_C → Prop} {p K b sz : Nat} {js : List Nat} {As : List AS} {B : AS}
/-- after i moves: the first i places hold what stood one behind -/
def shf (js : List Nat) (i : Nat) : List Nat := (js.drop 1).take i ++ js.drop i
theorem shf_len {js : List Nat} {i : Nat} (hi : i + 1 ≤ js.length) : (shf js i).length = js.length := by simp [shf]; omega
theorem shf_get {js : List Nat} {i : Nat} (hi : i + 1 < js.length) : (shf js i).getD (i + 1) 0 = js.getD (i + 1) 0 := by
  unfold shf
  simp only [List.getD_eq_getElem?_getD]
  rw [List.getElem?_append_right (by simp; omega)]
  simp
  congr 2
  omega
theorem shf_set {js : List Nat} {i : Nat} (hi : i + 1 < js.length) : (shf js i).set i (js.getD (i + 1) 0) = shf js (i + 1) := by
  apply List.ext_getElem?
  intro j
  unfold shf
  rw [List.getElem?_set]
  by_cases hj : i = j
  · subst hj
    have h1 : i < ((js.drop 1).take i ++ js.drop i).length := by simp; omega
    rw [if_pos rfl, if_pos h1, List.getElem?_append_left (by simp; omega)]
    simp [List.getD_eq_getElem?_getD, List.getElem?_take, Nat.add_comm 1 i]
    rw [List.getElem?_eq_getElem (by omega)]
    rfl
  · rw [if_neg hj]
    by_cases hl : j < i
    · rw [List.getElem?_append_left (by simp; omega), List.getElem?_append_left (by simp; omega)]
      simp [List.getElem?_take, hl]
      omega
    · rw [List.getElem?_append_right (by simp; omega), List.getElem?_append_right (by simp; omega)]
      simp
      congr 1
      omega
theorem shf_end {js : List Nat} {n : Nat} (hn : js.length = n + 1) : (shf js n).set n (js.getD 0 0) = js.drop 1 ++ [js.getD 0 0] := by
  cases js with
  | nil => simp at hn
  | cons x t =>
    simp at hn
    unfold shf
    have e1 : ((x :: t).drop 1).take n = t := by simp [← hn]
    rw [e1]
    rw [List.set_append_right _ _ (by omega)]
    cases hd : (x :: t).drop n with
    | nil => have := congrArg List.length hd; simp at this; omega
    | cons y s =>
      have : s = [] := by have := congrArg List.length hd; simp at this; exact List.eq_nil_of_length_eq_zero (by omega)
      subst this
      simp [hn]
theorem dropLowest_wp (c0 : h[p]? = some (ms_obj 1 [.ref (p + 1), .int (nI sz)])) (hl : js.length = K) (hK : 1 ≤ K ∧ K ≤ 8) (c1 : h[p + 1]? = some (ms_ra (js.map fun j => some (pad p j)))) (ht : ∀ j ∈ js, ∃ A, TA h (pad p j) A) {l1 l2 : Option Value}
    (k : ∀ h1, h1[p]? = some (ms_obj 1 [.ref (p + 1), .int (nI (K - 1))]) → h1[p + 1]? = some (ms_ra ((js.drop 1 ++ [js.getD 0 0]).map fun j => some (pad p j))) → OffX h h1 (fun i => i = p ∨ i = p + 1) → Q none h1) : WP sc 8 0 [some (.ref p), l1, l2] [] h Q := by
  have hg := g_obj c0
  have hrow := a_row c1
  have hj0 : js.getD 0 0 ∈ js := List.mem_of_getElem? (js_get (by omega))
  have e0 : nI K - nI 1 = nI (K - 1) := nI_sub hK.1
  have isT : ∀ {h1 : List ms_C} {j : Nat}, OffX h h1 (fun i => i = p ∨ i = p + 1) → j ∈ js → ∃ fs, ms_is h1 (pad p j) 4 = some fs := by
    intro h1 j ho hj
    obtain ⟨A, hA⟩ := ht j hj
    have hT1 := hA.offX ho (fun i x1 x2 => by unfold pad at x1 x2; omega)
    obtain ⟨kd, we, us, di, st, wo, z0, -⟩ := hT1
    exact ⟨_, i_obj z0⟩
  have key : ∀ i, i ≤ K - 1 → ∀ h1, h1[p]? = some (ms_obj 1 [.ref (p + 1), .int (nI sz)]) → h1[p + 1]? = some (ms_ra ((shf js i).map fun j => some (pad p j))) → OffX h h1 (fun i => i = p ∨ i = p + 1) → WP sc 8 9 [some (.ref p), some (.ref (pad p (js.getD 0 0))), some (.int (nI (i + 1)))] [] h1 Q := by
    refine loop_up ?_ ?_
    · intro h1 x0 x1 ho
      have hg := g_obj x0
      have hi := i_obj x0
      have hrow := a_row x1
      have hlen : (shf js (K - 1)).length = K := by rw [shf_len (by omega), hl]
      have hge : nI K ≤ nI (K - 1 + 1) := nI_le (by omega) (by omega)
      obtain ⟨fs, hfs⟩ := isT ho hj0
      have hlp := lt_of_some x0
      have hlr := lt_of_some x1
      rw [s8_9]
      simp (disch := first | assumption | exact wn2_i | exact wn2_r | exact wn2_n | exact Nat.le_of_ble_eq_true rfl | omega | (refine nI_z ?_ ?_ <;> omega)) only [s8_10, s8_11, s8_14, s8_15, s8_18, s8_19, s8_22, s8_23, s8_24, s8_25, s8_26, s8_29, s8_30, s8_31, s8_32, s8_35, s8_38, s8_39, s8_42, s8_43, s8_46, s8_47, s8_48, s8_49, s8_50, s8_51, s8_52, s8_53, s8_56, s8_57, s8_58, s8_59, s8_62, wX_some, Option.toList_some, Option.toList_none, List.cons_append, List.nil_append, List.map_cons, List.map_nil, List.sum_cons, List.sum_nil, Value.category, wn2_i, wn2_r, wn2_n, Option.isSome_some, List.getElem?_cons_zero, List.getElem?_cons_succ, nI_add, nI_rem2, hg, hrow, List.length_map, hlen, hge, if_true, e0, hfs, iat_n, r_ne, g_ne, i_ne, hi, List.set_cons_succ, List.set_cons_zero, List.length_cons, List.length_nil, Nat.reduceAdd, Nat.reduceLT, true_and]
      sorry
    · intro i hlt ih h1 x0 x1 ho
      sorry
  simp (disch := first | assumption | exact wn2_i | exact wn2_r | exact wn2_n | exact Nat.le_of_ble_eq_true rfl | omega | (refine nI_z ?_ ?_ <;> omega)) only [s8_0, s8_1, s8_4, s8_5, s8_6, s8_7, s8_8, wX_some, Option.toList_some, Option.toList_none, List.cons_append, List.nil_append, List.map_cons, List.map_nil, List.sum_cons, List.sum_nil, Value.category, wn2_i, wn2_r, wn2_n, Option.isSome_some, List.getElem?_cons_zero, List.getElem?_cons_succ, nI_add, nI_rem2, hg, hrow, iat_n, List.length_map, hl, pl_get]
  exact key 0 (by omega) h c0 (by simpa [shf] using c1) OffX.rf
end PILE2

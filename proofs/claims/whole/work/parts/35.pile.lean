-- Pile: towns as they stood
def pad (p j : Nat) : Nat := p + 2 + 7 * j
/-- the pile at p of K towns holds As, the latest last; js: which of its towns lies where -/
def PJ (h : List ms_C) (p K : Nat) (js : List Nat) (As : List AS) : Prop := (js.length = K ∧ js.Nodup ∧ ∀ j ∈ js, j < K) ∧ As.length ≤ K ∧ h[p]? = some (ms_obj 1 [.ref (p + 1), .int (nI As.length)]) ∧ h[p + 1]? = some (ms_ra (js.map fun j => some (pad p j))) ∧ (∀ j, j < K → ∃ A, TA h (pad p j) A) ∧ ∀ (i : Nat) (A : AS), As[i]? = some A → ∃ j, js[i]? = some j ∧ TA h (pad p j) A
def PA (h : List ms_C) (p K : Nat) (As : List AS) : Prop := ∃ js, PJ h p K js As
theorem PA.offX {h h1 : List ms_C} {p K : Nat} {As : List AS} {P : Nat → Prop} (hp : PA h p K As) (ho : OffX h h1 P) (hd : ∀ i, p ≤ i → i < p + 2 + 7 * K → ¬ P i) : PA h1 p K As := by
  obtain ⟨js, a, b, c, d, e, f⟩ := hp
  have tt : ∀ j A, j < K → TA h (pad p j) A → TA h1 (pad p j) A := fun j A hj hT => hT.offX ho (fun i h1 h2 => hd i (by unfold pad at h1; omega) (by unfold pad at h2; omega))
  refine ⟨js, a, b, (ho.2 _ (hd _ (by omega) (by omega))).trans c, (ho.2 _ (hd _ (by omega) (by omega))).trans d, fun j hj => ?_, fun i A hi => ?_⟩
  · obtain ⟨A, hA⟩ := e j hj
    exact ⟨A, tt j A hj hA⟩
  · obtain ⟨j, h1, h2⟩ := f i A hi
    exact ⟨j, h1, tt j A (a.2.2 j (List.mem_of_getElem? h1)) h2⟩
section PILE
variable {sc : List Int32} {h : List ms_C} {Q : Option Value → List ms_C → Prop} {p K b : Nat} {js : List Nat} {As : List AS} {B : AS}
theorem pl_get {js : List Nat} {p i : Nat} (hi : i < js.length) : (js.map fun j => some (pad p j)).getD i none = some (pad p (js.getD i 0)) := by
  simp [List.getD_eq_getElem?_getD, hi]
theorem js_get {js : List Nat} {i : Nat} (hi : i < js.length) : js[i]? = some (js.getD i 0) := by
  simp [List.getD_eq_getElem?_getD, hi]
/-- the latest is taken back into the town at b -/
theorem takeInto_wp (hp : PA h p K As) (hK : K ≤ 8) (hU : ∃ B, TA h b B) (hd : b + 7 ≤ p ∨ p + 2 + 7 * K ≤ b) (hA : ∀ A ∈ As, A 7 0 ≤ 6 ∧ A 7 1 ≤ 6) (k0 : As = [] → Q (some (.int (nI 0))) h)
    (k : ∀ h1 A, As.getLast? = some A → TA h1 b A → PA h1 p K As.dropLast → OffX h h1 (fun i => (b ≤ i ∧ i < b + 7) ∨ i = p) → Q (some (.int (nI 1))) h1) : WP sc 9 0 [some (.ref p), some (.ref b)] [] h Q := by
  obtain ⟨js, ⟨a1, a2, a3⟩, hl, c0, c1, c2, c3⟩ := hp
  obtain ⟨B, hU⟩ := hU
  have hg := g_obj c0
  have hi := i_obj c0
  have hrow := a_row c1
  have hlp := lt_of_some c0
  by_cases he : As = []
  · subst he
    have n1 : ¬ 0 < nI ([] : List AS).length := fun q => by simp [nI_0] at q
    simp (disch := first | assumption | exact wn2_i | exact wn2_r | exact wn2_n | exact Nat.le_of_ble_eq_true rfl | omega | (refine nI_z ?_ ?_ <;> omega)) only [s9_0, s9_1, s9_4, s9_7, s9_8, s9_9, s9_10, s9_11, s9_14, s9_15, s9_16, s9_19, s9_20, s9_21, s9_24, s9_25, s9_28, s9_29, s9_32, s9_33, wX_some, Option.toList_some, Option.toList_none, List.cons_append, List.nil_append, List.map_cons, List.map_nil, List.sum_cons, List.sum_nil, Value.category, wn2_i, wn2_r, wn2_n, Option.isSome_some, List.getElem?_cons_zero, List.getElem?_cons_succ, nI_add, nI_rem2, hg, n1, if_false, nI_eq0, true_or, true_and]
    exact k0 rfl
  · have hpos : 0 < As.length := List.length_pos_iff.mpr he
    have n1 : 0 < nI As.length := by rw [← nI_0]; exact nI_lt hpos (by omega)
    have hm : nI As.length - nI 1 = nI (As.length - 1) := nI_sub (by omega)
    have hlt : As.length - 1 < js.length := by omega
    have hjs := js_get hlt
    obtain ⟨A, hlast⟩ : ∃ A, As.getLast? = some A := by
      rw [List.getLast?_eq_getElem?]
      exact ⟨_, List.getElem?_eq_getElem (by omega)⟩
    have hlast' := hlast
    rw [List.getLast?_eq_getElem?] at hlast'
    obtain ⟨j, hj1, hj2⟩ := c3 _ _ hlast'
    have hje : js.getD (As.length - 1) 0 = j := Option.some.inj (hjs.symm.trans hj1)
    have hjK := a3 j (List.mem_of_getElem? hj1)
    obtain ⟨q1, q2⟩ := hA A (List.mem_of_getElem? hlast')
    have hpad : p + 2 ≤ pad p j ∧ pad p j + 7 ≤ p + 2 + 7 * K := by unfold pad; omega
    have hIb : (ms_is (h.set p (ms_obj 1 [.ref (p + 1), .int (nI (As.length - 1))])) b 4).isSome = true := by
      obtain ⟨kd, we, us, di, st, wo, z0, -⟩ := hU
      rw [i_ne (by omega), i_obj z0]; rfl
    simp (disch := first | assumption | exact wn2_i | exact wn2_r | exact wn2_n | exact Nat.le_of_ble_eq_true rfl | omega | (refine nI_z ?_ ?_ <;> omega)) only [s9_0, s9_1, s9_4, s9_7, s9_8, s9_9, s9_10, s9_11, s9_14, s9_15, s9_16, s9_19, s9_20, s9_21, s9_24, s9_25, s9_28, s9_29, s9_32, s9_33, wX_some, Option.toList_some, Option.toList_none, List.cons_append, List.nil_append, List.map_cons, List.map_nil, List.sum_cons, List.sum_nil, Value.category, wn2_i, wn2_r, wn2_n, Option.isSome_some, List.getElem?_cons_zero, List.getElem?_cons_succ, nI_add, nI_rem2, hg, hi, n1, if_true, hm, List.set_cons_succ, List.set_cons_zero, List.length_cons, List.length_nil, Nat.reduceAdd, Nat.reduceLT, true_and, g_eq, r_ne, hrow, iat_n, List.length_map, pl_get, hje]
    have ho0 : OffX h (h.set p (ms_obj 1 [.ref (p + 1), .int (nI (As.length - 1))])) (fun i => (b ≤ i ∧ i < b + 7) ∨ i = p) := OffX.rf.st (Or.inr rfl)
    refine become_wp (b := pad p j) (hU.off (b := p) (n := 1) (Off.rf.st (by omega) (by omega)) (by omega)) (hj2.off (b := p) (n := 1) (Off.rf.st (by omega) (by omega)) (by omega)) (by omega) q1 q2 (fun h1 hT1 ho1 => ?_)
    simp (disch := first | assumption | exact wn2_i | exact wn2_r | exact wn2_n | exact Nat.le_of_ble_eq_true rfl | omega | (refine nI_z ?_ ?_ <;> omega)) only [s9_32, s9_33, wX_some, Option.toList_some, Option.toList_none, List.cons_append, List.nil_append, List.map_cons, List.map_nil, List.sum_cons, List.sum_nil, Value.category, wn2_i, wn2_r, wn2_n, Option.isSome_some, List.getElem?_cons_zero, List.getElem?_cons_succ, nI_add, nI_rem2, nI_eq1, or_true, true_and]
    have ho : OffX h h1 (fun i => (b ≤ i ∧ i < b + 7) ∨ i = p) := ho0.tr (ho1.x (fun i x1 x2 => Or.inl ⟨x1, x2⟩))
    have tt : ∀ j A, TA h (pad p j) A → j < K → TA h1 (pad p j) A := fun j A hT hj => hT.offX ho (fun i x1 x2 => by unfold pad at x1 x2; omega)
    refine k _ A hlast hT1 ⟨js, ⟨a1, a2, a3⟩, by simp; omega, ?_, ?_, fun j hj => ?_, fun i A' hi' => ?_⟩ ho
    · rw [ho1.2 p (by omega), s_eq hlp]; simp
    · rw [ho1.2 (p + 1) (by omega), List.getElem?_set_ne (by omega)]; exact c1
    · obtain ⟨A', hA'⟩ := c2 j hj
      exact ⟨A', tt j A' hA' hj⟩
    · have : As[i]? = some A' := by
        rw [List.getElem?_dropLast] at hi'
        split at hi'
        · exact hi'
        · cases hi'
      obtain ⟨j', x1, x2⟩ := c3 i A' this
      exact ⟨j', x1, tt j' A' x2 (a3 j' (List.mem_of_getElem? x1))⟩
end PILE
section PILE2
variable {sc : List Int32} {h : List ms_C} {Q : Option Value → List ms_C → Prop} {p K b sz : Nat} {js : List Nat} {As : List AS} {B : AS}
/-- after i moves: the first i places hold what stood one behind -/
def shf (js : List Nat) (i : Nat) : List Nat := (js.drop 1).take i ++ js.drop i
theorem shf_len {js : List Nat} {i : Nat} (hi : i + 1 ≤ js.length) : (shf js i).length = js.length := by simp [shf]; omega
theorem shf_get {js : List Nat} {i : Nat} (hi : i + 1 < js.length) : (shf js i).getD (i + 1) 0 = js.getD (i + 1) 0 := by
  unfold shf
  simp only [List.getD_eq_getElem?_getD]
  rw [List.getElem?_append_right (by simp; omega)]
  simp
  congr 2
  omega
theorem shf_set {js : List Nat} {i : Nat} (hi : i + 1 < js.length) : (shf js i).set i (js.getD (i + 1) 0) = shf js (i + 1) := by
  apply List.ext_getElem?
  intro j
  unfold shf
  rw [List.getElem?_set]
  by_cases hj : i = j
  · subst hj
    have h1 : i < ((js.drop 1).take i ++ js.drop i).length := by simp; omega
    rw [if_pos rfl, if_pos h1, List.getElem?_append_left (by simp; omega)]
    simp [List.getD_eq_getElem?_getD, List.getElem?_take, Nat.add_comm 1 i]
    rw [List.getElem?_eq_getElem (by omega)]
    rfl
  · rw [if_neg hj]
    by_cases hl : j < i
    · rw [List.getElem?_append_left (by simp; omega), List.getElem?_append_left (by simp; omega)]
      simp [List.getElem?_take, hl]
      omega
    · rw [List.getElem?_append_right (by simp; omega), List.getElem?_append_right (by simp; omega)]
      simp
      congr 1
      omega
theorem shf_end {js : List Nat} {n : Nat} (hn : js.length = n + 1) : (shf js n).set n (js.getD 0 0) = js.drop 1 ++ [js.getD 0 0] := by
  cases js with
  | nil => simp at hn
  | cons x t =>
    simp at hn
    unfold shf
    have e1 : ((x :: t).drop 1).take n = t := by simp [← hn]
    rw [e1]
    rw [List.set_append_right _ _ (by omega)]
    cases hd : (x :: t).drop n with
    | nil => have := congrArg List.length hd; simp at this; omega
    | cons y s =>
      have : s = [] := by have := congrArg List.length hd; simp at this; exact List.eq_nil_of_length_eq_zero (by omega)
      subst this
      simp [hn]
theorem dropLowest_wp (c0 : h[p]? = some (ms_obj 1 [.ref (p + 1), .int (nI sz)])) (hl : js.length = K) (hK : 1 ≤ K ∧ K ≤ 8) (c1 : h[p + 1]? = some (ms_ra (js.map fun j => some (pad p j)))) (ht : ∀ j ∈ js, ∃ A, TA h (pad p j) A) {l1 l2 : Option Value}
    (k : ∀ h1, h1[p]? = some (ms_obj 1 [.ref (p + 1), .int (nI (K - 1))]) → h1[p + 1]? = some (ms_ra ((js.drop 1 ++ [js.getD 0 0]).map fun j => some (pad p j))) → OffX h h1 (fun i => i = p ∨ i = p + 1) → Q none h1) : WP sc 8 0 [some (.ref p), l1, l2] [] h Q := by
  have hg := g_obj c0
  have hrow := a_row c1
  have hj0 : js.getD 0 0 ∈ js := List.mem_of_getElem? (js_get (by omega))
  have e0 : nI K - nI 1 = nI (K - 1) := nI_sub hK.1
  have isT : ∀ {h1 : List ms_C} {j : Nat}, OffX h h1 (fun i => i = p ∨ i = p + 1) → j ∈ js → ∃ fs, ms_is h1 (pad p j) 4 = some fs := by
    intro h1 j ho hj
    obtain ⟨A, hA⟩ := ht j hj
    have hT1 := hA.offX ho (fun i x1 x2 => by unfold pad at x1 x2; omega)
    obtain ⟨kd, we, us, di, st, wo, z0, -⟩ := hT1
    exact ⟨_, i_obj z0⟩
  have key : ∀ i, i ≤ K - 1 → ∀ h1, h1[p]? = some (ms_obj 1 [.ref (p + 1), .int (nI sz)]) → h1[p + 1]? = some (ms_ra ((shf js i).map fun j => some (pad p j))) → OffX h h1 (fun i => i = p ∨ i = p + 1) → WP sc 8 9 [some (.ref p), some (.ref (pad p (js.getD 0 0))), some (.int (nI (i + 1)))] [] h1 Q := by
    refine loop_up ?_ ?_
    · intro h1 x0 x1 ho
      have hg := g_obj x0
      have hi := i_obj x0
      have hrow := a_row x1
      have hlen : (shf js (K - 1)).length = K := by rw [shf_len (by omega), hl]
      have hge : nI K ≤ nI (K - 1 + 1) := nI_le (by omega) (by omega)
      obtain ⟨fs, hfs⟩ := isT ho hj0
      have hlp := lt_of_some x0
      have hlr := lt_of_some x1
      rw [s8_9]
      simp (disch := first | assumption | exact wn2_i | exact wn2_r | exact wn2_n | exact Nat.le_of_ble_eq_true rfl | omega | (refine nI_z ?_ ?_ <;> omega)) only [s8_10, s8_11, s8_14, s8_15, s8_18, s8_19, s8_22, s8_23, s8_24, s8_25, s8_26, s8_29, s8_30, s8_31, s8_32, s8_35, s8_38, s8_39, s8_42, s8_43, s8_46, s8_47, s8_48, s8_49, s8_50, wX_some, Option.toList_some, Option.toList_none, List.cons_append, List.nil_append, List.map_cons, List.map_nil, List.sum_cons, List.sum_nil, Value.category, wn2_i, wn2_r, wn2_n, Option.isSome_some, List.getElem?_cons_zero, List.getElem?_cons_succ, nI_add, nI_rem2, hg, hrow, List.length_map, hlen, hge, if_true, e0, hfs, iat_n]
      have y0 : (h1.set (p + 1) (ms_ra ((List.map (fun j => some (pad p j)) (shf js (K - 1))).set (K - 1) (some (pad p (js.getD 0 0))))))[p]? = some (ms_obj 1 [.ref (p + 1), .int (nI sz)]) := by rw [List.getElem?_set_ne (by omega)]; exact x0
      have y1 : (h1.set (p + 1) (ms_ra ((List.map (fun j => some (pad p j)) (shf js (K - 1))).set (K - 1) (some (pad p (js.getD 0 0))))))[p + 1]? = some (ms_ra ((js.drop 1 ++ [js.getD 0 0]).map fun j => some (pad p j))) := by
        rw [s_eq hlr, ← shf_end (js := js) (n := K - 1) (by omega), List.map_set]
      have ho1 : OffX h (h1.set (p + 1) (ms_ra ((List.map (fun j => some (pad p j)) (shf js (K - 1))).set (K - 1) (some (pad p (js.getD 0 0)))))) (fun i => i = p ∨ i = p + 1) := ho.st (Or.inr rfl)
      generalize h1.set (p + 1) (ms_ra ((List.map (fun j => some (pad p j)) (shf js (K - 1))).set (K - 1) (some (pad p (js.getD 0 0))))) = h2 at y0 y1 ho1 ⊢
      have hg := g_obj y0
      have hi := i_obj y0
      have hrow := a_row y1
      have hlen : (js.drop 1 ++ [js.getD 0 0]).length = K := by simp; omega
      have hlp := lt_of_some y0
      simp (disch := first | assumption | exact wn2_i | exact wn2_r | exact wn2_n | exact Nat.le_of_ble_eq_true rfl | omega | (refine nI_z ?_ ?_ <;> omega)) only [s8_51, s8_52, s8_53, s8_56, s8_57, s8_58, s8_59, s8_62, wX_some, Option.toList_some, Option.toList_none, List.cons_append, List.nil_append, List.map_cons, List.map_nil, List.sum_cons, List.sum_nil, Value.category, wn2_i, wn2_r, wn2_n, Option.isSome_some, List.getElem?_cons_zero, List.getElem?_cons_succ, nI_add, nI_rem2, hg, hrow, hi, List.length_map, hlen, e0, List.set_cons_succ, List.set_cons_zero, List.length_cons, List.length_nil, Nat.reduceAdd, Nat.reduceLT, true_and]
      exact k _ (s_eq hlp) (by rw [List.getElem?_set_ne (by omega)]; exact y1) (ho1.st (Or.inl rfl))
    · intro i hlt ih h1 x0 x1 ho
      have hg := g_obj x0
      have hrow := a_row x1
      have hlen : (shf js i).length = K := by rw [shf_len (by omega), hl]
      have hge : ¬ nI K ≤ nI (i + 1) := nI_ge (by omega) (by omega)
      have hget : (shf js i).getD (i + 1) 0 = js.getD (i + 1) 0 := shf_get (by omega)
      have hj1 : js.getD (i + 1) 0 ∈ js := List.mem_of_getElem? (js_get (by omega))
      obtain ⟨fs, hfs⟩ := isT ho hj1
      have e1 : nI (i + 1) - nI 1 = nI i := nI_sub (by omega)
      have hlr := lt_of_some x1
      rw [s8_9]
      simp (disch := first | assumption | exact wn2_i | exact wn2_r | exact wn2_n | exact Nat.le_of_ble_eq_true rfl | omega | (refine nI_z ?_ ?_ <;> omega)) only [s8_10, s8_11, s8_14, s8_15, s8_18, s8_19, s8_22, s8_23, s8_24, s8_25, s8_26, s8_29, s8_30, s8_31, s8_32, s8_35, wX_some, Option.toList_some, Option.toList_none, List.cons_append, List.nil_append, List.map_cons, List.map_nil, List.sum_cons, List.sum_nil, Value.category, wn2_i, wn2_r, wn2_n, Option.isSome_some, List.getElem?_cons_zero, List.getElem?_cons_succ, nI_add, nI_rem2, hg, hrow, List.length_map, hlen, hge, if_false, hfs, iat_n, pl_get, hget, e1]
      refine ih _ (by rw [List.getElem?_set_ne (by omega)]; exact x0) ?_ (ho.st (Or.inr rfl))
      rw [s_eq hlr, ← shf_set (by omega), List.map_set]
  simp (disch := first | assumption | exact wn2_i | exact wn2_r | exact wn2_n | exact Nat.le_of_ble_eq_true rfl | omega | (refine nI_z ?_ ?_ <;> omega)) only [s8_0, s8_1, s8_4, s8_5, s8_6, s8_7, s8_8, wX_some, Option.toList_some, Option.toList_none, List.cons_append, List.nil_append, List.map_cons, List.map_nil, List.sum_cons, List.sum_nil, Value.category, wn2_i, wn2_r, wn2_n, Option.isSome_some, List.getElem?_cons_zero, List.getElem?_cons_succ, nI_add, nI_rem2, hg, hrow, iat_n, List.length_map, hl, pl_get]
  exact key 0 (by omega) h c0 (by simpa [shf] using c1) OffX.rf
end PILE2

section PILE3
variable {sc : List Int32} {h : List ms_C} {Q : Option Value → List ms_C → Prop} {p K b : Nat} {js : List Nat} {As : List AS} {B : AS}
/-- the town at b is put on the pile; the lowest goes when there is no room -/
def psh (K : Nat) (As : List AS) (B : AS) : List AS := (if As.length < K then As else As.drop 1) ++ [B]
theorem putIn (c0 : h[p]? = some (ms_obj 1 [.ref (p + 1), .int (nI As.length)])) (a1 : js.length = K) (a2 : js.Nodup) (a3 : ∀ j ∈ js, j < K) (hl : As.length < K) (hK : K ≤ 8) (c1 : h[p + 1]? = some (ms_ra (js.map fun j => some (pad p j)))) (c2 : ∀ j, j < K → ∃ A, TA h (pad p j) A) (c3 : ∀ (i : Nat) (A : AS), As[i]? = some A → ∃ j, js[i]? = some j ∧ TA h (pad p j) A)
    (hU : TA h b B) (hn : B 7 0 ≤ 6) (hw : B 7 1 ≤ 6) (hd : b + 7 ≤ p ∨ p + 2 + 7 * K ≤ b) (k : ∀ h1, PA h1 p K (As ++ [B]) → Off h h1 p (2 + 7 * K) → Q none h1) : WP sc 7 16 [some (.ref p), some (.ref b)] [] h Q := by
  have hg := g_obj c0
  have hi := i_obj c0
  have hrow := a_row c1
  have hlt : As.length < js.length := by omega
  have hj := js_get hlt
  have hjK := a3 _ (List.mem_of_getElem? hj)
  obtain ⟨A0, hA0⟩ := c2 _ hjK
  have hpad : p + 2 ≤ pad p (js.getD As.length 0) ∧ pad p (js.getD As.length 0) + 7 ≤ p + 2 + 7 * K := by unfold pad; omega
  have hI : (ms_is h (pad p (js.getD As.length 0)) 4).isSome = true := by
    obtain ⟨kd, we, us, di, st, wo, z0, -⟩ := hA0
    rw [i_obj z0]; rfl
  simp (disch := first | assumption | exact wn2_i | exact wn2_r | exact wn2_n | exact Nat.le_of_ble_eq_true rfl | omega | (refine nI_z ?_ ?_ <;> omega)) only [s7_16, s7_17, s7_20, s7_21, s7_24, s7_25, s7_26, wX_some, Option.toList_some, Option.toList_none, List.cons_append, List.nil_append, List.map_cons, List.map_nil, List.sum_cons, List.sum_nil, Value.category, wn2_i, wn2_r, wn2_n, Option.isSome_some, List.getElem?_cons_zero, List.getElem?_cons_succ, nI_add, nI_rem2, hg, hrow, iat_n, List.length_map, pl_get]
  refine become_wp hA0 hU (by omega) hn hw (fun h1 hT1 ho1 => ?_)
  have y0 : h1[p]? = some (ms_obj 1 [.ref (p + 1), .int (nI As.length)]) := (ho1.2 p (by omega)).trans c0
  have y1 : h1[p + 1]? = some (ms_ra (js.map fun j => some (pad p j))) := (ho1.2 (p + 1) (by omega)).trans c1
  have hg := g_obj y0
  have hi := i_obj y0
  have hlp := lt_of_some y0
  simp (disch := first | assumption | exact wn2_i | exact wn2_r | exact wn2_n | exact Nat.le_of_ble_eq_true rfl | omega | (refine nI_z ?_ ?_ <;> omega)) only [s7_29, s7_30, s7_31, s7_34, s7_35, s7_36, s7_39, wX_some, Option.toList_some, Option.toList_none, List.cons_append, List.nil_append, List.map_cons, List.map_nil, List.sum_cons, List.sum_nil, Value.category, wn2_i, wn2_r, wn2_n, Option.isSome_some, List.getElem?_cons_zero, List.getElem?_cons_succ, nI_add, nI_rem2, hg, hi, List.set_cons_succ, List.set_cons_zero, List.length_cons, List.length_nil, Nat.reduceAdd, Nat.reduceLT, true_and]
  have ho2 : Off h1 (h1.set p (ms_obj 1 [.ref (p + 1), .int (nI (As.length + 1))])) p 1 := Off.rf.st (by omega) (by omega)
  have keepT : ∀ j A, TA h1 (pad p j) A → TA (h1.set p (ms_obj 1 [.ref (p + 1), .int (nI (As.length + 1))])) (pad p j) A := fun j A hT => hT.off ho2 (by unfold pad; omega)
  have other : ∀ j A, j ≠ js.getD As.length 0 → TA h (pad p j) A → TA h1 (pad p j) A := fun j A hne hT => hT.off ho1 (by unfold pad; omega)
  refine k _ ⟨js, ⟨a1, a2, a3⟩, by simp; omega, ?_, ?_, fun j hj => ?_, fun i A hA => ?_⟩ ?_
  · rw [s_eq hlp]; simp
  · rw [List.getElem?_set_ne (by omega)]; exact y1
  · by_cases hje : j = js.getD As.length 0
    · subst hje; exact ⟨B, keepT _ _ hT1⟩
    · obtain ⟨A, hA⟩ := c2 j hj
      exact ⟨A, keepT _ _ (other j A hje hA)⟩
  · by_cases hil : i < As.length
    · rw [List.getElem?_append_left hil] at hA
      obtain ⟨j, q1, q2⟩ := c3 i A hA
      refine ⟨j, q1, keepT _ _ (other j A (fun e => ?_) q2)⟩
      have hij : i = As.length := (List.getElem?_inj (i := i) (j := As.length) (by omega) a2).mp (by rw [q1, hj, e])
      omega
    · have hie : i = As.length := by
        have := (List.getElem?_eq_some_iff.mp hA).1
        simp at this; omega
      subst hie
      simp at hA
      subst hA
      exact ⟨_, hj, keepT _ _ hT1⟩
  · exact ((ho1.wide (b := p) (m := 2 + 7 * K) (by omega) (by omega)).st (by omega) (by omega))
theorem put_wp (hp : PA h p K As) (hK : 1 ≤ K ∧ K ≤ 8) (hU : TA h b B) (hn : B 7 0 ≤ 6) (hw : B 7 1 ≤ 6) (hd : b + 7 ≤ p ∨ p + 2 + 7 * K ≤ b) (k : ∀ h1, PA h1 p K (psh K As B) → Off h h1 p (2 + 7 * K) → Q none h1) : WP sc 7 0 [some (.ref p), some (.ref b)] [] h Q := by
  obtain ⟨js, ⟨a1, a2, a3⟩, hl, c0, c1, c2, c3⟩ := hp
  have hg := g_obj c0
  have hi := i_obj c0
  have hI : (ms_is h p 1).isSome = true := by rw [hi]; rfl
  have hrow := a_row c1
  unfold psh at k
  by_cases hc : As.length < K
  · rw [if_pos hc] at k
    have n1 : nI As.length < nI K := nI_lt hc (by omega)
    simp (disch := first | assumption | exact wn2_i | exact wn2_r | exact wn2_n | exact Nat.le_of_ble_eq_true rfl | omega | (refine nI_z ?_ ?_ <;> omega)) only [s7_0, s7_1, s7_4, s7_5, s7_8, s7_9, s7_12, wX_some, Option.toList_some, Option.toList_none, List.cons_append, List.nil_append, List.map_cons, List.map_nil, List.sum_cons, List.sum_nil, Value.category, wn2_i, wn2_r, wn2_n, Option.isSome_some, List.getElem?_cons_zero, List.getElem?_cons_succ, nI_add, nI_rem2, hg, hrow, List.length_map, a1, n1, if_true]
    exact putIn c0 a1 a2 a3 hc hK.2 c1 c2 c3 hU hn hw hd k
  · rw [if_neg hc] at k
    have n1 : ¬ nI As.length < nI K := nI_nlt (by omega) (by omega)
    simp (disch := first | assumption | exact wn2_i | exact wn2_r | exact wn2_n | exact Nat.le_of_ble_eq_true rfl | omega | (refine nI_z ?_ ?_ <;> omega)) only [s7_0, s7_1, s7_4, s7_5, s7_8, s7_9, s7_12, s7_13, wX_some, Option.toList_some, Option.toList_none, List.cons_append, List.nil_append, List.map_cons, List.map_nil, List.sum_cons, List.sum_nil, Value.category, wn2_i, wn2_r, wn2_n, Option.isSome_some, List.getElem?_cons_zero, List.getElem?_cons_succ, nI_add, nI_rem2, hg, hrow, List.length_map, a1, n1, if_false]
    refine dropLowest_wp c0 a1 hK c1 (fun j hj => c2 j (a3 j hj)) (fun h1 x0 x1 ho => ?_)
    simp only [wX_some, Option.toList_some, Option.toList_none, List.cons_append, List.nil_append, List.map_cons, List.map_nil, List.sum_cons, List.sum_nil, Value.category, wn2_i, wn2_r, wn2_n, Option.isSome_some, List.getElem?_cons_zero, List.getElem?_cons_succ, nI_add, nI_rem2]
    have tt : ∀ j A, TA h (pad p j) A → TA h1 (pad p j) A := fun j A hT => hT.offX ho (fun i x1 x2 => by unfold pad at x1 x2; omega)
    have hne : js ≠ [] := fun e => by subst e; simp at a1; omega
    obtain ⟨x, t, rfl⟩ := List.exists_cons_of_ne_nil hne
    have e1 : (x :: t).drop 1 ++ [(x :: t).getD 0 0] = t ++ [x] := rfl
    rw [e1] at x1
    have hAl : (As.drop 1).length = K - 1 := by simp; omega
    refine putIn (As := As.drop 1) (js := t ++ [x]) (by rw [hAl]; exact x0) (by simpa using a1) ?_ ?_ (by omega) hK.2 x1 (fun j hj => ?_) (fun i A hA => ?_) (hU.offX ho (fun i x1 x2 => by omega)) hn hw hd (fun h2 hp2 ho2 => k h2 hp2 ((ho.off (a := p) (n := 2 + 7 * K) (fun i hi => by omega)).tr ho2))
    · have := List.nodup_cons.mp a2
      exact List.pairwise_append.mpr ⟨this.2, List.pairwise_singleton _ _, fun y hy z hz => by simp at hz; subst hz; exact fun e => this.1 (e ▸ hy)⟩
    · intro j hj
      rcases List.mem_append.mp hj with h9 | h9
      · exact a3 j (List.mem_cons_of_mem _ h9)
      · simp at h9; subst h9; exact a3 _ List.mem_cons_self
    · obtain ⟨A, hA⟩ := c2 j hj
      exact ⟨A, tt j A hA⟩
    · have hA' : As[i + 1]? = some A := by rw [List.getElem?_drop] at hA; rw [Nat.add_comm]; exact hA
      obtain ⟨j, q1, q2⟩ := c3 _ _ hA'
      refine ⟨j, ?_, tt j A q2⟩
      have hlt : i + 1 < (x :: t).length := (List.getElem?_eq_some_iff.mp q1).1
      rw [List.getElem?_append_left (by simpa using hlt)]
      simpa using q1
end PILE3

-- Orders: the orders of the works, gone through
def swp (t : List Nat) (i j : Nat) : List Nat := (t.set i (t.getD j 0)).set j (t.getD i 0)
def pvt (t : List Nat) : Nat → Option Nat
  | 0 => none
  | k + 1 => if t.getD (k + 1) 0 < t.getD k 0 then pvt t k else some k
def nxt (t : List Nat) (p : Nat) : Nat → Nat
  | 0 => 0
  | j + 1 => if p < j + 1 ∧ t.getD (j + 1) 0 < t.getD p 0 then nxt t p j else j + 1
def rvs : Nat → List Nat → Nat → Nat → List Nat
  | 0, t, _, _ => t
  | f + 1, t, lo, hi => if lo < hi then rvs f (swp t lo hi) (lo + 1) (hi - 1) else t
def adv (w : Nat) (t : List Nat) : Option (List Nat) := match pvt t (w - 1) with
  | none => none
  | some p => some (rvs 6 (swp t p (nxt t p (w - 1))) (p + 1) (w - 1))
theorem swp_len {t : List Nat} {i j : Nat} : (swp t i j).length = t.length := by simp [swp]
theorem rvs_len : ∀ (f : Nat) (t : List Nat) (lo hi : Nat), (rvs f t lo hi).length = t.length := by
  intro f
  induction f with
  | zero => intro t lo hi; rfl
  | succ f ih =>
    intro t lo hi
    unfold rvs
    split
    · rw [ih, swp_len]
    · rfl
theorem pvt_lt {t : List Nat} : ∀ k p, pvt t k = some p → p < k := by
  intro k
  induction k with
  | zero => intro p h; cases h
  | succ k ih =>
    intro p h
    unfold pvt at h
    split at h
    · have := ih p h; omega
    · cases h; omega
theorem nxt_le {t : List Nat} {p : Nat} : ∀ j, nxt t p j ≤ j := by
  intro j
  induction j with
  | zero => exact Nat.le_refl _
  | succ j ih =>
    unfold nxt
    split
    · omega
    · omega
theorem mp_get {t : List Nat} {i : Nat} : (t.map nI).getD i 0 = nI (t.getD i 0) := by
  simp only [List.getD_eq_getElem?_getD, List.getElem?_map]
  cases t[i]? <;> simp [nI_0]
theorem mp_set {t : List Nat} {i v : Nat} : (t.map nI).set i (nI v) = (t.set i v).map nI := by rw [List.map_set]
def TB (t : List Nat) : Prop := t.length = 6 ∧ ∀ i, t.getD i 0 < 100
theorem swp_tb {t : List Nat} {i j : Nat} (h : TB t) : TB (swp t i j) := by
  refine ⟨by rw [swp_len]; exact h.1, fun k => ?_⟩
  unfold swp
  simp only [List.getD_eq_getElem?_getD]
  have h1 := h.2
  simp only [List.getD_eq_getElem?_getD] at h1
  rw [List.getElem?_set]
  split
  · split
    · exact h1 i
    · simp
  · rw [List.getElem?_set]
    split
    · split
      · exact h1 j
      · simp
    · exact h1 k
theorem rvs_tb : ∀ (f : Nat) (t : List Nat) (lo hi : Nat), TB t → TB (rvs f t lo hi) := by
  intro f
  induction f with
  | zero => intro t lo hi h; exact h
  | succ f ih =>
    intro t lo hi h
    unfold rvs
    split
    · exact ih _ _ _ (swp_tb h)
    · exact h
theorem adv_tb {w : Nat} {t t' : List Nat} (h : TB t) (e : adv w t = some t') : TB t' := by
  unfold adv at e
  split at e
  · cases e
  · cases e
    exact rvs_tb _ _ _ _ (swp_tb h)
/-- the orders at a: tried t, best be -/
def OA (h : List ms_C) (a : Nat) (t : List Nat) (be : List Int32) : Prop := h[a]? = some (ms_obj 0 [.ref (a + 1), .ref (a + 2)]) ∧ h[a + 1]? = some (ms_ia (t.map nI)) ∧ h[a + 2]? = some (ms_ia be) ∧ be.length = 6
theorem OA.offX {h h1 : List ms_C} {a : Nat} {t : List Nat} {be : List Int32} {P : Nat → Prop} (hp : OA h a t be) (ho : OffX h h1 P) (hd : ∀ i, a ≤ i → i < a + 3 → ¬ P i) : OA h1 a t be :=
  ⟨(ho.2 _ (hd _ (by omega) (by omega))).trans hp.1, (ho.2 _ (hd _ (by omega) (by omega))).trans hp.2.1, (ho.2 _ (hd _ (by omega) (by omega))).trans hp.2.2.1, hp.2.2.2⟩
section ORD
variable {sc : List Int32} {h : List ms_C} {Q : Option Value → List ms_C → Prop} {a b : Nat} {t : List Nat} {be : List Int32} {A : AS}
theorem oswap_wp (hp : OA h a t be) (ht : TB t) {i j : Nat} (hi : i < 6) (hj : j < 6) {l3 : Option Value} (k : ∀ h1, OA h1 a (swp t i j) be → Off h h1 a 3 → Q none h1) : WP sc 5 0 [some (.ref a), some (.int (nI i)), some (.int (nI j)), l3] [] h Q := by
  obtain ⟨h0, h1, h2, g⟩ := hp
  have hg := g_obj h0
  have a1 := a_arr h1
  have l1 := lt_of_some h1
  have e1 : (t.map nI).length = 6 := by rw [List.length_map]; exact ht.1
  simp (disch := first | assumption | exact wn2_i | exact wn2_r | exact wn2_n | exact Nat.le_of_ble_eq_true rfl | omega | (refine nI_z ?_ ?_ <;> omega)) only [s5_0, s5_1, s5_4, s5_5, s5_6, s5_7, s5_8, s5_11, s5_12, s5_13, s5_16, s5_17, s5_18, s5_19, s5_20, s5_23, s5_24, s5_25, s5_26, wX_some, Option.toList_some, Option.toList_none, List.cons_append, List.nil_append, List.map_cons, List.map_nil, List.sum_cons, List.sum_nil, Value.category, wn2_i, wn2_r, wn2_n, Option.isSome_some, List.getElem?_cons_zero, List.getElem?_cons_succ, nI_add, nI_rem2, hg, a1, e1, iat_n, mp_get, mp_set, g_ne, a_eq, List.length_map, List.length_set, ht.1]
  refine k _ ⟨s_ne (by omega) (s_ne (by omega) h0), ?_, s_ne (by omega) (s_ne (by omega) h2), g⟩ ((Off.rf.st (by omega) (by omega)).st (by omega) (by omega))
  rw [s_eq (by simpa using l1)]
  rfl
theorem noteBest_wp (hp : OA h a t be) (ht : TB t) {l1 : Option Value} (k : ∀ h1, OA h1 a t (t.map nI) → Off h h1 a 3 → Q none h1) : WP sc 3 0 [some (.ref a), l1] [] h Q := by
  obtain ⟨h0, h1, h2, g⟩ := hp
  have e1 : (t.map nI).length = 6 := by rw [List.length_map]; exact ht.1
  have key : ∀ i, i ≤ 6 → ∀ h1 be, OA h1 a t be → CP be (t.map nI) i → Off h h1 a 3 → WP sc 3 2 [some (.ref a), some (.int (nI i))] [] h1 Q := by
    refine loop_up ?_ ?_
    · intro h1 be hp hc ho
      have he : be = t.map nI := by
        apply List.ext_getElem
        · rw [hp.2.2.2, e1]
        · intro i x1 x2
          have := hc.2 i (by rw [hp.2.2.2] at x1; exact x1)
          rw [List.getD_eq_getElem?_getD, List.getD_eq_getElem?_getD, List.getElem?_eq_getElem x1, List.getElem?_eq_getElem x2] at this
          exact this
      rw [s3_2]
      simp (disch := first | assumption | exact wn2_i | exact wn2_r | exact wn2_n | exact Nat.le_of_ble_eq_true rfl | omega | (refine nI_z ?_ ?_ <;> omega)) only [s3_3, s3_5, s3_8, s3_9, s3_12, s3_13, s3_14, s3_17, s3_18, s3_19, s3_20, s3_23, s3_26, wX_some, Option.toList_some, Option.toList_none, List.cons_append, List.nil_append, List.map_cons, List.map_nil, List.sum_cons, List.sum_nil, Value.category, wn2_i, wn2_r, wn2_n, Option.isSome_some, List.getElem?_cons_zero, List.getElem?_cons_succ, nI_add, nI_rem2, nI_leI, Nat.le_refl, if_true]
      subst he
      exact k _ hp ho
    · intro i hlt ih h1 be hp hc ho
      obtain ⟨z0, z1, z2, zg⟩ := hp
      have hg := g_obj z0
      have a1 := a_arr z1
      have a2 := a_arr z2
      have hge : ¬ nI 6 ≤ nI i := nI_ge hlt (by omega)
      have l2 := lt_of_some z2
      rw [s3_2]
      simp (disch := first | assumption | exact wn2_i | exact wn2_r | exact wn2_n | exact Nat.le_of_ble_eq_true rfl | omega | (refine nI_z ?_ ?_ <;> omega)) only [s3_3, s3_5, s3_8, s3_9, s3_12, s3_13, s3_14, s3_17, s3_18, s3_19, s3_20, s3_23, wX_some, Option.toList_some, Option.toList_none, List.cons_append, List.nil_append, List.map_cons, List.map_nil, List.sum_cons, List.sum_nil, Value.category, wn2_i, wn2_r, wn2_n, Option.isSome_some, List.getElem?_cons_zero, List.getElem?_cons_succ, nI_add, nI_rem2, hge, if_false, hg, a1, a2, e1, zg, iat_n]
      exact ih _ _ ⟨s_ne (by omega) z0, s_ne (by omega) z1, s_eq l2, by simpa using zg⟩ (hc.nx hlt) (ho.st (by omega) (by omega))
  simp (disch := first | assumption | exact wn2_i | exact wn2_r | exact wn2_n | exact Nat.le_of_ble_eq_true rfl | omega | (refine nI_z ?_ ?_ <;> omega)) only [s3_0, s3_1, wX_some, Option.toList_some, Option.toList_none, List.cons_append, List.nil_append, List.map_cons, List.map_nil, List.sum_cons, List.sum_nil, Value.category, wn2_i, wn2_r, wn2_n, Option.isSome_some, List.getElem?_cons_zero, List.getElem?_cons_succ, nI_add, nI_rem2]
  exact key 0 (by omega) h be ⟨h0, h1, h2, g⟩ (CP.z g) Off.rf
end ORD

section ORD2
variable {sc : List Int32} {h : List ms_C} {Q : Option Value → List ms_C → Prop} {a b : Nat} {t : List Nat} {be : List Int32} {A : AS}
theorem advance_wp (hp : OA h a t be) (ht : TB t) {w : Nat} (hw : 1 ≤ w ∧ w ≤ 6) {l2 l3 l4 l5 : Option Value} (k0 : adv w t = none → Q (some (.int (nI 0))) h) (k1 : ∀ h1 t', adv w t = some t' → OA h1 a t' be → Off h h1 a 3 → Q (some (.int (nI 1))) h1) : WP sc 4 0 [some (.ref a), some (.int (nI w)), l2, l3, l4, l5] [] h Q := by
  have hp0 := hp
  obtain ⟨h0, h1, h2, g⟩ := hp
  have hg := g_obj h0
  have hi := i_obj h0
  have hI : (ms_is h a 0).isSome = true := by rw [hi]; rfl
  have a1 := a_arr h1
  have e1 : (t.map nI).length = 6 := by rw [List.length_map]; exact ht.1
  have bnd : ∀ i, t.getD i 0 < 2 ^ 31 := fun i => by have := ht.2 i; omega
  -- behind the pivot
  have part3 : ∀ p q, p < w - 1 → p < 6 → q ≤ w - 1 → q = nxt t p (w - 1) → adv w t = some (rvs 6 (swp t p q) (p + 1) (w - 1)) → WP sc 4 67 [some (.ref a), some (.int (nI w)), some (.int (nI p)), some (.int (nI q)), l4, l5] [] h Q := by
    intro p q hpw hp6 hqw hq hadv
    simp (disch := first | assumption | exact wn2_i | exact wn2_r | exact wn2_n | exact Nat.le_of_ble_eq_true rfl | omega | (refine nI_z ?_ ?_ <;> omega)) only [s4_67, s4_68, s4_69, s4_70, wX_some, Option.toList_some, Option.toList_none, List.cons_append, List.nil_append, List.map_cons, List.map_nil, List.sum_cons, List.sum_nil, Value.category, wn2_i, wn2_r, wn2_n, Option.isSome_some, List.getElem?_cons_zero, List.getElem?_cons_succ, nI_add, nI_rem2, hI]
    refine oswap_wp hp0 ht hp6 (by omega) (fun h1 hp1 ho1 => ?_)
    have e2 : nI w - nI 1 = nI (w - 1) := nI_sub (by omega)
    simp (disch := first | assumption | exact wn2_i | exact wn2_r | exact wn2_n | exact Nat.le_of_ble_eq_true rfl | omega | (refine nI_z ?_ ?_ <;> omega)) only [s4_73, s4_74, s4_75, s4_76, s4_78, s4_79, s4_80, s4_81, wX_some, Option.toList_some, Option.toList_none, List.cons_append, List.nil_append, List.map_cons, List.map_nil, List.sum_cons, List.sum_nil, Value.category, wn2_i, wn2_r, wn2_n, Option.isSome_some, List.getElem?_cons_zero, List.getElem?_cons_succ, nI_add, nI_rem2, e2]
    have key : ∀ f lo hi t1 h1, hi ≤ 5 → lo ≤ 6 → hi < lo + 2 * f → TB t1 → OA h1 a t1 be → Off h h1 a 3 → adv w t = some (rvs f t1 lo hi) → WP sc 4 83 [some (.ref a), some (.int (nI w)), some (.int (nI p)), some (.int (nI q)), some (.int (nI lo)), some (.int (nI hi))] [] h1 Q := by
      intro f
      induction f with
      | zero =>
        intro lo hi t1 h1 x1 x2 x3 ht1 hp1 ho1 hadv
        have hge : nI hi ≤ nI lo := nI_le (by omega) (by omega)
        rw [s4_83]
        simp (disch := first | assumption | exact wn2_i | exact wn2_r | exact wn2_n | exact Nat.le_of_ble_eq_true rfl | omega | (refine nI_z ?_ ?_ <;> omega)) only [s4_85, s4_87, s4_90, s4_91, s4_93, s4_95, s4_98, s4_101, s4_104, s4_107, s4_108, wX_some, Option.toList_some, Option.toList_none, List.cons_append, List.nil_append, List.map_cons, List.map_nil, List.sum_cons, List.sum_nil, Value.category, wn2_i, wn2_r, wn2_n, Option.isSome_some, List.getElem?_cons_zero, List.getElem?_cons_succ, nI_add, nI_rem2, hge, if_true, nI_eq1, or_true, true_and]
        exact k1 _ _ hadv hp1 ho1
      | succ f ih =>
        intro lo hi t1 h1 x1 x2 x3 ht1 hp1 ho1 hadv
        by_cases hlt : lo < hi
        · have hge : ¬ nI hi ≤ nI lo := nI_ge hlt (by omega)
          have hI1 : (ms_is h1 a 0).isSome = true := by rw [i_obj hp1.1]; rfl
          rw [s4_83]
          simp (disch := first | assumption | exact wn2_i | exact wn2_r | exact wn2_n | exact Nat.le_of_ble_eq_true rfl | omega | (refine nI_z ?_ ?_ <;> omega)) only [s4_85, s4_87, s4_90, s4_91, s4_93, s4_95, wX_some, Option.toList_some, Option.toList_none, List.cons_append, List.nil_append, List.map_cons, List.map_nil, List.sum_cons, List.sum_nil, Value.category, wn2_i, wn2_r, wn2_n, Option.isSome_some, List.getElem?_cons_zero, List.getElem?_cons_succ, nI_add, nI_rem2, hge, if_false, hI1]
          refine oswap_wp hp1 ht1 (by omega) (by omega) (fun h2 hp2 ho2 => ?_)
          have e3 : nI hi + -1 = nI (hi - 1) := sb_m1 (by omega)
          simp (disch := first | assumption | exact wn2_i | exact wn2_r | exact wn2_n | exact Nat.le_of_ble_eq_true rfl | omega | (refine nI_z ?_ ?_ <;> omega)) only [s4_98, s4_101, s4_104, wX_some, Option.toList_some, Option.toList_none, List.cons_append, List.nil_append, List.map_cons, List.map_nil, List.sum_cons, List.sum_nil, Value.category, wn2_i, wn2_r, wn2_n, Option.isSome_some, List.getElem?_cons_zero, List.getElem?_cons_succ, nI_add, nI_rem2, e3]
          refine ih (lo + 1) (hi - 1) _ _ (by omega) (by omega) (by omega) (swp_tb ht1) hp2 (ho1.tr ho2) ?_
          rw [hadv, rvs, if_pos hlt]
        · have hge : nI hi ≤ nI lo := nI_le (by omega) (by omega)
          rw [s4_83]
          simp (disch := first | assumption | exact wn2_i | exact wn2_r | exact wn2_n | exact Nat.le_of_ble_eq_true rfl | omega | (refine nI_z ?_ ?_ <;> omega)) only [s4_85, s4_87, s4_90, s4_91, s4_93, s4_95, s4_98, s4_101, s4_104, s4_107, s4_108, wX_some, Option.toList_some, Option.toList_none, List.cons_append, List.nil_append, List.map_cons, List.map_nil, List.sum_cons, List.sum_nil, Value.category, wn2_i, wn2_r, wn2_n, Option.isSome_some, List.getElem?_cons_zero, List.getElem?_cons_succ, nI_add, nI_rem2, hge, if_true, nI_eq1, or_true, true_and]
          refine k1 _ _ ?_ hp1 ho1
          rw [hadv, rvs, if_neg hlt]
    exact key 6 (p + 1) (w - 1) _ _ (by omega) (by omega) (by omega) (swp_tb ht) hp1 ho1 hadv
  have part2 : ∀ p, p < w - 1 → p < 6 → pvt t (w - 1) = some p → ∀ j, j ≤ w - 1 → nxt t p j = nxt t p (w - 1) → WP sc 4 41 [some (.ref a), some (.int (nI w)), some (.int (nI p)), some (.int (nI j)), l4, l5] [] h Q := by
    intro p hpw hp6 hpv j
    have hadv : adv w t = some (rvs 6 (swp t p (nxt t p (w - 1))) (p + 1) (w - 1)) := by unfold adv; rw [hpv]
    induction j with
    | zero =>
      intro _ hn
      have hle : nI 0 ≤ nI p := nI_le (by omega) (by omega)
      rw [s4_41]
      simp (disch := first | assumption | exact wn2_i | exact wn2_r | exact wn2_n | exact Nat.le_of_ble_eq_true rfl | omega | (refine nI_z ?_ ?_ <;> omega)) only [s4_42, s4_43, s4_46, s4_47, s4_50, s4_51, s4_52, s4_53, s4_56, s4_57, s4_58, s4_61, s4_64, wX_some, Option.toList_some, Option.toList_none, List.cons_append, List.nil_append, List.map_cons, List.map_nil, List.sum_cons, List.sum_nil, Value.category, wn2_i, wn2_r, wn2_n, Option.isSome_some, List.getElem?_cons_zero, List.getElem?_cons_succ, nI_add, nI_rem2, hle, if_true]
      have h0n : nxt t p (w - 1) = 0 := hn.symm
      exact part3 p 0 hpw hp6 (by omega) h0n.symm (by rw [hadv, h0n])
    | succ j ih =>
      intro hj hn
      by_cases hc : p < j + 1
      · have hle : ¬ nI (j + 1) ≤ nI p := nI_ge hc (by omega)
        by_cases hc2 : t.getD (j + 1) 0 < t.getD p 0
        · have n1 : ¬ nI (t.getD p 0) ≤ nI (t.getD (j + 1) 0) := nI_ge hc2 (bnd _)
          have hn2 : nxt t p j = nxt t p (w - 1) := by rw [← hn, nxt, if_pos ⟨hc, hc2⟩]
          have e3 : nI (j + 1) + -1 = nI j := sb_m1 (by omega)
          rw [s4_41]
          simp (disch := first | assumption | exact wn2_i | exact wn2_r | exact wn2_n | exact Nat.le_of_ble_eq_true rfl | omega | (refine nI_z ?_ ?_ <;> omega)) only [s4_42, s4_43, s4_46, s4_47, s4_50, s4_51, s4_52, s4_53, s4_56, s4_57, s4_58, s4_61, s4_64, wX_some, Option.toList_some, Option.toList_none, List.cons_append, List.nil_append, List.map_cons, List.map_nil, List.sum_cons, List.sum_nil, Value.category, wn2_i, wn2_r, wn2_n, Option.isSome_some, List.getElem?_cons_zero, List.getElem?_cons_succ, nI_add, nI_rem2, hle, if_false, hg, a1, e1, iat_n, mp_get, n1, e3]
          exact ih (by omega) hn2
        · have n1 : nI (t.getD p 0) ≤ nI (t.getD (j + 1) 0) := nI_le (by omega) (bnd _)
          have hn2 : nxt t p (w - 1) = j + 1 := by rw [← hn, nxt, if_neg (fun q => hc2 q.2)]
          rw [s4_41]
          simp (disch := first | assumption | exact wn2_i | exact wn2_r | exact wn2_n | exact Nat.le_of_ble_eq_true rfl | omega | (refine nI_z ?_ ?_ <;> omega)) only [s4_42, s4_43, s4_46, s4_47, s4_50, s4_51, s4_52, s4_53, s4_56, s4_57, s4_58, s4_61, s4_64, wX_some, Option.toList_some, Option.toList_none, List.cons_append, List.nil_append, List.map_cons, List.map_nil, List.sum_cons, List.sum_nil, Value.category, wn2_i, wn2_r, wn2_n, Option.isSome_some, List.getElem?_cons_zero, List.getElem?_cons_succ, nI_add, nI_rem2, hle, if_false, hg, a1, e1, iat_n, mp_get, n1, if_true]
          exact part3 p (j + 1) hpw hp6 hj hn2.symm (by rw [hadv, hn2])
      · have hle : nI (j + 1) ≤ nI p := nI_le (by omega) (by omega)
        have hn2 : nxt t p (w - 1) = j + 1 := by rw [← hn, nxt, if_neg (fun q => hc q.1)]
        rw [s4_41]
        simp (disch := first | assumption | exact wn2_i | exact wn2_r | exact wn2_n | exact Nat.le_of_ble_eq_true rfl | omega | (refine nI_z ?_ ?_ <;> omega)) only [s4_42, s4_43, s4_46, s4_47, s4_50, s4_51, s4_52, s4_53, s4_56, s4_57, s4_58, s4_61, s4_64, wX_some, Option.toList_some, Option.toList_none, List.cons_append, List.nil_append, List.map_cons, List.map_nil, List.sum_cons, List.sum_nil, Value.category, wn2_i, wn2_r, wn2_n, Option.isSome_some, List.getElem?_cons_zero, List.getElem?_cons_succ, nI_add, nI_rem2, hle, if_true]
        exact part3 p (j + 1) hpw hp6 hj hn2.symm (by rw [hadv, hn2])
  have part1 : ∀ k, k ≤ w - 1 → pvt t k = pvt t (w - 1) → ∀ x : Int32, x = (match k with | 0 => -1 | i + 1 => nI i) → WP sc 4 4 [some (.ref a), some (.int (nI w)), some (.int x), l3, l4, l5] [] h Q := by
    intro k
    induction k with
    | zero =>
      intro _ hn x hx
      subst hx
      have n1 : (-1 : Int32) < 0 := by decide
      have n2 : ¬ (0 : Int32) ≤ -1 := by decide
      rw [s4_4]
      simp (disch := first | assumption | exact wn2_i | exact wn2_r | exact wn2_n | exact Nat.le_of_ble_eq_true rfl | omega | (refine nI_z ?_ ?_ <;> omega)) only [s4_5, s4_8, s4_9, s4_12, s4_13, s4_14, s4_15, s4_18, s4_19, s4_20, s4_21, s4_22, s4_25, s4_28, s4_31, s4_32, s4_35, s4_36, wX_some, Option.toList_some, Option.toList_none, List.cons_append, List.nil_append, List.map_cons, List.map_nil, List.sum_cons, List.sum_nil, Value.category, wn2_i, wn2_r, wn2_n, Option.isSome_some, List.getElem?_cons_zero, List.getElem?_cons_succ, nI_add, nI_rem2, n1, n2, if_true, if_false, nI_eq0, true_or, true_and]
      refine k0 ?_
      unfold adv
      rw [← hn]
      rfl
    | succ k ih =>
      intro hk hn x hx
      have hx : x = nI k := hx
      subst hx
      have n1 : ¬ nI k < 0 := nI_pos (by omega)
      have n2 : 0 ≤ nI k := nI_pos' (by omega)
      by_cases hc : t.getD (k + 1) 0 < t.getD k 0
      · have n3 : ¬ nI (t.getD k 0) ≤ nI (t.getD (k + 1) 0) := nI_ge hc (bnd _)
        have hn2 : pvt t k = pvt t (w - 1) := by rw [← hn, pvt, if_pos hc]
        rw [s4_4]
        simp (disch := first | assumption | exact wn2_i | exact wn2_r | exact wn2_n | exact Nat.le_of_ble_eq_true rfl | omega | (refine nI_z ?_ ?_ <;> omega)) only [s4_5, s4_8, s4_9, s4_12, s4_13, s4_14, s4_15, s4_18, s4_19, s4_20, s4_21, s4_22, s4_25, s4_28, wX_some, Option.toList_some, Option.toList_none, List.cons_append, List.nil_append, List.map_cons, List.map_nil, List.sum_cons, List.sum_nil, Value.category, wn2_i, wn2_r, wn2_n, Option.isSome_some, List.getElem?_cons_zero, List.getElem?_cons_succ, nI_add, nI_rem2, n1, if_false, hg, a1, e1, iat_n, mp_get, n3]
        refine ih (by omega) hn2 _ ?_
        cases k with
        | zero => rfl
        | succ k => exact sb_m1 (by omega)
      · have n3 : nI (t.getD k 0) ≤ nI (t.getD (k + 1) 0) := nI_le (by omega) (bnd _)
        have hpv : pvt t (w - 1) = some k := by rw [← hn, pvt, if_neg hc]
        have e2 : nI w - nI 1 = nI (w - 1) := nI_sub (by omega)
        rw [s4_4]
        simp (disch := first | assumption | exact wn2_i | exact wn2_r | exact wn2_n | exact Nat.le_of_ble_eq_true rfl | omega | (refine nI_z ?_ ?_ <;> omega)) only [s4_5, s4_8, s4_9, s4_12, s4_13, s4_14, s4_15, s4_18, s4_19, s4_20, s4_21, s4_22, s4_25, s4_28, s4_31, s4_32, s4_35, s4_36, s4_37, s4_38, s4_39, s4_40, wX_some, Option.toList_some, Option.toList_none, List.cons_append, List.nil_append, List.map_cons, List.map_nil, List.sum_cons, List.sum_nil, Value.category, wn2_i, wn2_r, wn2_n, Option.isSome_some, List.getElem?_cons_zero, List.getElem?_cons_succ, nI_add, nI_rem2, n1, n2, if_false, hg, a1, e1, iat_n, mp_get, n3, if_true, e2]
        exact part2 k (by omega) (by omega) hpv (w - 1) (Nat.le_refl _) rfl
  simp (disch := first | assumption | exact wn2_i | exact wn2_r | exact wn2_n | exact Nat.le_of_ble_eq_true rfl | omega | (refine nI_z ?_ ?_ <;> omega)) only [s4_0, s4_1, s4_2, s4_3, wX_some, Option.toList_some, Option.toList_none, List.cons_append, List.nil_append, List.map_cons, List.map_nil, List.sum_cons, List.sum_nil, Value.category, wn2_i, wn2_r, wn2_n, Option.isSome_some, List.getElem?_cons_zero, List.getElem?_cons_succ, nI_add, nI_rem2]
  refine part1 (w - 1) (Nat.le_refl _) rfl _ ?_
  rcases (by omega : w = 1 ∨ 2 ≤ w) with rfl | h9
  · rfl
  · rw [nI_sub (by omega)]
    have : w - 1 = (w - 2) + 1 := by omega
    rw [this]
end ORD2

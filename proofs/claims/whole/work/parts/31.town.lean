-- Town: what only reads
section TOWN
variable {sc : List Int32} {h : List ms_C} {Q : Option Value → List ms_C → Prop} {a : Nat} {A : AS}
theorem hasStreet_wp (hT : TA h a A) (x : Int32) : WP sc 26 0 [some (.ref a), some (.int x)] [] h Q ↔ Q (some (.int (if 0 ≤ x ∧ x < nI (A 7 0) then nI 1 else nI 0))) h := by
  obtain ⟨kd, we, us, di, st, wo, h0, -⟩ := hT
  have hg := g_obj h0
  simp (disch := first | assumption | decide | omega) only [s26_0, s26_1, s26_4, s26_5, s26_6, s26_9, s26_12, s26_13, s26_16, s26_17, wX_some, Option.toList_some, Option.toList_none, List.cons_append, List.nil_append, List.map_cons, List.map_nil, List.sum_cons, List.sum_nil, Value.category, wn_i, wn_r, wn_n, Option.isSome_some, List.getElem?_cons_zero, List.getElem?_cons_succ, nI_add, hg]
  by_cases h1 : x < 0
  · have : ¬ 0 ≤ x := by rw [Int32.le_iff_toInt_le]; rw [Int32.lt_iff_toInt_lt] at h1; omega
    simp [h1, this, nI_0]
  · have h2 : 0 ≤ x := by rw [Int32.le_iff_toInt_le]; rw [Int32.lt_iff_toInt_lt] at h1; omega
    by_cases h3 : nI (A 7 0) ≤ x
    · have : ¬ x < nI (A 7 0) := by rw [Int32.lt_iff_toInt_lt]; rw [Int32.le_iff_toInt_le] at h3; omega
      simp [h1, h2, h3, this, nI_0]
    · have : x < nI (A 7 0) := by rw [Int32.lt_iff_toInt_lt]; rw [Int32.le_iff_toInt_le] at h3; omega
      simp [h1, h2, h3, this]
      intro _; right; rfl
end TOWN

-- the model: where its cells lie, what they hold
abbrev MO (m un km nm sp o1 k1 o2 u2 : Int32) : List Value := [.int m, .ref 98, .ref 99, .ref 100, .ref 101, .ref 102, .ref 103, .ref 104, .int un, .ref 105, .int km, .ref 106, .int nm, .int sp, .ref 107, .int o1, .int k1, .int o2, .int u2, .ref 108, .ref 109]
/-- a row of 27 (read by f) is the town A, but for kinds and uses -/
def RA (f : Nat → Int32) (A : AS) : Prop := (∀ s, s < A 7 0 → f s = nI (A 0 s) ∧ f (6 + s) = nI (A 1 s) ∧ f (12 + s) = nI (A 2 s)) ∧ (∀ k, k < A 7 1 → f (18 + k) = nI (A 3 k)) ∧ f 24 = nI (A 4 0) ∧ f 25 = chI (A 4 2) ∧ f 26 = nI (A 4 1)
/-- a row of 14 (read by f) tells how many streets and works, of which kinds, what they use -/
def KA (f : Nat → Int32) (A : AS) : Prop := f 0 = nI (A 7 0) ∧ f 1 = nI (A 7 1) ∧ ∀ s, s < A 7 0 → f (2 + s) = nI (A 5 s) ∧ f (8 + s) = nI (A 6 s)
/-- the row aside holds A, its kinds and uses as they are gone by now -/
def MS (h : List ms_C) (o1 k1 o2 u2 : Int32) (A : AS) : Prop := ∃ (m un km nm sp : Int32) (td sd : List Int32), h[97]? = some (ms_obj 6 (MO m un km nm sp o1 k1 o2 u2)) ∧ h[99]? = some (ms_ia td) ∧ h[103]? = some (ms_ia sd) ∧ td.length = 14 ∧ sd.length = 27 ∧ td.getD 0 0 = nI (A 7 0) ∧ td.getD 1 0 = nI (A 7 1) ∧ (∀ s, s < A 7 0 → (if nI s = o1 then k1 else td.getD (2 + s) 0) = nI (A 5 s) ∧ (if nI s = o2 then u2 else td.getD (8 + s) 0) = nI (A 6 s)) ∧ RA (fun i => sd.getD i 0) A
theorem gset {l : List Int32} {i j : Nat} {x : Int32} (hi : i < l.length) : (l.set i x).getD j 0 = if i = j then x else l.getD j 0 := by
  simp only [List.getD_eq_getElem?_getD, List.getElem?_set]
  by_cases h : i = j
  · subst h; simp [hi]
  · simp [h]
theorem RA.cong {f g : Nat → Int32} {A : AS} (h : RA f A) (h0 : A 7 0 ≤ 6) (h1 : A 7 1 ≤ 6) (e : ∀ i, i < 27 → g i = f i) : RA g A := by
  obtain ⟨a, b, c, d, f9⟩ := h
  refine ⟨fun s hs => ?_, fun k hk => ?_, ?_, ?_, ?_⟩
  · rw [e s (by omega), e (6 + s) (by omega), e (12 + s) (by omega)]; exact a s hs
  · rw [e (18 + k) (by omega)]; exact b k hk
  · rw [e 24 (by omega)]; exact c
  · rw [e 25 (by omega)]; exact d
  · rw [e 26 (by omega)]; exact f9
section RSET
variable {l : List Int32} {A : AS} {v s : Nat}
theorem RA.w (h : RA (fun i => l.getD i 0) A) (hl : l.length = 27) (h0 : A 7 0 ≤ 6) (h1 : A 7 1 ≤ 6) (hs : s < 6) : RA (fun i => (l.set s (nI v)).getD i 0) (up2 A 0 s v) := by
  obtain ⟨a, b, c, d, f9⟩ := h
  have g := fun j => gset (l := l) (i := s) (j := j) (x := nI v) (by omega)
  refine ⟨fun t ht => ?_, fun k hk => ?_, ?_, ?_, ?_⟩ <;> dsimp only <;> simp only [g]
  · have ht : t < A 7 0 := ht
    obtain ⟨a1, a2, a3⟩ := a t ht
    refine ⟨?_, ?_, ?_⟩
    · show _ = nI (up1 (A 0) s v t)
      unfold up1
      by_cases e : s = t
      · rw [if_pos e, if_pos e.symm]
      · rw [if_neg e, if_neg (fun q => e q.symm)]; exact a1
    · rw [if_neg (by omega)]; exact a2
    · rw [if_neg (by omega)]; exact a3
  · rw [if_neg (by omega)]; exact b k hk
  · rw [if_neg (by omega)]; exact c
  · rw [if_neg (by omega)]; exact d
  · rw [if_neg (by omega)]; exact f9
theorem RA.m (h : RA (fun i => l.getD i 0) A) (hl : l.length = 27) (h0 : A 7 0 ≤ 6) (h1 : A 7 1 ≤ 6) (hs : s < 6) : RA (fun i => (l.set (6 + s) (nI v)).getD i 0) (up2 A 1 s v) := by
  obtain ⟨a, b, c, d, f9⟩ := h
  have g := fun j => gset (l := l) (i := 6 + s) (j := j) (x := nI v) (by omega)
  refine ⟨fun t ht => ?_, fun k hk => ?_, ?_, ?_, ?_⟩ <;> dsimp only <;> simp only [g]
  · have ht : t < A 7 0 := ht
    obtain ⟨a1, a2, a3⟩ := a t ht
    refine ⟨?_, ?_, ?_⟩
    · rw [if_neg (by omega)]; exact a1
    · show _ = nI (up1 (A 1) s v t)
      unfold up1
      by_cases e : s = t
      · rw [if_pos (by omega), if_pos e.symm]
      · rw [if_neg (by omega), if_neg (fun q => e q.symm)]; exact a2
    · rw [if_neg (by omega)]; exact a3
  · rw [if_neg (by omega)]; exact b k hk
  · rw [if_neg (by omega)]; exact c
  · rw [if_neg (by omega)]; exact d
  · rw [if_neg (by omega)]; exact f9
theorem RA.st (h : RA (fun i => l.getD i 0) A) (hl : l.length = 27) (h0 : A 7 0 ≤ 6) (h1 : A 7 1 ≤ 6) (hs : s < 6) : RA (fun i => (l.set (12 + s) (nI v)).getD i 0) (up2 A 2 s v) := by
  obtain ⟨a, b, c, d, f9⟩ := h
  have g := fun j => gset (l := l) (i := 12 + s) (j := j) (x := nI v) (by omega)
  refine ⟨fun t ht => ?_, fun k hk => ?_, ?_, ?_, ?_⟩ <;> dsimp only <;> simp only [g]
  · have ht : t < A 7 0 := ht
    obtain ⟨a1, a2, a3⟩ := a t ht
    refine ⟨?_, ?_, ?_⟩
    · rw [if_neg (by omega)]; exact a1
    · rw [if_neg (by omega)]; exact a2
    · show _ = nI (up1 (A 2) s v t)
      unfold up1
      by_cases e : s = t
      · rw [if_pos (by omega), if_pos e.symm]
      · rw [if_neg (by omega), if_neg (fun q => e q.symm)]; exact a3
  · rw [if_neg (by omega)]; exact b k hk
  · rw [if_neg (by omega)]; exact c
  · rw [if_neg (by omega)]; exact d
  · rw [if_neg (by omega)]; exact f9
theorem RA.wk (h : RA (fun i => l.getD i 0) A) (hl : l.length = 27) (h0 : A 7 0 ≤ 6) (h1 : A 7 1 ≤ 6) (hs : s < 6) : RA (fun i => (l.set (18 + s) (nI v)).getD i 0) (up2 A 3 s v) := by
  obtain ⟨a, b, c, d, f9⟩ := h
  have g := fun j => gset (l := l) (i := 18 + s) (j := j) (x := nI v) (by omega)
  refine ⟨fun t ht => ?_, fun k hk => ?_, ?_, ?_, ?_⟩ <;> dsimp only <;> simp only [g]
  · have ht : t < A 7 0 := ht
    obtain ⟨a1, a2, a3⟩ := a t ht
    refine ⟨?_, ?_, ?_⟩
    · rw [if_neg (by omega)]; exact a1
    · rw [if_neg (by omega)]; exact a2
    · rw [if_neg (by omega)]; exact a3
  · have hk : k < A 7 1 := hk
    show _ = nI (up1 (A 3) s v k)
    unfold up1
    by_cases e : s = k
    · rw [if_pos (by omega), if_pos e.symm]
    · rw [if_neg (by omega), if_neg (fun q => e q.symm)]; exact b k hk
  · rw [if_neg (by omega)]; exact c
  · rw [if_neg (by omega)]; exact d
  · rw [if_neg (by omega)]; exact f9
theorem RA.q (h : RA (fun i => l.getD i 0) A) (hl : l.length = 27) (h0 : A 7 0 ≤ 6) (h1 : A 7 1 ≤ 6) : RA (fun i => (l.set 24 (nI v)).getD i 0) (up2 A 4 0 v) := by
  obtain ⟨a, b, c, d, f9⟩ := h
  have g := fun j => gset (l := l) (i := 24) (j := j) (x := nI v) (by omega)
  refine ⟨fun t ht => ?_, fun k hk => ?_, ?_, ?_, ?_⟩ <;> dsimp only <;> simp only [g]
  · have ht : t < A 7 0 := ht
    rw [if_neg (by omega), if_neg (by omega), if_neg (by omega)]
    exact a t ht
  · have hk : k < A 7 1 := hk
    rw [if_neg (by omega)]; exact b k hk
  · rfl
  · rw [if_neg (by omega)]; exact d
  · rw [if_neg (by omega)]; exact f9
theorem RA.c (h : RA (fun i => l.getD i 0) A) (hl : l.length = 27) (h0 : A 7 0 ≤ 6) (h1 : A 7 1 ≤ 6) : RA (fun i => (l.set 25 (nI v)).getD i 0) (up2 A 4 2 (v + 1)) := by
  obtain ⟨a, b, c, d, f9⟩ := h
  have g := fun j => gset (l := l) (i := 25) (j := j) (x := nI v) (by omega)
  refine ⟨fun t ht => ?_, fun k hk => ?_, ?_, ?_, ?_⟩ <;> dsimp only <;> simp only [g]
  · have ht : t < A 7 0 := ht
    rw [if_neg (by omega), if_neg (by omega), if_neg (by omega)]
    exact a t ht
  · have hk : k < A 7 1 := hk
    rw [if_neg (by omega)]; exact b k hk
  · rw [if_neg (by omega)]; exact c
  · rfl
  · rw [if_neg (by omega)]; exact f9
theorem RA.f (h : RA (fun i => l.getD i 0) A) (hl : l.length = 27) (h0 : A 7 0 ≤ 6) (h1 : A 7 1 ≤ 6) : RA (fun i => (l.set 26 (nI v)).getD i 0) (up2 A 4 1 v) := by
  obtain ⟨a, b, c, d, f9⟩ := h
  have g := fun j => gset (l := l) (i := 26) (j := j) (x := nI v) (by omega)
  refine ⟨fun t ht => ?_, fun k hk => ?_, ?_, ?_, ?_⟩ <;> dsimp only <;> simp only [g]
  · have ht : t < A 7 0 := ht
    rw [if_neg (by omega), if_neg (by omega), if_neg (by omega)]
    exact a t ht
  · have hk : k < A 7 1 := hk
    rw [if_neg (by omega)]; exact b k hk
  · rw [if_neg (by omega)]; exact c
  · rw [if_neg (by omega)]; exact d
  · rfl
end RSET
section MIN
variable {sc : List Int32} {h : List ms_C} {Q : Option Value → List ms_C → Prop}
theorem in_wp {x lo hi : Int64} {l1 l3 l5 : Option Value} : WP sc 81 0 [some (.long x), l1, some (.long lo), l3, some (.long hi), l5] [] h Q ↔ Q (some (.int (if lo ≤ x ∧ x ≤ hi then nI 1 else nI 0))) h := by
  have n1 : (nI 1 = 0 ∨ nI 1 = 1) ↔ True := ⟨fun _ => trivial, fun _ => Or.inr rfl⟩
  have n0 : (nI 0 = 0 ∨ nI 0 = 1) ↔ True := ⟨fun _ => trivial, fun _ => Or.inl rfl⟩
  simp only [s81_0, s81_1, s81_2, s81_3, s81_6, s81_7, s81_9, s81_10, s81_13, s81_14, s81_17, s81_18, lg_cmp_lt, lg_cmp_gt, n1, n0, true_and]
  by_cases c1 : x < lo
  · have c2 : ¬ lo ≤ x := by rw [Int64.le_iff_toInt_le]; rw [Int64.lt_iff_toInt_lt] at c1; omega
    simp only [c1, c2, if_true, false_and, if_false]
  · have c2 : lo ≤ x := by rw [Int64.le_iff_toInt_le]; rw [Int64.lt_iff_toInt_lt] at c1; omega
    by_cases c3 : hi < x
    · have c4 : ¬ x ≤ hi := by rw [Int64.le_iff_toInt_le]; rw [Int64.lt_iff_toInt_lt] at c3; omega
      simp only [c1, c3, c4, if_true, and_false, if_false]
    · have c4 : x ≤ hi := by rw [Int64.le_iff_toInt_le]; rw [Int64.lt_iff_toInt_lt] at c3; omega
      simp only [c1, c2, c3, c4, if_true, and_true, if_false]
theorem in_rng {x : Int32} {lo hi : Nat} (hl : lo < 2 ^ 31) (hh : hi < 2 ^ 31) {l1 l3 l5 : Option Value} : WP sc 81 0 [some (.long x.toInt64), l1, some (.long (lN lo)), l3, some (.long (lN hi)), l5] [] h Q ↔ Q (some (.int (if rng lo hi x then nI 1 else nI 0))) h := by
  rw [in_wp]
  have : (lN lo ≤ x.toInt64 ∧ x.toInt64 ≤ lN hi) ↔ (rng lo hi x = true) := by
    unfold rng
    rw [decide_eq_true_eq, Int64.le_iff_toInt_le, Int64.le_iff_toInt_le, Int32.toInt_toInt64, lN_toInt hl, lN_toInt hh]
  simp only [this]
end MIN

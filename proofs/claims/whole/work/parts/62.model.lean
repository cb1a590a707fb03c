-- the model: quarters on the row aside
section MQ
variable {sc : List Int32} {h : List ms_C} {Q : Option Value → List ms_C → Prop} {o1 k1 o2 u2 : Int32} {A : AS}
theorem decTo_up {i : Nat} : up2 (decTo A i) 0 i (A 0 i - A 6 i) = decTo A (i + 1) := by
  funext c
  unfold up2
  by_cases hc : c = 0
  · rw [if_pos hc]
    subst hc
    funext j
    show up1 (fun j => if j < i then A 0 j - A 6 j else A 0 j) i (A 0 i - A 6 i) j = if j < i + 1 then A 0 j - A 6 j else A 0 j
    unfold up1
    by_cases hj : j = i
    · subst hj; rw [if_pos rfl, if_pos (by omega)]
    · rw [if_neg hj]
      dsimp only
      by_cases hl : j < i
      · rw [if_pos hl, if_pos (by omega)]
      · rw [if_neg hl, if_neg (by omega)]
  · rw [if_neg hc]
    show (if c = 0 then _ else A c) = (if c = 0 then _ else A c)
    rw [if_neg hc, if_neg hc]
theorem goQ_at (hM : MS h o1 k1 o2 u2 A) (hG : AG A) (hq : A 4 0 ≤ 200000) {p : Nat} (hp : p < A 7 0) {l1 l2 l4 l5 : Option Value} (k : ∀ h1, MS h1 o1 k1 o2 u2 (gotA A p) → Off h h1 103 1 → ∀ l4 l5, WP sc 99 173 [some (.ref 97), l1, l2, some (.int (nI p)), l4, l5] [] h1 Q) : WP sc 99 71 [some (.ref 97), l1, l2, some (.int (nI p)), l4, l5] [] h Q := by
  obtain ⟨m, un, km, nm, sp, td, sd, hg, hI, at1, as1, lt1, ls1, t0, t1, hk, hR, pt, hlen⟩ := hM.facts
  obtain ⟨⟨G1, G2⟩, ⟨G3, G4⟩, G5, G6, G7⟩ := hG
  obtain ⟨r1, r2, r3⟩ := hR.1 p hp
  have rq := hR.2.2.1
  have rf := hR.2.2.2.2
  have hlt : A 4 0 % A 7 1 < A 7 1 := Nat.mod_lt _ (by omega)
  have rw1 := hR.2.1 _ hlt
  dsimp only at r1 r2 r3 rq rf rw1
  have b := G5 p hp
  have b3 := G6 _ hlt
  have off : ∀ c, Off h (h.set 103 c) 103 1 := fun c => Off.rf.st (by omega) (by omega)
  by_cases h0 : A 0 p = 0
  · have e : gotA A p = up2 A 4 1 (A 4 1 + 1) := by unfold gotA; rw [if_pos h0]
    rw [e] at k
    have z1 : (nI (A 0 p) = 0) ↔ True := ⟨fun _ => trivial, fun _ => (nI_eq0 (by omega)).mpr h0⟩
    simp (disch := first | assumption | exact wn2_i | exact wn2_r | exact wn2_n | exact Nat.le_of_ble_eq_true rfl | omega | (refine nI_z ?_ ?_ <;> omega)) only [s99_71, s99_72, s99_75, s99_76, s99_77, s99_78, s99_79, s99_82, s99_83, s99_86, s99_88, s99_89, s99_90, s99_91, s99_92, s99_93, wX_some, Option.toList_some, Option.toList_none, List.cons_append, List.nil_append, List.map_cons, List.map_nil, List.sum_cons, List.sum_nil, Value.category, wn2_i, wn2_r, wn2_n, Option.isSome_some, List.getElem?_cons_zero, List.getElem?_cons_succ, nI_add, nI_rem2, hg, as1, ls1, iat_n, Nat.zero_add, r1, z1, if_true, rf]
    exact k _ (pt _ _ _ (RA.f (v := A 4 1 + 1) hR ls1 G2 G4) rfl rfl rfl) (off _) _ _
  · have e : gotA A p = up2 A 0 p (cap (A 0 p + valA A p)) := by unfold gotA; rw [if_neg h0]
    rw [e] at k
    have z1 : (nI (A 0 p) = 0) ↔ False := ⟨fun q => h0 ((nI_eq0 (by omega)).mp q), False.elim⟩
    have hr : nI (A 4 0) - nI (A 4 0) / nI (A 7 1) * nI (A 7 1) = nI (A 4 0 % A 7 1) := nI_rem (by omega) (by omega) (by omega)
    have z2 : ¬ nI (A 7 1) = 0 := nI_z (by omega) (by omega)
    have z3 : ¬ nI 2 = 0 := nI_z (by omega) (by omega)
    have hko := fun Q => kindOf_wp (sc := sc) (Q := Q) hM hp G2
    have fin : ∀ v l4, v ≤ 2000 → wn_ok l4 = true → cap v = cap (A 0 p + valA A p) → WP sc 99 147 [some (.ref 97), l1, l2, some (.int (nI p)), l4, l5] [.int (nI v)] h Q := by
      intro v l4 hv hl4 hcap
      have pp := fun h1 x1 x2 l4 l5 => k h1 x1 x2 l4 l5
      by_cases hc : v ≤ 999
      · have n1 : nI v ≤ nI 999 := nI_le hc (by omega)
        have ec : cap v = v := by unfold cap; rw [if_neg (by omega)]
        simp (disch := first | assumption | exact wn2_i | exact wn2_r | exact wn2_n | exact Nat.le_of_ble_eq_true rfl | omega | (refine nI_z ?_ ?_ <;> omega)) only [s99_147, s99_149, s99_150, s99_153, s99_154, s99_155, s99_156, s99_158, s99_161, s99_164, s99_167, s99_170, s99_172, wX_some, Option.toList_some, Option.toList_none, List.cons_append, List.nil_append, List.map_cons, List.map_nil, List.sum_cons, List.sum_nil, Value.category, wn2_i, wn2_r, wn2_n, Option.isSome_some, List.getElem?_cons_zero, List.getElem?_cons_succ, nI_add, nI_rem2, hg, as1, ls1, iat_n, Nat.zero_add, n1, if_true]
        refine k _ (pt _ _ _ ?_ rfl rfl rfl) (off _) _ _
        rw [← hcap, ec]
        exact RA.w hR ls1 G2 G4 (by omega)
      · have n1 : ¬ nI v ≤ nI 999 := nI_ge (by omega) (by omega)
        have ec : cap v = 999 := by unfold cap; rw [if_pos (by omega)]
        simp (disch := first | assumption | exact wn2_i | exact wn2_r | exact wn2_n | exact Nat.le_of_ble_eq_true rfl | omega | (refine nI_z ?_ ?_ <;> omega)) only [s99_147, s99_149, s99_150, s99_153, s99_154, s99_155, s99_156, s99_158, s99_161, s99_164, s99_167, s99_170, s99_172, wX_some, Option.toList_some, Option.toList_none, List.cons_append, List.nil_append, List.map_cons, List.map_nil, List.sum_cons, List.sum_nil, Value.category, wn2_i, wn2_r, wn2_n, Option.isSome_some, List.getElem?_cons_zero, List.getElem?_cons_succ, nI_add, nI_rem2, hg, as1, ls1, iat_n, Nat.zero_add, n1, if_false]
        refine k _ (pt _ _ _ ?_ rfl rfl rfl) (off _) _ _
        rw [← hcap, ec]
        exact RA.w hR ls1 G2 G4 (by omega)
    have hw18 : 18 + A 4 0 % A 7 1 < 27 := by omega
    by_cases h3 : A 5 p = 3
    · have ev : valA A p = A 3 (A 4 0 % A 7 1) / 2 := by unfold valA; rw [if_pos h3]
      have z4 : (nI (A 5 p) = nI 3) ↔ True := ⟨fun _ => trivial, fun _ => by rw [h3]⟩
      have hd : nI (A 3 (A 4 0 % A 7 1)) / nI 2 = nI (A 3 (A 4 0 % A 7 1) / 2) := nI_div (by omega) (by omega) (by omega)
      have := fin (A 0 p + A 3 (A 4 0 % A 7 1) / 2) (some (.int (nI (A 3 (A 4 0 % A 7 1))))) (by omega) rfl (by rw [ev])
      simp (disch := first | assumption | exact wn2_i | exact wn2_r | exact wn2_n | exact Nat.le_of_ble_eq_true rfl | omega | (refine nI_z ?_ ?_ <;> omega)) only [s99_71, s99_72, s99_75, s99_76, s99_77, s99_78, s99_79, s99_82, s99_83, s99_86, s99_88, s99_89, s99_90, s99_91, s99_92, s99_93, s99_96, s99_97, s99_100, s99_102, s99_103, s99_106, s99_108, s99_109, s99_110, s99_113, s99_114, s99_115, s99_116, s99_117, s99_118, s99_120, s99_121, s99_124, s99_125, s99_126, s99_127, s99_128, s99_129, s99_130, s99_133, s99_134, s99_137, s99_139, s99_140, s99_141, s99_144, s99_146, wX_some, Option.toList_some, Option.toList_none, List.cons_append, List.nil_append, List.map_cons, List.map_nil, List.sum_cons, List.sum_nil, Value.category, wn2_i, wn2_r, wn2_n, Option.isSome_some, List.getElem?_cons_zero, List.getElem?_cons_succ, nI_add, nI_rem2, hg, at1, lt1, t1, as1, ls1, iat_n, Nat.zero_add, r1, z1, if_false, rq, hr, rw1, hko, z4, if_true, hd]
      exact this
    · have ev : valA A p = A 3 (A 4 0 % A 7 1) := by unfold valA; rw [if_neg h3]
      have z4 : (nI (A 5 p) = nI 3) ↔ False := ⟨fun q => h3 ((nI_eq (by omega) (by omega)).mp q), False.elim⟩
      have := fin (A 0 p + A 3 (A 4 0 % A 7 1)) (some (.int (nI (A 3 (A 4 0 % A 7 1))))) (by omega) rfl (by rw [ev])
      simp (disch := first | assumption | exact wn2_i | exact wn2_r | exact wn2_n | exact Nat.le_of_ble_eq_true rfl | omega | (refine nI_z ?_ ?_ <;> omega)) only [s99_71, s99_72, s99_75, s99_76, s99_77, s99_78, s99_79, s99_82, s99_83, s99_86, s99_88, s99_89, s99_90, s99_91, s99_92, s99_93, s99_96, s99_97, s99_100, s99_102, s99_103, s99_106, s99_108, s99_109, s99_110, s99_113, s99_114, s99_115, s99_116, s99_117, s99_118, s99_120, s99_121, s99_124, s99_125, s99_126, s99_127, s99_128, s99_129, s99_130, s99_133, s99_134, s99_137, s99_139, s99_140, s99_141, s99_144, s99_146, wX_some, Option.toList_some, Option.toList_none, List.cons_append, List.nil_append, List.map_cons, List.map_nil, List.sum_cons, List.sum_nil, Value.category, wn2_i, wn2_r, wn2_n, Option.isSome_some, List.getElem?_cons_zero, List.getElem?_cons_succ, nI_add, nI_rem2, hg, at1, lt1, t1, as1, ls1, iat_n, Nat.zero_add, r1, z1, if_false, rq, hr, rw1, hko, z4]
      exact this
theorem goQ_end (hM : MS h o1 k1 o2 u2 A) (h0 : A 7 0 ≤ 6) (h1 : A 7 1 ≤ 6) {p : Nat} (hp : p < A 7 0) {l1 l2 l4 l5 : Option Value} (k : ∀ h1, MS h1 o1 k1 o2 u2 (up2 (up2 (up2 (up2 A 1 p 0) 2 p (A 2 p + 1)) 4 2 (p + 1)) 4 0 (A 4 0 + 1)) → Off h h1 103 1 → Q none h1) : WP sc 99 173 [some (.ref 97), l1, l2, some (.int (nI p)), l4, l5] [] h Q := by
  obtain ⟨m, un, km, nm, sp, td, sd, hg, hI, at1, as1, lt1, ls1, t0, t1, hk, hR, pt, hlen⟩ := hM.facts
  have off : ∀ {h : List ms_C} c, Off h (h.set 103 c) 103 1 := fun c => Off.rf.st (by omega) (by omega)
  simp (disch := first | assumption | exact wn2_i | exact wn2_r | exact wn2_n | exact Nat.le_of_ble_eq_true rfl | omega | (refine nI_z ?_ ?_ <;> omega)) only [s99_173, s99_174, s99_177, s99_179, s99_180, s99_181, s99_182, wX_some, Option.toList_some, Option.toList_none, List.cons_append, List.nil_append, List.map_cons, List.map_nil, List.sum_cons, List.sum_nil, Value.category, wn2_i, wn2_r, wn2_n, Option.isSome_some, List.getElem?_cons_zero, List.getElem?_cons_succ, nI_add, nI_rem2, hg, as1, ls1, iat_n]
  have hMa := pt _ _ _ (RA.m (v := 0) hR ls1 h0 h1 (show p < 6 by omega)) rfl rfl rfl
  have hoa : Off h (h.set 103 (ms_ia (sd.set (6 + p) (nI 0)))) 103 1 := off _
  generalize h.set 103 (ms_ia (sd.set (6 + p) (nI 0))) = ha at hMa hoa ⊢
  obtain ⟨m, un, km, nm, sp, td, sd, hg, hI, at1, as1, lt1, ls1, t0, t1, hk, hR, pt, hlen⟩ := hMa.facts
  have r3 : sd.getD (12 + p) 0 = nI (A 2 p) := (hR.1 p hp).2.2
  simp (disch := first | assumption | exact wn2_i | exact wn2_r | exact wn2_n | exact Nat.le_of_ble_eq_true rfl | omega | (refine nI_z ?_ ?_ <;> omega)) only [s99_183, s99_184, s99_187, s99_189, s99_190, s99_191, s99_192, s99_193, s99_194, s99_195, wX_some, Option.toList_some, Option.toList_none, List.cons_append, List.nil_append, List.map_cons, List.map_nil, List.sum_cons, List.sum_nil, Value.category, wn2_i, wn2_r, wn2_n, Option.isSome_some, List.getElem?_cons_zero, List.getElem?_cons_succ, nI_add, nI_rem2, hg, as1, ls1, iat_n, r3]
  have hMb := pt _ _ _ (RA.st (v := A 2 p + 1) hR ls1 h0 h1 (show p < 6 by omega)) rfl rfl rfl
  have hob : Off ha (ha.set 103 (ms_ia (sd.set (12 + p) (nI (A 2 p + 1))))) 103 1 := off _
  generalize ha.set 103 (ms_ia (sd.set (12 + p) (nI (A 2 p + 1)))) = hb at hMb hob ⊢
  obtain ⟨m, un, km, nm, sp, td, sd, hg, hI, at1, as1, lt1, ls1, t0, t1, hk, hR, pt, hlen⟩ := hMb.facts
  simp (disch := first | assumption | exact wn2_i | exact wn2_r | exact wn2_n | exact Nat.le_of_ble_eq_true rfl | omega | (refine nI_z ?_ ?_ <;> omega)) only [s99_196, s99_197, s99_200, s99_202, s99_203, wX_some, Option.toList_some, Option.toList_none, List.cons_append, List.nil_append, List.map_cons, List.map_nil, List.sum_cons, List.sum_nil, Value.category, wn2_i, wn2_r, wn2_n, Option.isSome_some, List.getElem?_cons_zero, List.getElem?_cons_succ, nI_add, nI_rem2, hg, as1, ls1, iat_n]
  have hMc := pt _ _ _ (RA.c (v := p) hR ls1 h0 h1) rfl rfl rfl
  have hoc : Off hb (hb.set 103 (ms_ia (sd.set 25 (nI p)))) 103 1 := off _
  generalize hb.set 103 (ms_ia (sd.set 25 (nI p))) = hc at hMc hoc ⊢
  obtain ⟨m, un, km, nm, sp, td, sd, hg, hI, at1, as1, lt1, ls1, t0, t1, hk, hR, pt, hlen⟩ := hMc.facts
  have rq : sd.getD 24 0 = nI (A 4 0) := hR.2.2.1
  simp (disch := first | assumption | exact wn2_i | exact wn2_r | exact wn2_n | exact Nat.le_of_ble_eq_true rfl | omega | (refine nI_z ?_ ?_ <;> omega)) only [s99_204, s99_205, s99_208, s99_210, s99_211, s99_212, s99_213, s99_214, s99_215, wX_some, Option.toList_some, Option.toList_none, List.cons_append, List.nil_append, List.map_cons, List.map_nil, List.sum_cons, List.sum_nil, Value.category, wn2_i, wn2_r, wn2_n, Option.isSome_some, List.getElem?_cons_zero, List.getElem?_cons_succ, nI_add, nI_rem2, hg, as1, ls1, iat_n, rq]
  have hMd := pt _ _ _ (RA.q (v := A 4 0 + 1) hR ls1 h0 h1) rfl rfl rfl
  exact k _ hMd (((hoa.tr hob).tr hoc).tr (off _))
theorem goQuarter_wp (hM : MS h o1 k1 o2 u2 A) (hG : AG A) (hq : A 4 0 ≤ 200000) (lost : Bool) {l2 l3 l4 l5 : Option Value} (k : ∀ h1, MS h1 o1 k1 o2 u2 (nqA A lost) → Off h h1 103 1 → Q none h1) : WP sc 99 0 [some (.ref 97), some (.int (if lost then nI 1 else nI 0)), l2, l3, l4, l5] [] h Q := by
  have hG0 := hG
  obtain ⟨⟨G1, G2⟩, ⟨G3, G4⟩, G5, G6, G7⟩ := hG
  have key : ∀ i, i ≤ A 7 0 → ∀ h1 l3, MS h1 o1 k1 o2 u2 (decTo A i) → Off h h1 103 1 → WP sc 99 2 [some (.ref 97), some (.int (if lost then nI 1 else nI 0)), some (.int (nI i)), l3, l4, l5] [] h1 Q := by
    refine loop_up ?_ ?_
    · intro h1 l3 hM1 ho1
      have hD : MS h1 o1 k1 o2 u2 (decA A) := hM1.cong rfl rfl rfl rfl rfl (fun s hs => ⟨by
        show A 0 s - A 6 s = if s < A 7 0 then A 0 s - A 6 s else A 0 s
        rw [if_pos (show s < A 7 0 from hs)], rfl, rfl⟩)
      have hGD := decA_ag hG0
      obtain ⟨m, un, km, nm, sp, td, sd, hg, hI, at1, as1, lt1, ls1, t0, t1, hk, hR, pt, hlen⟩ := hD.facts
      have t0 : td.getD 0 0 = nI (A 7 0) := t0
      have hge : nI (A 7 0) ≤ nI (A 7 0) := nI_le (Nat.le_refl _) (by omega)
      have hb : ∀ s, s < decA A 7 0 → decA A 0 s ≤ 2000 ∧ decA A 1 s ≤ 2000 ∧ decA A 5 s ≤ 3 := fun s hs => by have := hGD.2.2.1 s hs; omega
      have hpo := fun Q x but l2 l3 hx => poorest_wp (sc := sc) (Q := Q) hD (x := x) (but := but) (l2 := l2) (l3 := l3) hx G1 G2 hb
      have hp1 := fun Q l2 l3 => hpo Q (-4) 6 l2 l3 (fun s hs => ⟨fun q => absurd q (by rw [m4_ne (by omega)]; exact id), fun q => by omega⟩)
      have hl1 : prn (decA A) 6 < A 7 0 := prn_lt (A := decA A) G1
      have hp2 := fun Q l2 l3 => hpo Q (nI (prn (decA A) 6)) (prn (decA A) 6) l2 l3 (fun s hs => nI_eq (by omega) (by omega))
      have hwl : whoA A lost < A 7 0 := whoA_lt hG0
      have fin : ∀ l2, WP sc 99 71 [some (.ref 97), some (.int (if lost then nI 1 else nI 0)), l2, some (.int (nI (whoA A lost))), l4, l5] [] h1 Q := by
        intro l2
        refine goQ_at hD hGD hq hwl (fun h2 hM2 ho2 l4 l5 => ?_)
        have e7 : gotA (decA A) (whoA A lost) 7 = A 7 := gotA_7
        refine goQ_end hM2 (by rw [e7]; exact G2) (by rw [e7]; exact G4) (by rw [e7]; exact hwl) (fun h3 hM3 ho3 => k h3 ?_ ((ho1.tr ho2).tr ho3))
        have e2 : gotA (decA A) (whoA A lost) 2 (whoA A lost) = decA A 2 (whoA A lost) := by rw [gotA_2]
        have e4 : gotA (decA A) (whoA A lost) 4 0 = A 4 0 := gotA_40
        rw [e2, e4] at hM3
        exact hM3
      rw [s99_2]
      cases lost with
      | false =>
        have fin := fin (some (.int (nI (prn (decA A) 6))))
        have ew : whoA A false = prn (decA A) 6 := rfl
        rw [ew] at fin
        simp (disch := first | assumption | exact wn2_i | exact wn2_r | exact wn2_n | exact Nat.le_of_ble_eq_true rfl | omega | (refine nI_z ?_ ?_ <;> omega)) only [s99_3, s99_4, s99_7, s99_8, s99_9, s99_50, s99_51, s99_53, s99_56, s99_57, s99_58, s99_61, s99_62, s99_63, s99_66, s99_69, s99_70, wX_some, Option.toList_some, Option.toList_none, List.cons_append, List.nil_append, List.map_cons, List.map_nil, List.sum_cons, List.sum_nil, Value.category, wn2_i, wn2_r, wn2_n, Option.isSome_some, List.getElem?_cons_zero, List.getElem?_cons_succ, nI_add, nI_rem2, hg, at1, lt1, iat_n, t0, hge, if_true, hp1, Bool.false_eq_true, if_false, nI_eq0]
        simpa only [Bool.false_eq_true, if_false] using fin
      | true =>
        have fin := fin (some (.int (nI (prn (decA A) 6))))
        have ew : whoA A true = prn (decA A) (prn (decA A) 6) := rfl
        rw [ew] at fin
        simp (disch := first | assumption | exact wn2_i | exact wn2_r | exact wn2_n | exact Nat.le_of_ble_eq_true rfl | omega | (refine nI_z ?_ ?_ <;> omega)) only [s99_3, s99_4, s99_7, s99_8, s99_9, s99_50, s99_51, s99_53, s99_56, s99_57, s99_58, s99_61, s99_62, s99_63, s99_66, s99_69, s99_70, wX_some, Option.toList_some, Option.toList_none, List.cons_append, List.nil_append, List.map_cons, List.map_nil, List.sum_cons, List.sum_nil, Value.category, wn2_i, wn2_r, wn2_n, Option.isSome_some, List.getElem?_cons_zero, List.getElem?_cons_succ, nI_add, nI_rem2, hg, at1, lt1, iat_n, t0, hge, if_true, hp1, hp2, if_false, nI_eq0, Nat.reduceEqDiff]
        simpa only [if_true] using fin
    · intro i hlt ih h1 l3 hM1 ho1
      obtain ⟨m, un, km, nm, sp, td, sd, hg, hI, at1, as1, lt1, ls1, t0, t1, hk, hR, pt, hlen⟩ := hM1.facts
      have t0 : td.getD 0 0 = nI (A 7 0) := t0
      have hge : ¬ nI (A 7 0) ≤ nI i := nI_ge hlt (by omega)
      have huo := fun Q => usesOf_wp (sc := sc) (Q := Q) hM1 (s := i) hlt G2
      have eu : decTo A i 6 i = A 6 i := rfl
      rw [eu] at huo
      have r1 : sd.getD i 0 = nI (A 0 i) := by
        have := (hR.1 i hlt).1
        dsimp only at this
        rw [this]
        show nI (if i < i then _ else A 0 i) = _
        rw [if_neg (by omega)]
      have b := G5 i hlt
      have ho2 : ∀ c, Off h (h1.set 103 c) 103 1 := fun c => ho1.st (by omega) (by omega)
      have hput : MS (h1.set 103 (ms_ia (sd.set i (nI (A 0 i - A 6 i))))) o1 k1 o2 u2 (decTo A (i + 1)) := by
        rw [← decTo_up]
        exact pt _ _ _ (RA.w hR ls1 G2 G4 (by omega)) rfl rfl rfl
      rw [s99_2]
      by_cases hc : A 6 i < A 0 i
      · have e1 : nI (A 0 i) - nI (A 6 i) = nI (A 0 i - A 6 i) := nI_sub (by omega)
        have n1 : ¬ nI (A 0 i - A 6 i) ≤ 0 := nI_nle (by omega) (by omega)
        simp (disch := first | assumption | exact wn2_i | exact wn2_r | exact wn2_n | exact Nat.le_of_ble_eq_true rfl | omega | (refine nI_z ?_ ?_ <;> omega)) only [s99_3, s99_4, s99_7, s99_8, s99_9, s99_12, s99_13, s99_16, s99_17, s99_18, s99_19, s99_20, s99_21, s99_22, s99_25, s99_26, s99_27, s99_28, s99_31, s99_32, s99_33, s99_34, s99_35, s99_38, s99_39, s99_42, s99_43, s99_44, s99_47, wX_some, Option.toList_some, Option.toList_none, List.cons_append, List.nil_append, List.map_cons, List.map_nil, List.sum_cons, List.sum_nil, Value.category, wn2_i, wn2_r, wn2_n, Option.isSome_some, List.getElem?_cons_zero, List.getElem?_cons_succ, nI_add, nI_rem2, hg, at1, lt1, t0, as1, ls1, iat_n, hge, if_false, Nat.zero_add, r1, huo, e1, n1]
        exact ih _ _ hput (ho2 _)
      · have n1 : nI (A 0 i) - nI (A 6 i) ≤ 0 := by
          by_cases he : A 0 i = A 6 i
          · rw [he, Int32.sub_self]
            exact Int32.le_refl 0
          · exact Int32.le_of_lt (pk_sneg (by omega) (by omega))
        have e0 : A 0 i - A 6 i = 0 := by omega
        rw [e0] at hput
        simp (disch := first | assumption | exact wn2_i | exact wn2_r | exact wn2_n | exact Nat.le_of_ble_eq_true rfl | omega | (refine nI_z ?_ ?_ <;> omega)) only [s99_3, s99_4, s99_7, s99_8, s99_9, s99_12, s99_13, s99_16, s99_17, s99_18, s99_19, s99_20, s99_21, s99_22, s99_25, s99_26, s99_27, s99_28, s99_31, s99_32, s99_33, s99_34, s99_35, s99_38, s99_39, s99_42, s99_43, s99_44, s99_47, wX_some, Option.toList_some, Option.toList_none, List.cons_append, List.nil_append, List.map_cons, List.map_nil, List.sum_cons, List.sum_nil, Value.category, wn2_i, wn2_r, wn2_n, Option.isSome_some, List.getElem?_cons_zero, List.getElem?_cons_succ, nI_add, nI_rem2, hg, at1, lt1, t0, as1, ls1, iat_n, hge, if_false, Nat.zero_add, r1, huo, n1, if_true]
        exact ih _ _ hput (ho2 _)
  simp (disch := first | assumption | exact wn2_i | exact wn2_r | exact wn2_n | exact Nat.le_of_ble_eq_true rfl | omega | (refine nI_z ?_ ?_ <;> omega)) only [s99_0, s99_1, wX_some, Option.toList_some, Option.toList_none, List.cons_append, List.nil_append, List.map_cons, List.map_nil, List.sum_cons, List.sum_nil, Value.category, wn2_i, wn2_r, wn2_n, Option.isSome_some, List.getElem?_cons_zero, List.getElem?_cons_succ, nI_add, nI_rem2]
  refine key 0 (by omega) h _ ?_ Off.rf
  · have e : decTo A 0 = A := by
      funext c
      unfold decTo
      by_cases hc : c = 0
      · rw [if_pos hc]; subst hc; funext j; rw [if_neg (by omega)]
      · rw [if_neg hc]
    rw [e]
    exact hM
theorem goQuarters_wp (hM : MS h o1 k1 o2 u2 A) (hG : AG A) {n : Nat} (hn : n ≤ 1000) (hq : A 4 0 + n ≤ 200000) {l2 : Option Value} (k : ∀ h1, MS h1 o1 k1 o2 u2 (lpA A n) → Off h h1 103 1 → Q none h1) : WP sc 98 0 [some (.ref 97), some (.int (nI n)), l2] [] h Q := by
  have key : ∀ i, i ≤ n → ∀ h1, MS h1 o1 k1 o2 u2 (lpA A i) → Off h h1 103 1 → WP sc 98 2 [some (.ref 97), some (.int (nI n)), some (.int (nI i))] [] h1 Q := by
    refine loop_up ?_ ?_
    · intro h1 hM1 ho1
      have hge : nI n ≤ nI n := nI_le (Nat.le_refl _) (by omega)
      rw [s98_2]
      simp (disch := first | assumption | exact wn2_i | exact wn2_r | exact wn2_n | exact Nat.le_of_ble_eq_true rfl | omega | (refine nI_z ?_ ?_ <;> omega)) only [s98_3, s98_4, s98_7, s98_8, s98_9, s98_12, s98_15, s98_18, wX_some, Option.toList_some, Option.toList_none, List.cons_append, List.nil_append, List.map_cons, List.map_nil, List.sum_cons, List.sum_nil, Value.category, wn2_i, wn2_r, wn2_n, Option.isSome_some, List.getElem?_cons_zero, List.getElem?_cons_succ, nI_add, nI_rem2, hge, if_true]
      exact k _ hM1 ho1
    · intro i hlt ih h1 hM1 ho1
      have hge : ¬ nI n ≤ nI i := nI_ge hlt (by omega)
      obtain ⟨m, un, km, nm, sp, td, sd, hg, hI, -⟩ := hM1.facts
      rw [s98_2]
      simp (disch := first | assumption | exact wn2_i | exact wn2_r | exact wn2_n | exact Nat.le_of_ble_eq_true rfl | omega | (refine nI_z ?_ ?_ <;> omega)) only [s98_3, s98_4, s98_7, s98_8, s98_9, wX_some, Option.toList_some, Option.toList_none, List.cons_append, List.nil_append, List.map_cons, List.map_nil, List.sum_cons, List.sum_nil, Value.category, wn2_i, wn2_r, wn2_n, Option.isSome_some, List.getElem?_cons_zero, List.getElem?_cons_succ, nI_add, nI_rem2, hge, if_false]
      refine goQuarter_wp (lost := false) hM1 (lpA_ag hG i) (by rw [(lpA_s i).2.2.2.2]; omega) (fun h2 hM2 ho2 => ?_)
      simp (disch := first | assumption | exact wn2_i | exact wn2_r | exact wn2_n | exact Nat.le_of_ble_eq_true rfl | omega | (refine nI_z ?_ ?_ <;> omega)) only [s98_12, s98_15, wX_some, Option.toList_some, Option.toList_none, List.cons_append, List.nil_append, List.map_cons, List.map_nil, List.sum_cons, List.sum_nil, Value.category, wn2_i, wn2_r, wn2_n, Option.isSome_some, List.getElem?_cons_zero, List.getElem?_cons_succ, nI_add, nI_rem2]
      exact ih _ hM2 (ho1.tr ho2)
  simp (disch := first | assumption | exact wn2_i | exact wn2_r | exact wn2_n | exact Nat.le_of_ble_eq_true rfl | omega | (refine nI_z ?_ ?_ <;> omega)) only [s98_0, s98_1, wX_some, Option.toList_some, Option.toList_none, List.cons_append, List.nil_append, List.map_cons, List.map_nil, List.sum_cons, List.sum_nil, Value.category, wn2_i, wn2_r, wn2_n, Option.isSome_some, List.getElem?_cons_zero, List.getElem?_cons_succ, nI_add, nI_rem2]
  exact key 0 (by omega) h hM Off.rf
theorem goGive_wp (hM : MS h o1 k1 o2 u2 A) {s t g : Nat} (hs : s < A 7 0) (ht : t < A 7 0) (h0 : A 7 0 ≤ 6) (h1 : A 7 1 ≤ 6) (hg0 : g ≤ 40) (hb : ∀ s, s < A 7 0 → A 0 s ≤ 2000)
    (ky : (s ≠ t ∧ g ≤ A 0 s ∧ A 0 t < 960) → ∀ h1, MS h1 o1 k1 o2 u2 (giveA A s t g) → Off h h1 103 1 → Q (some (.int (nI 1))) h1)
    (kn : ¬ (s ≠ t ∧ g ≤ A 0 s ∧ A 0 t < 960) → Q (some (.int (nI 0))) h) : WP sc 105 0 [some (.ref 97), some (.int (nI s)), some (.int (nI t)), some (.int (nI g))] [] h Q := by
  obtain ⟨m, un, km, nm, sp, td, sd, hg, hI, at1, as1, lt1, ls1, t0, t1, hk, hR, pt, hlen⟩ := hM.facts
  have rs : sd.getD s 0 = nI (A 0 s) := (hR.1 s hs).1
  have rt : sd.getD t 0 = nI (A 0 t) := (hR.1 t ht).1
  have b1 := hb s hs
  have b2 := hb t ht
  have z0 : (nI 0 = 0 ∨ nI 0 = 1) ↔ True := ⟨fun _ => trivial, fun _ => Or.inl rfl⟩
  have z1 : (nI 1 = 0 ∨ nI 1 = 1) ↔ True := ⟨fun _ => trivial, fun _ => Or.inr rfl⟩
  by_cases c1 : s = t
  · have e1 : (nI s = nI t) ↔ True := ⟨fun _ => trivial, fun _ => by rw [c1]⟩
    simp (disch := first | assumption | exact wn2_i | exact wn2_r | exact wn2_n | exact Nat.le_of_ble_eq_true rfl | omega | (refine nI_z ?_ ?_ <;> omega)) only [s105_0, s105_1, s105_2, s105_5, s105_6, s105_9, s105_10, s105_11, s105_12, s105_13, s105_14, s105_17, s105_18, s105_21, s105_22, s105_23, s105_24, s105_25, s105_28, s105_31, s105_32, wX_some, Option.toList_some, Option.toList_none, List.cons_append, List.nil_append, List.map_cons, List.map_nil, List.sum_cons, List.sum_nil, Value.category, wn2_i, wn2_r, wn2_n, Option.isSome_some, List.getElem?_cons_zero, List.getElem?_cons_succ, nI_add, nI_rem2, e1, if_true, z0, true_and]
    exact kn (fun q => q.1 c1)
  · have e1 : (nI s = nI t) ↔ False := ⟨fun q => c1 ((nI_eq (by omega) (by omega)).mp q), False.elim⟩
    by_cases c2 : A 0 s < g
    · have n2 : nI (A 0 s) < nI g := nI_lt c2 (by omega)
      simp (disch := first | assumption | exact wn2_i | exact wn2_r | exact wn2_n | exact Nat.le_of_ble_eq_true rfl | omega | (refine nI_z ?_ ?_ <;> omega)) only [s105_0, s105_1, s105_2, s105_5, s105_6, s105_9, s105_10, s105_11, s105_12, s105_13, s105_14, s105_17, s105_18, s105_21, s105_22, s105_23, s105_24, s105_25, s105_28, s105_31, s105_32, wX_some, Option.toList_some, Option.toList_none, List.cons_append, List.nil_append, List.map_cons, List.map_nil, List.sum_cons, List.sum_nil, Value.category, wn2_i, wn2_r, wn2_n, Option.isSome_some, List.getElem?_cons_zero, List.getElem?_cons_succ, nI_add, nI_rem2, e1, if_false, hg, as1, ls1, iat_n, Nat.zero_add, rs, n2, if_true, z0, true_and]
      exact kn (fun q => by omega)
    · have n2 : ¬ nI (A 0 s) < nI g := nI_nlt (by omega) (by omega)
      by_cases c3 : A 0 t < 960
      · have n3 : nI (A 0 t) < nI 960 := nI_lt c3 (by omega)
        have e2 : nI (A 0 s) - nI g = nI (A 0 s - g) := nI_sub (by omega)
        simp (disch := first | assumption | exact wn2_i | exact wn2_r | exact wn2_n | exact Nat.le_of_ble_eq_true rfl | omega | (refine nI_z ?_ ?_ <;> omega)) only [s105_0, s105_1, s105_2, s105_5, s105_6, s105_9, s105_10, s105_11, s105_12, s105_13, s105_14, s105_17, s105_18, s105_21, s105_22, s105_23, s105_24, s105_25, s105_28, s105_31, s105_32, s105_33, s105_34, s105_37, s105_38, s105_39, s105_40, s105_41, s105_42, s105_43, s105_44, wX_some, Option.toList_some, Option.toList_none, List.cons_append, List.nil_append, List.map_cons, List.map_nil, List.sum_cons, List.sum_nil, Value.category, wn2_i, wn2_r, wn2_n, Option.isSome_some, List.getElem?_cons_zero, List.getElem?_cons_succ, nI_add, nI_rem2, e1, if_false, hg, as1, ls1, iat_n, Nat.zero_add, rs, rt, n2, n3, if_true, e2]
        have hMa := pt _ _ _ (RA.w (v := A 0 s - g) hR ls1 h0 h1 (show s < 6 by omega)) rfl rfl rfl
        have hoa : Off h (h.set 103 (ms_ia (sd.set s (nI (A 0 s - g))))) 103 1 := Off.rf.st (by omega) (by omega)
        generalize h.set 103 (ms_ia (sd.set s (nI (A 0 s - g)))) = ha at hMa hoa ⊢
        obtain ⟨m, un, km, nm, sp, td, sd, hg, hI, at1, as1, lt1, ls1, t0, t1, hk, hR, pt, hlen⟩ := hMa.facts
        have rt : sd.getD t 0 = nI (A 0 t) := by
          have := (hR.1 t ht).1
          dsimp only at this
          rw [this]
          show nI (up1 (A 0) s (A 0 s - g) t) = _
          rw [up1_ne (fun e => c1 e.symm)]
        simp (disch := first | assumption | exact wn2_i | exact wn2_r | exact wn2_n | exact Nat.le_of_ble_eq_true rfl | omega | (refine nI_z ?_ ?_ <;> omega)) only [s105_45, s105_46, s105_49, s105_50, s105_51, s105_52, s105_53, s105_54, s105_55, s105_56, s105_57, s105_58, wX_some, Option.toList_some, Option.toList_none, List.cons_append, List.nil_append, List.map_cons, List.map_nil, List.sum_cons, List.sum_nil, Value.category, wn2_i, wn2_r, wn2_n, Option.isSome_some, List.getElem?_cons_zero, List.getElem?_cons_succ, nI_add, nI_rem2, hg, as1, ls1, iat_n, Nat.zero_add, rt, z1, true_and]
        exact ky ⟨c1, by omega, c3⟩ _ (pt _ _ _ (RA.w (v := A 0 t + g) hR ls1 h0 h1 (show t < 6 by omega)) rfl rfl rfl) (hoa.tr (Off.rf.st (by omega) (by omega)))
      · have n3 : ¬ nI (A 0 t) < nI 960 := nI_nlt (by omega) (by omega)
        simp (disch := first | assumption | exact wn2_i | exact wn2_r | exact wn2_n | exact Nat.le_of_ble_eq_true rfl | omega | (refine nI_z ?_ ?_ <;> omega)) only [s105_0, s105_1, s105_2, s105_5, s105_6, s105_9, s105_10, s105_11, s105_12, s105_13, s105_14, s105_17, s105_18, s105_21, s105_22, s105_23, s105_24, s105_25, s105_28, s105_31, s105_32, wX_some, Option.toList_some, Option.toList_none, List.cons_append, List.nil_append, List.map_cons, List.map_nil, List.sum_cons, List.sum_nil, Value.category, wn2_i, wn2_r, wn2_n, Option.isSome_some, List.getElem?_cons_zero, List.getElem?_cons_succ, nI_add, nI_rem2, e1, if_false, hg, as1, ls1, iat_n, Nat.zero_add, rs, rt, n2, n3, z0, true_and]
        exact kn (fun q => c3 q.2.2)
theorem goDrawn_wp (hM : MS h o1 k1 o2 u2 A) (hG : AG A) {d : Nat} (hd : d ≤ 100000) {l2 l3 l4 l5 : Option Value} (k : ∀ h1, MS h1 o1 k1 o2 u2 (sufA A d) → Off h h1 103 1 → Q none h1) : WP sc 126 0 [some (.ref 97), some (.int (nI d)), l2, l3, l4, l5] [] h Q := by
  obtain ⟨m, un, km, nm, sp, td, sd, hg, hI, at1, as1, lt1, ls1, t0, t1, hk, hR, pt, hlen⟩ := hM.facts
  obtain ⟨⟨G1, G2⟩, ⟨G3, G4⟩, G5, G6, G7⟩ := hG
  have hs : d % A 7 0 < A 7 0 := Nat.mod_lt _ (by omega)
  have ht : d / 64 % A 7 0 < A 7 0 := Nat.mod_lt _ (by omega)
  have hb : ∀ s, s < A 7 0 → A 0 s ≤ 2000 := fun s hs => by have := (G5 s hs).1; omega
  have e1 : nI d - nI d / nI (A 7 0) * nI (A 7 0) = nI (d % A 7 0) := nI_rem (by omega) (by omega) (by omega)
  have e2 : nI d / nI 64 = nI (d / 64) := nI_div (by omega) (by omega) (by omega)
  have e3 : nI (d / 64) - nI (d / 64) / nI (A 7 0) * nI (A 7 0) = nI (d / 64 % A 7 0) := nI_rem (by omega) (by omega) (by omega)
  have e4 : nI d / nI 8 = nI (d / 8) := nI_div (by omega) (by omega) (by omega)
  have e5 : nI (d / 8) - nI (d / 8) / nI 4 * nI 4 = nI (d / 8 % 4) := nI_rem (by omega) (by omega) (by omega)
  have e6 : nI (d / 64) - nI (d / 64) / nI 12 * nI 12 = nI (d / 64 % 12) := nI_rem (by omega) (by omega) (by omega)
  have z1 : ¬ nI (A 7 0) = 0 := nI_z (by omega) (by omega)
  have z2 : ¬ nI 64 = 0 := nI_z (by omega) (by omega)
  have z3 : ¬ nI 8 = 0 := nI_z (by omega) (by omega)
  have z4 : ¬ nI 4 = 0 := nI_z (by omega) (by omega)
  have z5 : ¬ nI 12 = 0 := nI_z (by omega) (by omega)
  have off : ∀ c, Off h (h.set 103 c) 103 1 := fun c => Off.rf.st (by omega) (by omega)
  unfold sufA at k
  rcases (by omega : d / 8 % 4 = 0 ∨ d / 8 % 4 = 1 ∨ d / 8 % 4 = 2 ∨ d / 8 % 4 = 3) with c | c | c | c
  · rw [if_pos c] at k
    rw [c] at e5
    simp (disch := first | assumption | exact wn2_i | exact wn2_r | exact wn2_n | exact Nat.le_of_ble_eq_true rfl | omega | (refine nI_z ?_ ?_ <;> omega)) only [s126_0, s126_1, s126_2, s126_5, s126_6, s126_7, s126_8, s126_9, s126_10, s126_12, s126_13, s126_14, s126_17, s126_18, s126_19, s126_20, s126_21, s126_22, s126_24, s126_25, s126_26, s126_27, s126_29, s126_31, s126_34, s126_35, s126_38, s126_40, s126_41, s126_42, s126_43, s126_45, s126_46, s126_48, s126_49, s126_50, s126_52, s126_53, s126_56, s126_57, s126_58, s126_59, s126_60, s126_63, s126_66, s126_67, s126_70, s126_71, s126_73, s126_75, s126_76, s126_79, s126_81, s126_84, s126_85, s126_88, s126_89, s126_90, s126_91, s126_92, s126_93, wX_some, Option.toList_some, Option.toList_none, List.cons_append, List.nil_append, List.map_cons, List.map_nil, List.sum_cons, List.sum_nil, Value.category, wn2_i, wn2_r, wn2_n, Option.isSome_some, List.getElem?_cons_zero, List.getElem?_cons_succ, nI_add, nI_rem2, hg, at1, lt1, as1, ls1, iat_n, t0, e1, e2, e3, e4, e5, e6, nI_eq0, nI_eq, if_true, if_false, Nat.reduceEqDiff]
    exact k _ (pt _ _ _ (RA.m (v := d / 64 % 12) hR ls1 G2 G4 (show d % A 7 0 < 6 by omega)) rfl rfl rfl) (off _)
  · rw [if_neg (by omega), if_pos c] at k
    rw [c] at e5
    simp (disch := first | assumption | exact wn2_i | exact wn2_r | exact wn2_n | exact Nat.le_of_ble_eq_true rfl | omega | (refine nI_z ?_ ?_ <;> omega)) only [s126_0, s126_1, s126_2, s126_5, s126_6, s126_7, s126_8, s126_9, s126_10, s126_12, s126_13, s126_14, s126_17, s126_18, s126_19, s126_20, s126_21, s126_22, s126_24, s126_25, s126_26, s126_27, s126_29, s126_31, s126_34, s126_35, s126_38, s126_40, s126_41, s126_42, s126_43, s126_45, s126_46, s126_48, s126_49, s126_50, s126_52, s126_53, s126_56, s126_57, s126_58, s126_59, s126_60, wX_some, Option.toList_some, Option.toList_none, List.cons_append, List.nil_append, List.map_cons, List.map_nil, List.sum_cons, List.sum_nil, Value.category, wn2_i, wn2_r, wn2_n, Option.isSome_some, List.getElem?_cons_zero, List.getElem?_cons_succ, nI_add, nI_rem2, hg, at1, lt1, as1, ls1, iat_n, t0, e1, e2, e3, e4, e5, e6, nI_eq0, nI_eq, if_true, if_false, Nat.reduceEqDiff]
    refine goGive_wp hM hs ht G2 G4 (by omega) hb (fun hc h1 hM1 ho1 => ?_) (fun hc => ?_)
    · rw [if_pos hc] at k
      simp (disch := first | assumption | exact wn2_i | exact wn2_r | exact wn2_n | exact Nat.le_of_ble_eq_true rfl | omega | (refine nI_z ?_ ?_ <;> omega)) only [s126_63, s126_66, s126_67, s126_70, s126_71, s126_73, s126_75, s126_76, s126_79, s126_81, s126_84, s126_85, s126_88, s126_89, s126_90, s126_91, s126_92, s126_93, wX_some, Option.toList_some, Option.toList_none, List.cons_append, List.nil_append, List.map_cons, List.map_nil, List.sum_cons, List.sum_nil, Value.category, wn2_i, wn2_r, wn2_n, Option.isSome_some, List.getElem?_cons_zero, List.getElem?_cons_succ, nI_add, nI_rem2, nI_eq0, nI_eq, if_true, if_false, Nat.reduceEqDiff]
      exact k h1 hM1 ho1
    · rw [if_neg hc] at k
      simp (disch := first | assumption | exact wn2_i | exact wn2_r | exact wn2_n | exact Nat.le_of_ble_eq_true rfl | omega | (refine nI_z ?_ ?_ <;> omega)) only [s126_63, s126_66, s126_67, s126_70, s126_71, s126_73, s126_75, s126_76, s126_79, s126_81, s126_84, s126_85, s126_88, s126_89, s126_90, s126_91, s126_92, s126_93, wX_some, Option.toList_some, Option.toList_none, List.cons_append, List.nil_append, List.map_cons, List.map_nil, List.sum_cons, List.sum_nil, Value.category, wn2_i, wn2_r, wn2_n, Option.isSome_some, List.getElem?_cons_zero, List.getElem?_cons_succ, nI_add, nI_rem2, nI_eq0, nI_eq, if_true, if_false, Nat.reduceEqDiff]
      exact k h hM Off.rf
  · rw [if_neg (by omega), if_neg (by omega), if_pos c] at k
    rw [c] at e5
    simp (disch := first | assumption | exact wn2_i | exact wn2_r | exact wn2_n | exact Nat.le_of_ble_eq_true rfl | omega | (refine nI_z ?_ ?_ <;> omega)) only [s126_0, s126_1, s126_2, s126_5, s126_6, s126_7, s126_8, s126_9, s126_10, s126_12, s126_13, s126_14, s126_17, s126_18, s126_19, s126_20, s126_21, s126_22, s126_24, s126_25, s126_26, s126_27, s126_29, s126_31, s126_34, s126_35, s126_38, s126_40, s126_41, s126_42, s126_43, s126_45, s126_46, s126_48, s126_49, s126_50, s126_52, s126_53, s126_56, s126_57, s126_58, s126_59, s126_60, s126_63, s126_66, s126_67, s126_70, s126_71, s126_73, s126_75, s126_76, s126_79, s126_81, s126_84, s126_85, s126_88, s126_89, s126_90, s126_91, s126_92, s126_93, wX_some, Option.toList_some, Option.toList_none, List.cons_append, List.nil_append, List.map_cons, List.map_nil, List.sum_cons, List.sum_nil, Value.category, wn2_i, wn2_r, wn2_n, Option.isSome_some, List.getElem?_cons_zero, List.getElem?_cons_succ, nI_add, nI_rem2, hg, at1, lt1, as1, ls1, iat_n, t0, e1, e2, e3, e4, e5, e6, nI_eq0, nI_eq, if_true, if_false, Nat.reduceEqDiff, Nat.zero_add]
    exact k _ (pt _ _ _ (RA.w (v := 0) hR ls1 G2 G4 (show d % A 7 0 < 6 by omega)) rfl rfl rfl) (off _)
  · rw [if_neg (by omega), if_neg (by omega), if_neg (by omega)] at k
    rw [c] at e5
    simp (disch := first | assumption | exact wn2_i | exact wn2_r | exact wn2_n | exact Nat.le_of_ble_eq_true rfl | omega | (refine nI_z ?_ ?_ <;> omega)) only [s126_0, s126_1, s126_2, s126_5, s126_6, s126_7, s126_8, s126_9, s126_10, s126_12, s126_13, s126_14, s126_17, s126_18, s126_19, s126_20, s126_21, s126_22, s126_24, s126_25, s126_26, s126_27, s126_29, s126_31, s126_34, s126_35, s126_38, s126_40, s126_41, s126_42, s126_43, s126_45, s126_46, s126_48, s126_49, s126_50, s126_52, s126_53, s126_56, s126_57, s126_58, s126_59, s126_60, s126_63, s126_66, s126_67, s126_70, s126_71, s126_73, s126_75, s126_76, s126_79, s126_81, s126_84, s126_85, s126_88, s126_89, s126_90, s126_91, s126_92, s126_93, wX_some, Option.toList_some, Option.toList_none, List.cons_append, List.nil_append, List.map_cons, List.map_nil, List.sum_cons, List.sum_nil, Value.category, wn2_i, wn2_r, wn2_n, Option.isSome_some, List.getElem?_cons_zero, List.getElem?_cons_succ, nI_add, nI_rem2, hg, at1, lt1, as1, ls1, iat_n, t0, e1, e2, e3, e4, e5, e6, nI_eq0, nI_eq, if_true, if_false, Nat.reduceEqDiff]
    exact k h hM Off.rf
end MQ

-- the model's calls: help, decade
/-- two towns alike but for the firewood so far, which is f more -/
def FR (B C : AS) (f : Nat) : Prop := (∀ c, c ≠ 4 → B c = C c) ∧ B 4 0 = C 4 0 ∧ B 4 2 = C 4 2 ∧ B 4 1 = C 4 1 + f
theorem pst_congr {A B : AS} {but : Nat} (h : ∀ s, lk A s = lk B s) : ∀ n, pst A but n = pst B but n := by
  intro n
  induction n with
  | zero => rfl
  | succ n ih =>
    unfold pst
    rw [ih]
    cases pst B but n with
    | none => rfl
    | some p => simp only [h]
theorem FR.dec {B C : AS} {f : Nat} (h : FR B C f) : FR (decA B) (decA C) f := by
  obtain ⟨a, b, c, d⟩ := h
  refine ⟨fun k hk => ?_, b, c, d⟩
  unfold decA
  rw [a 0 (by omega), a 6 (by omega), a k hk]
theorem FR.prnE {B C : AS} {f but : Nat} (h : FR B C f) : prn B but = prn C but := by
  unfold prn
  rw [h.1 7 (by omega), pst_congr (B := C)]
  intro s
  unfold lk
  rw [h.1 5 (by omega), h.1 0 (by omega), h.1 1 (by omega)]
theorem FR.who {B C : AS} {f : Nat} {l : Bool} (h : FR B C f) : whoA B l = whoA C l := by
  unfold whoA
  rw [h.dec.prnE, h.dec.prnE]
theorem FR.got {B C : AS} {f p : Nat} (h : FR B C f) : FR (gotA B p) (gotA C p) f := by
  have h0 := h
  obtain ⟨a, b, c, d⟩ := h
  have e : valA B p = valA C p := by
    unfold valA
    rw [a 5 (by omega), a 3 (by omega), a 7 (by omega), b]
  unfold gotA
  rw [a 0 (by omega), e]
  by_cases hz : C 0 p = 0
  · rw [if_pos hz, if_pos hz]
    refine ⟨fun k hk => ?_, b, c, ?_⟩
    · unfold up2; rw [if_neg hk, if_neg hk]; exact a k hk
    · show B 4 1 + 1 = C 4 1 + 1 + f
      omega
  · rw [if_neg hz, if_neg hz]
    refine ⟨fun k hk => ?_, b, c, d⟩
    unfold up2
    rw [a 0 (by omega), a k hk]
theorem FR.up {B C : AS} {f c i v : Nat} (h : FR B C f) (hc : c ≠ 4) : FR (up2 B c i v) (up2 C c i v) f := by
  obtain ⟨a, b, d, e⟩ := h
  have q : ∀ (X : AS) j, up2 X c i v 4 j = X 4 j := fun X j => by unfold up2; rw [if_neg (fun q => hc q.symm)]
  refine ⟨fun k hk => ?_, by rw [q, q]; exact b, by rw [q, q]; exact d, by rw [q, q]; exact e⟩
  unfold up2
  rw [a c hc, a k hk]
theorem FR.up4 {B C : AS} {f i v : Nat} (h : FR B C f) (hi : i = 0 ∨ i = 2) : FR (up2 B 4 i v) (up2 C 4 i v) f := by
  obtain ⟨a, b, d, e⟩ := h
  have q : ∀ (X : AS) j, up2 X 4 i v 4 j = if j = i then v else X 4 j := fun X j => rfl
  refine ⟨fun k hk => ?_, ?_, ?_, ?_⟩
  · unfold up2; rw [if_neg hk, if_neg hk]; exact a k hk
  · rw [q, q, b]
  · rw [q, q, d]
  · rw [q, q, if_neg (by omega), if_neg (by omega)]; exact e
theorem FR.nq {B C : AS} {f : Nat} {l : Bool} (h : FR B C f) : FR (nqA B l) (nqA C l) f := by
  unfold nqA stdA
  rw [h.who, h.2.1, h.dec.1 2 (by omega)]
  exact ((((h.dec.got).up (by omega)).up (by omega)).up4 (Or.inr rfl)).up4 (Or.inl rfl)
theorem FR.suf {B C : AS} {f d : Nat} (h : FR B C f) : FR (sufA B d) (sufA C d) f := by
  unfold sufA giveA
  rw [h.1 7 (by omega), h.1 0 (by omega)]
  split
  · exact h.up (by omega)
  · split
    · split
      · exact (h.up (by omega)).up (by omega)
      · exact h
    · split
      · exact h.up (by omega)
      · exact h
theorem dcd_fr {A : AS} {z : Nat} : ∀ n, FR (dcd A z n) (dcd (up2 A 4 1 0) z n) (A 4 1) := by
  intro n
  induction n with
  | zero =>
    refine ⟨fun k hk => ?_, rfl, rfl, (Nat.zero_add _).symm⟩
    show A k = up2 A 4 1 0 k
    unfold up2; rw [if_neg hk]
  | succ n ih => exact (ih.suf).nq
theorem smW_congr {A B : AS} (h : A 0 = B 0) : ∀ n, smW A n = smW B n := by
  intro n
  induction n with
  | zero => rfl
  | succ n ih => unfold smW; rw [ih, h]
section M69
variable {sc : List Int32} {h : List ms_C} {Q : Option Value → List ms_C → Prop} {o1 k1 o2 u2 : Int32} {T : Nat → Nat} {m : Nat} {A B : AS} {U K : List AS} {L : List (Nat × Nat)} {S : GS}
theorem m_help (hM : MIS h S) (hg : GIS S) {g n w : Int32} {l4 l5 l6 l7 l8 : Option Value} (k : ∀ h1, MIS h1 (op_help g n w S).2 → Off h h1 97 13 → Q (some (.int (op_help g n w S).1)) h1) : WP sc 117 0 [some (.ref 97), some (.int g), some (.int n), some (.int w), l4, l5, l6, l7, l8] [] h Q := by
  obtain ⟨⟨T, m⟩, A, U, K, L⟩ := S
  have hM0 := hM
  obtain ⟨k1, u2, hM⟩ := hM
  have hg : GI m A U K L := hg
  have hM : MJ h (-4) k1 (-4) u2 T m A U K L := hM
  obtain ⟨-, hAG, hq, -⟩ := hg
  have hAG0 := hAG
  obtain ⟨⟨G1, G2⟩, ⟨G3, G4⟩, G5, G6, G7⟩ := hAG
  unfold op_help at k
  dsimp only at k
  cases hr : rng 1 40 g with
  | false =>
    rw [hr, Bool.false_and, Bool.false_and, if_neg (by decide)] at k
    simp (disch := first | assumption | exact wn2_i | exact wn2_r | exact wn2_n | exact Nat.le_of_ble_eq_true rfl | omega | (refine nI_z ?_ ?_ <;> omega)) only [s117_0, s117_1, s117_2, s117_3, s117_6, s117_9, s117_12, s117_13, s117_14, s117_15, s117_18, s117_21, s117_24, s117_25, s117_26, s117_27, s117_28, s117_31, s117_34, s117_35, wX_some, Option.toList_some, Option.toList_none, List.cons_append, List.nil_append, List.map_cons, List.map_nil, List.sum_cons, List.sum_nil, Value.category, wn2_i, wn2_r, wn2_n, Option.isSome_some, List.getElem?_cons_zero, List.getElem?_cons_succ, nI_add, nI_rem2, in_rng, hr, Bool.false_eq_true, if_false, nI_eq0, if_true]
    exact k h hM0 Off.rf
  | true =>
    cases hr2 : rng 0 40 n with
    | false =>
      rw [hr2, Bool.and_false, Bool.false_and, if_neg (by decide)] at k
      simp (disch := first | assumption | exact wn2_i | exact wn2_r | exact wn2_n | exact Nat.le_of_ble_eq_true rfl | omega | (refine nI_z ?_ ?_ <;> omega)) only [s117_0, s117_1, s117_2, s117_3, s117_6, s117_9, s117_12, s117_13, s117_14, s117_15, s117_18, s117_21, s117_24, s117_25, s117_26, s117_27, s117_28, s117_31, s117_34, s117_35, wX_some, Option.toList_some, Option.toList_none, List.cons_append, List.nil_append, List.map_cons, List.map_nil, List.sum_cons, List.sum_nil, Value.category, wn2_i, wn2_r, wn2_n, Option.isSome_some, List.getElem?_cons_zero, List.getElem?_cons_succ, nI_add, nI_rem2, hr, hr2, in_rng, Bool.false_eq_true, if_false, nI_eq0, if_true, Nat.reduceEqDiff]
      exact k h hM0 Off.rf
    | true =>
      cases hr3 : rng 0 1 w with
      | false =>
        rw [hr3, Bool.and_false, if_neg (by decide)] at k
        simp (disch := first | assumption | exact wn2_i | exact wn2_r | exact wn2_n | exact Nat.le_of_ble_eq_true rfl | omega | (refine nI_z ?_ ?_ <;> omega)) only [s117_0, s117_1, s117_2, s117_3, s117_6, s117_9, s117_12, s117_13, s117_14, s117_15, s117_18, s117_21, s117_24, s117_25, s117_26, s117_27, s117_28, s117_31, s117_34, s117_35, wX_some, Option.toList_some, Option.toList_none, List.cons_append, List.nil_append, List.map_cons, List.map_nil, List.sum_cons, List.sum_nil, Value.category, wn2_i, wn2_r, wn2_n, Option.isSome_some, List.getElem?_cons_zero, List.getElem?_cons_succ, nI_add, nI_rem2, hr, hr2, hr3, in_rng, Bool.false_eq_true, if_false, nI_eq0, if_true, Nat.reduceEqDiff]
        exact k h hM0 Off.rf
      | true =>
        rw [hr, hr2, hr3, Bool.and_true, Bool.and_true, if_pos rfl] at k
        obtain ⟨i, i1, i2, rfl⟩ := rng_nI (by omega) hr
        obtain ⟨j, j1, j2, rfl⟩ := rng_nI (by omega) hr2
        obtain ⟨u, u1, u2', rfl⟩ := rng_nI (by omega) hr3
        rw [nat_nI (by omega), nat_nI (by omega), nat_nI (by omega)] at k
        have key : ∀ x, x ≤ A 7 0 → ∀ h1 l7 l8, MJ h1 (-4) k1 (-4) u2 T m A U K L → Off h h1 97 13 → WP sc 117 47 [some (.ref 97), some (.int (nI i)), some (.int (nI j)), some (.int (nI u)), some (.int (wI ((hlp A i j x).map Prod.fst))), some (.int (wI ((hlp A i j x).map Prod.snd))), some (.int (nI x)), l7, l8] [] h1 Q := by
          refine loop_up ?_ ?_
          · intro h1 l7 l8 hM1 ho1
            obtain ⟨sp, td, nw, sd, hgo, his, hI, at1, an, as1, lt1, ln, ls1, ⟨q1, q2, q3⟩, hR, b97, b102, b103⟩ := hM1.facts
            dsimp only at q1
            have hge : nI (A 7 0) ≤ nI (A 7 0) := nI_le (Nat.le_refl _) (by omega)
            have hv : wI ((hlp A i j (A 7 0)).map Prod.snd) = nI (hlV (hlp A i j (A 7 0))) ∧ wI ((hlp A i j (A 7 0)).map Prod.fst) = nI (hlB (hlp A i j (A 7 0))) := by
              obtain ⟨x, hx⟩ : ∃ x, A 7 0 = x + 1 := ⟨A 7 0 - 1, by omega⟩
              rw [hx]
              unfold hlp
              split
              · exact ⟨rfl, rfl⟩
              · split <;> exact ⟨rfl, rfl⟩
            rw [s117_47]
            by_cases hu : u = 0
            · rw [if_pos hu] at k
              subst hu
              simp (disch := first | assumption | exact wn2_i | exact wn2_r | exact wn2_n | exact Nat.le_of_ble_eq_true rfl | omega | (refine nI_z ?_ ?_ <;> omega)) only [s117_49, s117_50, s117_53, s117_54, s117_55, s117_149, s117_150, s117_153, s117_155, s117_158, s117_160, wX_some, Option.toList_some, Option.toList_none, List.cons_append, List.nil_append, List.map_cons, List.map_nil, List.sum_cons, List.sum_nil, Value.category, wn2_i, wn2_r, wn2_n, Option.isSome_some, List.getElem?_cons_zero, List.getElem?_cons_succ, nI_add, nI_rem2, hgo, at1, lt1, iat_n, q1, hge, if_true, nI_eq0]
              rw [hv.2]
              exact k h1 ⟨k1, u2, hM1⟩ ho1
            · rw [if_neg hu] at k
              have hu0 : (nI u = 0) ↔ False := ⟨fun e => hu ((nI_eq0 (by omega)).mp e), False.elim⟩
              simp (disch := first | assumption | exact wn2_i | exact wn2_r | exact wn2_n | exact Nat.le_of_ble_eq_true rfl | omega | (refine nI_z ?_ ?_ <;> omega)) only [s117_49, s117_50, s117_53, s117_54, s117_55, s117_149, s117_150, s117_153, s117_155, s117_158, s117_160, wX_some, Option.toList_some, Option.toList_none, List.cons_append, List.nil_append, List.map_cons, List.map_nil, List.sum_cons, List.sum_nil, Value.category, wn2_i, wn2_r, wn2_n, Option.isSome_some, List.getElem?_cons_zero, List.getElem?_cons_succ, nI_add, nI_rem2, hgo, at1, lt1, iat_n, q1, hge, if_true, hu0, if_false]
              rw [hv.1]
              exact k h1 ⟨k1, u2, hM1⟩ ho1
          · intro x hx ih h1 l7 l8 hM1 ho1
            obtain ⟨sp, td, nw, sd, hgo, his, hI, at1, an, as1, lt1, ln, ls1, ⟨q1, q2, q3⟩, hR, b97, b102, b103⟩ := hM1.facts
            dsimp only at q1
            have hge : ¬ nI (A 7 0) ≤ nI x := nI_ge hx (by omega)
            rw [s117_47]
            simp (disch := first | assumption | exact wn2_i | exact wn2_r | exact wn2_n | exact Nat.le_of_ble_eq_true rfl | omega | (refine nI_z ?_ ?_ <;> omega)) only [s117_49, s117_50, s117_53, s117_54, s117_55, s117_58, s117_59, wX_some, Option.toList_some, Option.toList_none, List.cons_append, List.nil_append, List.map_cons, List.map_nil, List.sum_cons, List.sum_nil, Value.category, wn2_i, wn2_r, wn2_n, Option.isSome_some, List.getElem?_cons_zero, List.getElem?_cons_succ, nI_add, nI_rem2, hgo, at1, lt1, iat_n, q1, hge, if_false]
            refine m_aside hM1 hAG0 (fun h2 hM2 hS2 ho2 => ?_)
            obtain ⟨m', un, km, nm, sp, td, sd, hgo, hI, at1, as1, lt1, ls1, t0, t1, hk, hR, pt, hlen⟩ := hS2.facts
            have v0 : sd.getD x 0 = nI (A 0 x) := (hR.1 x hx).1
            have b0 := (G5 x hx).1
            have put : ∀ v, v = cap (A 0 x + i) → MJ (h2.set 103 (ms_ia (sd.set x (nI v)))) (-4) k1 (-4) u2 T m A U K L ∧ MS (h2.set 103 (ms_ia (sd.set x (nI v)))) (-4) k1 (-4) u2 (up2 A 0 x (cap (A 0 x + i))) ∧ Off h (h2.set 103 (ms_ia (sd.set x (nI v)))) 97 13 := by
              intro v hv
              subst hv
              have hS3 : MS (h2.set 103 (ms_ia (sd.set x (nI (cap (A 0 x + i)))))) (-4) k1 (-4) u2 (up2 A 0 x (cap (A 0 x + i))) := pt _ _ _ (RA.w hR ls1 G2 G4 (show x < 6 by omega)) rfl rfl rfl
              have ho3 : Off h2 (h2.set 103 (ms_ia (sd.set x (nI (cap (A 0 x + i)))))) 103 1 := Off.rf.st (by omega) (by omega)
              exact ⟨hM2.side hS3 ho3, hS3, (ho1.tr ho2).tr (ho3.wide (by omega) (by omega))⟩
            have rest : ∀ h3 l7 l8, MJ h3 (-4) k1 (-4) u2 T m A U K L → MS h3 (-4) k1 (-4) u2 (up2 A 0 x (cap (A 0 x + i))) → Off h h3 97 13 → wn_ok l7 = true → WP sc 117 100 [some (.ref 97), some (.int (nI i)), some (.int (nI j)), some (.int (nI u)), some (.int (wI ((hlp A i j x).map Prod.fst))), some (.int (wI ((hlp A i j x).map Prod.snd))), some (.int (nI x)), l7, l8] [] h3 Q := by
              intro h3 l7 l8 hM3 hS3 ho3 w7
              obtain ⟨_, _, _, _, _, _, hI, -⟩ := hM3.facts
              have hAG2 : AG (up2 A 0 x (cap (A 0 x + i))) := upA_ag0 hAG0 cap_le
              simp (disch := first | assumption | exact wn2_i | exact wn2_r | exact wn2_n | exact Nat.le_of_ble_eq_true rfl | omega | (refine nI_z ?_ ?_ <;> omega)) only [s117_100, s117_101, s117_102, wX_some, Option.toList_some, Option.toList_none, List.cons_append, List.nil_append, List.map_cons, List.map_nil, List.sum_cons, List.sum_nil, Value.category, wn2_i, wn2_r, wn2_n, Option.isSome_some, List.getElem?_cons_zero, List.getElem?_cons_succ, nI_add, nI_rem2]
              refine m_qs hM3 hS3 hAG2 (by omega) (show A 4 0 + j ≤ 200000 by omega) (fun h4 hM4 hS4 ho4 => ?_)
              obtain ⟨_, _, _, _, _, _, hI, -⟩ := hM4.facts
              have hGl := lpA_ag hAG2 j
              have hs7 : lpA (up2 A 0 x (cap (A 0 x + i))) j 7 = A 7 := (lpA_s j).1
              have hpw := fun Q l1 l2 => least_wp (sc := sc) (Q := Q) (l1 := l1) (l2 := l2) hS4 (by rw [hs7]; omega) (by rw [hs7]; omega) (fun s hs => by have := (hGl.2.2.1 s hs).1; omega)
              have e8 : mnW (lpA (up2 A 0 x (cap (A 0 x + i))) j) (lpA (up2 A 0 x (cap (A 0 x + i))) j 7 0 - 1) = hlU A i j x := by rw [hs7]; rfl
              rw [e8] at hpw
              have hu9 := hlU_le (g := i) (n := j) (s := x) hAG0
              have e9 : hlp A i j (x + 1) = match hlp A i j x with
                | none => some (x, hlU A i j x)
                | some (b, u) => if u < hlU A i j x then some (x, hlU A i j x) else some (b, u) := rfl
              rw [e9] at ih
              have ho5 := ho3.tr ho4
              cases hp : hlp A i j x with
              | none =>
                rw [hp] at ih
                have n1 : ¬ nI (hlU A i j x) ≤ -4 := by
                  rw [Int32.le_iff_toInt_le, nI_toInt (by omega)]
                  have : (-4 : Int32).toInt = -4 := rfl
                  omega
                simp (disch := first | assumption | exact wn2_i | exact wn2_r | exact wn2_n | exact Nat.le_of_ble_eq_true rfl | omega | (refine nI_z ?_ ?_ <;> omega)) only [s117_105, s117_106, s117_109, s117_111, s117_113, s117_115, s117_118, s117_120, s117_123, s117_125, s117_127, s117_129, s117_131, s117_134, s117_136, s117_139, s117_141, s117_143, s117_146, wX_some, Option.toList_some, Option.toList_none, List.cons_append, List.nil_append, List.map_cons, List.map_nil, List.sum_cons, List.sum_nil, Value.category, wn2_i, wn2_r, wn2_n, Option.isSome_some, List.getElem?_cons_zero, List.getElem?_cons_succ, nI_add, nI_rem2, Option.map_none, wI, hpw, n1, if_false]
                exact ih h4 _ _ hM4 ho5
              | some bu =>
                obtain ⟨b, v⟩ := bu
                rw [hp] at ih
                have hb9 := hlp_le hAG0 _ _ _ hp
                dsimp only at ih
                by_cases hlt : v < hlU A i j x
                · rw [if_pos hlt] at ih
                  have n1 : ¬ nI (hlU A i j x) ≤ nI v := nI_ge hlt (by omega)
                  simp (disch := first | assumption | exact wn2_i | exact wn2_r | exact wn2_n | exact Nat.le_of_ble_eq_true rfl | omega | (refine nI_z ?_ ?_ <;> omega)) only [s117_105, s117_106, s117_109, s117_111, s117_113, s117_115, s117_118, s117_120, s117_123, s117_125, s117_127, s117_129, s117_131, s117_134, s117_136, s117_139, s117_141, s117_143, s117_146, wX_some, Option.toList_some, Option.toList_none, List.cons_append, List.nil_append, List.map_cons, List.map_nil, List.sum_cons, List.sum_nil, Value.category, wn2_i, wn2_r, wn2_n, Option.isSome_some, List.getElem?_cons_zero, List.getElem?_cons_succ, nI_add, nI_rem2, Option.map_some, wI, hpw, n1, if_false]
                  exact ih h4 _ _ hM4 ho5
                · rw [if_neg hlt] at ih
                  have n1 : nI (hlU A i j x) ≤ nI v := nI_le (by omega) (by omega)
                  simp (disch := first | assumption | exact wn2_i | exact wn2_r | exact wn2_n | exact Nat.le_of_ble_eq_true rfl | omega | (refine nI_z ?_ ?_ <;> omega)) only [s117_105, s117_106, s117_109, s117_111, s117_113, s117_115, s117_118, s117_120, s117_123, s117_125, s117_127, s117_129, s117_131, s117_134, s117_136, s117_139, s117_141, s117_143, s117_146, wX_some, Option.toList_some, Option.toList_none, List.cons_append, List.nil_append, List.map_cons, List.map_nil, List.sum_cons, List.sum_nil, Value.category, wn2_i, wn2_r, wn2_n, Option.isSome_some, List.getElem?_cons_zero, List.getElem?_cons_succ, nI_add, nI_rem2, Option.map_some, wI, hpw, n1, if_true]
                  exact ih h4 _ _ hM4 ho5
            by_cases hc : A 0 x + i ≤ 999
            · have n1 : nI (A 0 x + i) ≤ nI 999 := nI_le hc (by omega)
              obtain ⟨y1, y2, y3⟩ := put (A 0 x + i) (by unfold cap; rw [if_neg (by omega)])
              simp (disch := first | assumption | exact wn2_i | exact wn2_r | exact wn2_n | exact Nat.le_of_ble_eq_true rfl | omega | (refine nI_z ?_ ?_ <;> omega)) only [s117_62, s117_63, s117_66, s117_67, s117_69, s117_70, s117_71, s117_72, s117_73, s117_75, s117_76, s117_79, s117_80, s117_82, s117_83, s117_85, s117_88, s117_91, s117_94, s117_97, s117_99, wX_some, Option.toList_some, Option.toList_none, List.cons_append, List.nil_append, List.map_cons, List.map_nil, List.sum_cons, List.sum_nil, Value.category, wn2_i, wn2_r, wn2_n, Option.isSome_some, List.getElem?_cons_zero, List.getElem?_cons_succ, nI_add, nI_rem2, hgo, as1, ls1, iat_n, Nat.zero_add, v0, n1, if_true]
              exact rest _ _ _ y1 y2 y3 rfl
            · have n1 : ¬ nI (A 0 x + i) ≤ nI 999 := nI_ge (by omega) (by omega)
              obtain ⟨y1, y2, y3⟩ := put 999 (by unfold cap; rw [if_pos (by omega)])
              simp (disch := first | assumption | exact wn2_i | exact wn2_r | exact wn2_n | exact Nat.le_of_ble_eq_true rfl | omega | (refine nI_z ?_ ?_ <;> omega)) only [s117_62, s117_63, s117_66, s117_67, s117_69, s117_70, s117_71, s117_72, s117_73, s117_75, s117_76, s117_79, s117_80, s117_82, s117_83, s117_85, s117_88, s117_91, s117_94, s117_97, s117_99, wX_some, Option.toList_some, Option.toList_none, List.cons_append, List.nil_append, List.map_cons, List.map_nil, List.sum_cons, List.sum_nil, Value.category, wn2_i, wn2_r, wn2_n, Option.isSome_some, List.getElem?_cons_zero, List.getElem?_cons_succ, nI_add, nI_rem2, hgo, as1, ls1, iat_n, Nat.zero_add, v0, n1, if_false]
              exact rest _ _ _ y1 y2 y3 rfl
        simp (disch := first | assumption | exact wn2_i | exact wn2_r | exact wn2_n | exact Nat.le_of_ble_eq_true rfl | omega | (refine nI_z ?_ ?_ <;> omega)) only [s117_0, s117_1, s117_2, s117_3, s117_6, s117_9, s117_12, s117_13, s117_14, s117_15, s117_18, s117_21, s117_24, s117_25, s117_26, s117_27, s117_28, s117_31, s117_34, s117_35, s117_36, s117_38, s117_40, s117_42, s117_44, s117_45, wX_some, Option.toList_some, Option.toList_none, List.cons_append, List.nil_append, List.map_cons, List.map_nil, List.sum_cons, List.sum_nil, Value.category, wn2_i, wn2_r, wn2_n, Option.isSome_some, List.getElem?_cons_zero, List.getElem?_cons_succ, nI_add, nI_rem2, hr, hr2, hr3, in_rng, if_false, nI_eq0, if_true, Nat.reduceEqDiff]
        exact key 0 (by omega) h _ _ hM Off.rf
theorem m_decade (hM : MIS h S) (hg : GIS S) {z n w : Int32} {l4 l5 l6 : Option Value} (k : ∀ h1, MIS h1 (op_decade z n w S).2 → Off h h1 97 13 → Q (some (.int (op_decade z n w S).1)) h1) : WP sc 125 0 [some (.ref 97), some (.int z), some (.int n), some (.int w), l4, l5, l6] [] h Q := by
  obtain ⟨⟨T, m⟩, A, U, K, L⟩ := S
  have hM0 := hM
  obtain ⟨k1, u2, hM⟩ := hM
  have hg : GI m A U K L := hg
  have hM : MJ h (-4) k1 (-4) u2 T m A U K L := hM
  obtain ⟨-, hAG, hq, -⟩ := hg
  have hAG0 := hAG
  obtain ⟨⟨G1, G2⟩, ⟨G3, G4⟩, G5, G6, G7⟩ := hAG
  obtain ⟨_, _, _, _, _, _, hI, -⟩ := hM.facts
  unfold op_decade at k
  dsimp only at k
  cases hr : rng 0 9999 z with
  | false =>
    rw [hr, Bool.false_and, Bool.false_and, if_neg (by decide)] at k
    simp (disch := first | assumption | exact wn2_i | exact wn2_r | exact wn2_n | exact Nat.le_of_ble_eq_true rfl | omega | (refine nI_z ?_ ?_ <;> omega)) only [s125_0, s125_1, s125_2, s125_3, s125_6, s125_9, s125_12, s125_13, s125_14, s125_15, s125_18, s125_21, s125_24, s125_25, s125_26, s125_27, s125_30, s125_33, s125_36, s125_37, wX_some, Option.toList_some, Option.toList_none, List.cons_append, List.nil_append, List.map_cons, List.map_nil, List.sum_cons, List.sum_nil, Value.category, wn2_i, wn2_r, wn2_n, Option.isSome_some, List.getElem?_cons_zero, List.getElem?_cons_succ, nI_add, nI_rem2, in_rng, hr, Bool.false_eq_true, if_false, nI_eq0, if_true]
    exact k h hM0 Off.rf
  | true =>
    cases hr2 : rng 1 60 n with
    | false =>
      rw [hr2, Bool.and_false, Bool.false_and, if_neg (by decide)] at k
      simp (disch := first | assumption | exact wn2_i | exact wn2_r | exact wn2_n | exact Nat.le_of_ble_eq_true rfl | omega | (refine nI_z ?_ ?_ <;> omega)) only [s125_0, s125_1, s125_2, s125_3, s125_6, s125_9, s125_12, s125_13, s125_14, s125_15, s125_18, s125_21, s125_24, s125_25, s125_26, s125_27, s125_30, s125_33, s125_36, s125_37, wX_some, Option.toList_some, Option.toList_none, List.cons_append, List.nil_append, List.map_cons, List.map_nil, List.sum_cons, List.sum_nil, Value.category, wn2_i, wn2_r, wn2_n, Option.isSome_some, List.getElem?_cons_zero, List.getElem?_cons_succ, nI_add, nI_rem2, hr, hr2, in_rng, Bool.false_eq_true, if_false, nI_eq0, if_true, Nat.reduceEqDiff]
      exact k h hM0 Off.rf
    | true =>
      cases hr3 : rng 0 2 w with
      | false =>
        rw [hr3, Bool.and_false, if_neg (by decide)] at k
        simp (disch := first | assumption | exact wn2_i | exact wn2_r | exact wn2_n | exact Nat.le_of_ble_eq_true rfl | omega | (refine nI_z ?_ ?_ <;> omega)) only [s125_0, s125_1, s125_2, s125_3, s125_6, s125_9, s125_12, s125_13, s125_14, s125_15, s125_18, s125_21, s125_24, s125_25, s125_26, s125_27, s125_30, s125_33, s125_36, s125_37, wX_some, Option.toList_some, Option.toList_none, List.cons_append, List.nil_append, List.map_cons, List.map_nil, List.sum_cons, List.sum_nil, Value.category, wn2_i, wn2_r, wn2_n, Option.isSome_some, List.getElem?_cons_zero, List.getElem?_cons_succ, nI_add, nI_rem2, hr, hr2, hr3, in_rng, Bool.false_eq_true, if_false, nI_eq0, if_true, Nat.reduceEqDiff]
        exact k h hM0 Off.rf
      | true =>
        rw [hr, hr2, hr3, Bool.and_true, Bool.and_true, if_pos rfl] at k
        obtain ⟨i, i1, i2, rfl⟩ := rng_nI (by omega) hr
        obtain ⟨j, j1, j2, rfl⟩ := rng_nI (by omega) hr2
        obtain ⟨u, u1, u2', rfl⟩ := rng_nI (by omega) hr3
        rw [nat_nI (by omega), nat_nI (by omega), nat_nI (by omega)] at k
        have key : ∀ x, x ≤ j → ∀ h1 l5 l6, MJ h1 (-4) k1 (-4) u2 T m A U K L → MS h1 (-4) k1 (-4) u2 (dcd A i x) → Off h h1 97 13 → WP sc 125 45 [some (.ref 97), some (.int (nI i)), some (.int (nI j)), some (.int (nI u)), some (.int (nI x)), l5, l6] [] h1 Q := by
          refine loop_up ?_ ?_
          · intro h1 l5 l6 hM1 hS1 ho1
            have hge : nI j ≤ nI j := nI_le (Nat.le_refl _) (by omega)
            obtain ⟨d1, d2, d3⟩ := dcd_ag (z := i) hAG0 j
            obtain ⟨f1, f2, f3, f4⟩ := dcd_fr (A := A) (z := i) j
            have hwo := fun Q l1 l2 => wealthOfAll_wp (sc := sc) (Q := Q) (l1 := l1) (l2 := l2) hS1 d1.1.2
            rw [d2, smW_congr (f1 0 (by omega))] at hwo
            obtain ⟨sp', td', nw, sd', hgo', his', hI', at1', an, as1', lt1', ln, ls1', hK', hR', b97, b102, b103⟩ := hM1.facts
            obtain ⟨m', un, km, nm, sp, td, sd, hgo, hI, at1, as1, lt1, ls1, t0, t1, hk, hR, pt, hlen⟩ := hS1.facts
            have vc : sd.getD 25 0 = chI (dcd (up2 A 4 1 0) i j 4 2) := by rw [← f3]; exact hR.2.2.2.1
            have vf : sd.getD 26 0 = nI (dcd (up2 A 4 1 0) i j 4 1 + A 4 1) := by rw [← f4]; exact hR.2.2.2.2
            have vn : nw.getD 26 0 = nI (A 4 1) := hR'.2.2.2.2
            have es : nI (dcd (up2 A 4 1 0) i j 4 1 + A 4 1) - nI (A 4 1) = nI (dcd (up2 A 4 1 0) i j 4 1) := by
              rw [nI_sub (by omega)]
              congr 1
              omega
            have kk := k h1 ⟨k1, u2, hM1⟩ ho1
            rw [s125_45]
            rcases (by omega : u = 0 ∨ u = 1 ∨ u = 2) with hu | hu | hu
            · subst hu
              simp (disch := first | assumption | exact wn2_i | exact wn2_r | exact wn2_n | exact Nat.le_of_ble_eq_true rfl | omega | (refine nI_z ?_ ?_ <;> omega)) only [s125_47, s125_48, s125_96, s125_97, s125_100, s125_101, s125_104, s125_107, s125_108, s125_109, s125_112, s125_113, s125_116, s125_118, s125_119, s125_122, s125_123, s125_126, s125_128, s125_129, s125_130, s125_133, s125_135, s125_136, s125_137, wX_some, Option.toList_some, Option.toList_none, List.cons_append, List.nil_append, List.map_cons, List.map_nil, List.sum_cons, List.sum_nil, Value.category, wn2_i, wn2_r, wn2_n, Option.isSome_some, List.getElem?_cons_zero, List.getElem?_cons_succ, nI_add, nI_rem2, hge, if_true, nI_eq0, hwo]
              simpa using kk
            · subst hu
              simp (disch := first | assumption | exact wn2_i | exact wn2_r | exact wn2_n | exact Nat.le_of_ble_eq_true rfl | omega | (refine nI_z ?_ ?_ <;> omega)) only [s125_47, s125_48, s125_96, s125_97, s125_100, s125_101, s125_104, s125_107, s125_108, s125_109, s125_112, s125_113, s125_116, s125_118, s125_119, s125_122, s125_123, s125_126, s125_128, s125_129, s125_130, s125_133, s125_135, s125_136, s125_137, wX_some, Option.toList_some, Option.toList_none, List.cons_append, List.nil_append, List.map_cons, List.map_nil, List.sum_cons, List.sum_nil, Value.category, wn2_i, wn2_r, wn2_n, Option.isSome_some, List.getElem?_cons_zero, List.getElem?_cons_succ, nI_add, nI_rem2, hge, if_true, nI_eq0, hgo, as1, ls1, iat_n, vc, Nat.reduceEqDiff, if_false]
              simpa using kk
            · subst hu
              simp (disch := first | assumption | exact wn2_i | exact wn2_r | exact wn2_n | exact Nat.le_of_ble_eq_true rfl | omega | (refine nI_z ?_ ?_ <;> omega)) only [s125_47, s125_48, s125_96, s125_97, s125_100, s125_101, s125_104, s125_107, s125_108, s125_109, s125_112, s125_113, s125_116, s125_118, s125_119, s125_122, s125_123, s125_126, s125_128, s125_129, s125_130, s125_133, s125_135, s125_136, s125_137, wX_some, Option.toList_some, Option.toList_none, List.cons_append, List.nil_append, List.map_cons, List.map_nil, List.sum_cons, List.sum_nil, Value.category, wn2_i, wn2_r, wn2_n, Option.isSome_some, List.getElem?_cons_zero, List.getElem?_cons_succ, nI_add, nI_rem2, hge, if_true, nI_eq0, nI_eq, hgo, as1, ls1, an, ln, iat_n, vf, vn, es, Nat.reduceEqDiff, if_false]
              simpa using kk
          · intro x hx ih h1 l5 l6 hM1 hS1 ho1
            have hge : ¬ nI j ≤ nI x := nI_ge hx (by omega)
            have hdl : drw i x ≤ 100000 := by unfold drw; omega
            obtain ⟨d1, d2, d3⟩ := dcd_ag (z := i) hAG0 x
            obtain ⟨_, _, _, _, _, _, hI, -⟩ := hM1.facts
            have e1 : (nI i).toInt64 = lN i := nI_l (by omega)
            have e2 : (nI x).toInt64 = lN x := nI_l (by omega)
            have hxx : (7919 * i + 6151 * x + 1) * (7919 * i + 6151 * x + 1) ≤ 80000000 * 80000000 := Nat.mul_le_mul (by omega) (by omega)
            have n1 : ¬ lN 65521 = 0 := by decide +kernel
            have n2 : ¬ nI 2 = 0 := nI_z (by omega) (by omega)
            obtain ⟨X, hX⟩ : ∃ X, X = 7919 * i + 6151 * x + 1 := ⟨_, rfl⟩
            have eX : lN (7919 * i + 6151 * x + 1) = lN X := by rw [hX]
            rw [← hX] at hxx
            have hr9 : lN (X * X) - lN (X * X) / lN 65521 * lN 65521 = lN (X * X % 65521) := pk_lRem (by omega) (by omega) (by omega)
            have hdv : nI (X * X % 65521) / nI 2 = nI (drw i x) := by
              rw [nI_div (by omega) (by omega) (by omega), hX]
              rfl
            rw [s125_45]
            simp (disch := first | assumption | exact wn2_i | exact wn2_r | exact wn2_n | exact Nat.le_of_ble_eq_true rfl | omega | (refine nI_z ?_ ?_ <;> omega)) only [s125_47, s125_48, s125_51, s125_54, s125_55, s125_56, s125_57, s125_60, s125_62, s125_63, s125_64, s125_65, s125_66, s125_67, wX_some, Option.toList_some, Option.toList_none, List.cons_append, List.nil_append, List.map_cons, List.map_nil, List.sum_cons, List.sum_nil, Value.category, wn2_i, wn2_r, wn2_n, Option.isSome_some, List.getElem?_cons_zero, List.getElem?_cons_succ, nI_add, nI_rem2, hge, if_false, e1, e2, lN_mul, lN_add, eX]
            have hi5 : WP sc 125 69 [some (.ref 97), some (.int (nI i)), some (.int (nI j)), some (.int (nI u)), some (.int (nI x)), some (.long (lN X)), none] [] h1 Q := by
              have hmm : lN X * lN X = lN (X * X) := lN_mul X X
              simp (disch := first | assumption | exact wn2_i | exact wn2_r | exact wn2_n | exact Nat.le_of_ble_eq_true rfl | omega | (refine nI_z ?_ ?_ <;> omega)) only [s125_69, s125_70, s125_72, s125_74, s125_75, s125_78, s125_79, s125_80, s125_81, s125_82, wX_some, Option.toList_some, Option.toList_none, List.cons_append, List.nil_append, List.map_cons, List.map_nil, List.sum_cons, List.sum_nil, Value.category, wn2_i, wn2_r, wn2_n, Option.isSome_some, List.getElem?_cons_zero, List.getElem?_cons_succ, nI_add, nI_rem2, hmm, hr9, n1, not_false_eq_true, lN_i, hdv]
              refine goDrawn_wp hS1 d1 hdl (fun h2 hS2 ho2 => ?_)
              have hM2 := hM1.side hS2 ho2
              obtain ⟨_, _, _, _, _, _, hI, -⟩ := hM2.facts
              simp (disch := first | assumption | exact wn2_i | exact wn2_r | exact wn2_n | exact Nat.le_of_ble_eq_true rfl | omega | (refine nI_z ?_ ?_ <;> omega)) only [s125_85, s125_86, s125_87, wX_some, Option.toList_some, Option.toList_none, List.cons_append, List.nil_append, List.map_cons, List.map_nil, List.sum_cons, List.sum_nil, Value.category, wn2_i, wn2_r, wn2_n, Option.isSome_some, List.getElem?_cons_zero, List.getElem?_cons_succ, nI_add, nI_rem2]
              refine m_nq (lost := false) hM2 hS2 (sufA_ag d1) (by rw [sufA_s.2, d3]; omega) (fun h3 hM3 hS3 ho3 => ?_)
              simp (disch := first | assumption | exact wn2_i | exact wn2_r | exact wn2_n | exact Nat.le_of_ble_eq_true rfl | omega | (refine nI_z ?_ ?_ <;> omega)) only [s125_90, s125_93, wX_some, Option.toList_some, Option.toList_none, List.cons_append, List.nil_append, List.map_cons, List.map_nil, List.sum_cons, List.sum_nil, Value.category, wn2_i, wn2_r, wn2_n, Option.isSome_some, List.getElem?_cons_zero, List.getElem?_cons_succ, nI_add, nI_rem2]
              exact ih h3 _ _ hM3 hS3 ((ho1.tr (ho2.wide (by omega) (by omega))).tr ho3)
            exact hi5
        simp (disch := first | assumption | exact wn2_i | exact wn2_r | exact wn2_n | exact Nat.le_of_ble_eq_true rfl | omega | (refine nI_z ?_ ?_ <;> omega)) only [s125_0, s125_1, s125_2, s125_3, s125_6, s125_9, s125_12, s125_13, s125_14, s125_15, s125_18, s125_21, s125_24, s125_25, s125_26, s125_27, s125_30, s125_33, s125_36, s125_37, s125_38, s125_39, wX_some, Option.toList_some, Option.toList_none, List.cons_append, List.nil_append, List.map_cons, List.map_nil, List.sum_cons, List.sum_nil, Value.category, wn2_i, wn2_r, wn2_n, Option.isSome_some, List.getElem?_cons_zero, List.getElem?_cons_succ, nI_add, nI_rem2, hr, hr2, hr3, in_rng, if_false, nI_eq0, if_true, Nat.reduceEqDiff]
        refine m_aside hM hAG0 (fun h1 hM1 hS1 ho1 => ?_)
        simp (disch := first | assumption | exact wn2_i | exact wn2_r | exact wn2_n | exact Nat.le_of_ble_eq_true rfl | omega | (refine nI_z ?_ ?_ <;> omega)) only [s125_42, s125_43, wX_some, Option.toList_some, Option.toList_none, List.cons_append, List.nil_append, List.map_cons, List.map_nil, List.sum_cons, List.sum_nil, Value.category, wn2_i, wn2_r, wn2_n, Option.isSome_some, List.getElem?_cons_zero, List.getElem?_cons_succ, nI_add, nI_rem2]
        exact key 0 (by omega) h1 _ _ hM1 hS1 ho1
end M69

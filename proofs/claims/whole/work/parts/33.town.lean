-- Town: gifts, draws, laying, becoming
section TOWN4
variable {sc : List Int32} {h : List ms_C} {Q : Option Value → List ms_C → Prop} {a : Nat} {A : AS}
theorem hand_wp (hT : TA h a A) {s t g : Nat} (hs : s < A 7 0) (ht : t < A 7 0) (hne : s ≠ t) (h6 : A 7 0 ≤ 6) (hb : ∀ s, s < A 7 0 → A 0 s ≤ 2000) (hg0 : g ≤ A 0 s) (k : ∀ h1, TA h1 a (giveA A s t g) → Off h h1 a 7 → Q none h1) : WP sc 37 0 [some (.ref a), some (.int (nI s)), some (.int (nI t)), some (.int (nI g))] [] h Q := by
  obtain ⟨kd, we, us, di, st, wo, hg, hi, hI, a1, a2, a3, a4, a5, a6, g1, g2, g3, g4, g5, g6, k1, k2, k3, k4, k5, k6, hlen⟩ := hT.facts
  have v2 := k2.2 s hs
  have bs := hb s hs
  have bt := hb t ht
  simp (disch := first | assumption | exact wn2_i | exact wn2_r | exact wn2_n | exact Nat.le_of_ble_eq_true rfl | omega | (refine nI_z ?_ ?_ <;> omega)) only [s37_0, s37_1, s37_4, s37_5, s37_6, s37_7, s37_8, s37_9, wX_some, Option.toList_some, Option.toList_none, List.cons_append, List.nil_append, List.map_cons, List.map_nil, List.sum_cons, List.sum_nil, Value.category, wn2_i, wn2_r, wn2_n, Option.isSome_some, List.getElem?_cons_zero, List.getElem?_cons_succ, nI_add, nI_rem2, hg, a2, g2, iat_n, v2, nI_sub]
  have hT2 := TA.arr (d := 1) hT (by omega) (l := we.set s (nI (A 0 s - g))) (f := up1 (A 0) s (A 0 s - g)) (k2.put (by omega))
  have hT2 : TA (h.set (a + 2) (ms_ia (we.set s (nI (A 0 s - g))))) a (up2 A 0 s (A 0 s - g)) := hT2
  have ho2 : Off h (h.set (a + 2) (ms_ia (we.set s (nI (A 0 s - g))))) a 7 := Off.rf.st (by omega) (by omega)
  generalize h.set (a + 2) (ms_ia (we.set s (nI (A 0 s - g)))) = h2 at hT2 ho2 ⊢
  obtain ⟨kd, we, us, di, st, wo, hg, hi, hI, a1, a2, a3, a4, a5, a6, g1, g2, g3, g4, g5, g6, k1, k2, k3, k4, k5, k6, hlen⟩ := hT2.facts
  have v2 := k2.2 t ht
  have e2 : up2 A 0 s (A 0 s - g) 0 t = A 0 t := up1_ne (fun e => hne e.symm)
  rw [e2] at v2
  simp (disch := first | assumption | exact wn2_i | exact wn2_r | exact wn2_n | exact Nat.le_of_ble_eq_true rfl | omega | (refine nI_z ?_ ?_ <;> omega)) only [s37_10, s37_11, s37_14, s37_15, s37_16, s37_17, s37_18, s37_19, s37_20, wX_some, Option.toList_some, Option.toList_none, List.cons_append, List.nil_append, List.map_cons, List.map_nil, List.sum_cons, List.sum_nil, Value.category, wn2_i, wn2_r, wn2_n, Option.isSome_some, List.getElem?_cons_zero, List.getElem?_cons_succ, nI_add, nI_rem2, hg, a2, g2, iat_n, v2]
  have hT3 := TA.arr (d := 1) hT2 (by omega) (l := we.set t (nI (A 0 t + g))) (f := up1 (up2 A 0 s (A 0 s - g) 0) t (A 0 t + g)) (k2.put (by omega))
  exact k _ hT3 (ho2.st (by omega) (by omega))
theorem suffer_wp (hT : TA h a A) (hG : AG A) {d : Nat} (hd : d ≤ 100000) {l2 l3 : Option Value} (k : ∀ h1, TA h1 a (sufA A d) → Off h h1 a 7 → Q none h1) : WP sc 40 0 [some (.ref a), some (.int (nI d)), l2, l3] [] h Q := by
  obtain ⟨⟨G1, G2⟩, ⟨G3, G4⟩, G5, G6, G7⟩ := hG
  obtain ⟨kd, we, us, di, st, wo, hg, hi, hI, a1, a2, a3, a4, a5, a6, g1, g2, g3, g4, g5, g6, k1, k2, k3, k4, k5, k6, hlen⟩ := hT.facts
  have n1 : ¬ nI (A 7 0) ≤ 0 := nI_nle (by omega) (by omega)
  have n2 : 0 ≤ nI d := nI_pos' (by omega)
  have hs : d % A 7 0 < A 7 0 := Nat.mod_lt _ (by omega)
  have ht : d / 64 % A 7 0 < A 7 0 := Nat.mod_lt _ (by omega)
  have h4 : d / 8 % 4 < 4 := Nat.mod_lt _ (by omega)
  have hb : ∀ s, s < A 7 0 → A 0 s ≤ 2000 := fun s hs => by have := (G5 s hs).1; omega
  unfold sufA at k
  rcases (by omega : d / 8 % 4 = 0 ∨ d / 8 % 4 = 1 ∨ d / 8 % 4 = 2 ∨ d / 8 % 4 = 3) with e | e | e | e
  · rw [e, if_pos rfl] at k
    simp (disch := first | assumption | exact wn2_i | exact wn2_r | exact wn2_n | exact Nat.le_of_ble_eq_true rfl | omega | (refine nI_z ?_ ?_ <;> omega)) only [s40_0, s40_1, s40_4, s40_7, s40_8, s40_11, s40_12, s40_13, s40_14, s40_17, s40_18, s40_19, s40_20, s40_22, s40_23, s40_24, s40_25, s40_27, s40_28, s40_29, s40_30, s40_56, s40_57, s40_60, s40_61, s40_62, s40_64, s40_65, s40_66, s40_69, s40_70, s40_71, s40_72, s40_73, s40_76, s40_77, s40_78, s40_81, s40_84, s40_85, s40_86, s40_87, s40_88, s40_91, s40_92, s40_93, s40_96, s40_99, s40_100, s40_103, s40_104, s40_105, s40_106, s40_109, wX_some, Option.toList_some, Option.toList_none, List.cons_append, List.nil_append, List.map_cons, List.map_nil, List.sum_cons, List.sum_nil, Value.category, wn2_i, wn2_r, wn2_n, Option.isSome_some, List.getElem?_cons_zero, List.getElem?_cons_succ, nI_add, nI_rem2, hg, n1, n2, if_false, if_true, nI_div, e, a4, g4, iat_n]
    exact k _ (TA.arr (d := 3) hT (by omega) (k4.put (by omega))) (Off.rf.st (by omega) (by omega))
  · rw [e, if_neg (by omega), if_pos rfl] at k
    by_cases hc : d % A 7 0 ≠ d / 64 % A 7 0 ∧ 1 ≤ A 0 (d % A 7 0) ∧ A 0 (d / 64 % A 7 0) < 960
    · rw [if_pos hc] at k
      have hcw := canHand_wp (sc := sc) (Q := fun r h1 => WP sc 40 81 [some (.ref a), some (.int (nI d)), some (.int (nI (d % A 7 0))), some (.int (nI (d / 64)))] (r.toList ++ []) h1 Q) hT hs ht (by omega : 1 ≤ 40) G2 hb
      rw [if_pos hc] at hcw
      simp (disch := first | assumption | exact wn2_i | exact wn2_r | exact wn2_n | exact Nat.le_of_ble_eq_true rfl | omega | (refine nI_z ?_ ?_ <;> omega)) only [s40_0, s40_1, s40_4, s40_7, s40_8, s40_11, s40_12, s40_13, s40_14, s40_17, s40_18, s40_19, s40_20, s40_22, s40_23, s40_24, s40_25, s40_27, s40_28, s40_29, s40_30, s40_56, s40_57, s40_60, s40_61, s40_62, s40_64, s40_65, s40_66, s40_69, s40_70, s40_71, s40_72, s40_73, s40_76, s40_77, s40_78, wX_some, Option.toList_some, Option.toList_none, List.cons_append, List.nil_append, List.map_cons, List.map_nil, List.sum_cons, List.sum_nil, Value.category, wn2_i, wn2_r, wn2_n, Option.isSome_some, List.getElem?_cons_zero, List.getElem?_cons_succ, nI_add, nI_rem2, hg, hI, n1, n2, if_false, if_true, nI_div, e, nI_eq, Nat.reduceEqDiff, hcw]
      simp (disch := first | assumption | exact wn2_i | exact wn2_r | exact wn2_n | exact Nat.le_of_ble_eq_true rfl | omega | (refine nI_z ?_ ?_ <;> omega)) only [s40_81, s40_84, s40_85, s40_86, s40_87, s40_88, s40_91, s40_92, s40_93, wX_some, Option.toList_some, Option.toList_none, List.cons_append, List.nil_append, List.map_cons, List.map_nil, List.sum_cons, List.sum_nil, Value.category, wn2_i, wn2_r, wn2_n, Option.isSome_some, List.getElem?_cons_zero, List.getElem?_cons_succ, nI_add, nI_rem2, hg, hI, nI_eq0, if_false, Nat.reduceEqDiff, nI_div]
      refine hand_wp hT hs ht hc.1 G2 hb hc.2.1 (fun h1 hT1 ho1 => ?_)
      simp (disch := first | assumption | exact wn2_i | exact wn2_r | exact wn2_n | exact Nat.le_of_ble_eq_true rfl | omega | (refine nI_z ?_ ?_ <;> omega)) only [s40_96, s40_99, s40_100, s40_103, s40_104, s40_105, s40_106, s40_109, wX_some, Option.toList_some, Option.toList_none, List.cons_append, List.nil_append, List.map_cons, List.map_nil, List.sum_cons, List.sum_nil, Value.category, wn2_i, wn2_r, wn2_n, Option.isSome_some, List.getElem?_cons_zero, List.getElem?_cons_succ, nI_add, nI_rem2]
      exact k _ hT1 ho1
    · rw [if_neg hc] at k
      have hcw := canHand_wp (sc := sc) (Q := fun r h1 => WP sc 40 81 [some (.ref a), some (.int (nI d)), some (.int (nI (d % A 7 0))), some (.int (nI (d / 64)))] (r.toList ++ []) h1 Q) hT hs ht (by omega : 1 ≤ 40) G2 hb
      rw [if_neg hc] at hcw
      simp (disch := first | assumption | exact wn2_i | exact wn2_r | exact wn2_n | exact Nat.le_of_ble_eq_true rfl | omega | (refine nI_z ?_ ?_ <;> omega)) only [s40_0, s40_1, s40_4, s40_7, s40_8, s40_11, s40_12, s40_13, s40_14, s40_17, s40_18, s40_19, s40_20, s40_22, s40_23, s40_24, s40_25, s40_27, s40_28, s40_29, s40_30, s40_56, s40_57, s40_60, s40_61, s40_62, s40_64, s40_65, s40_66, s40_69, s40_70, s40_71, s40_72, s40_73, s40_76, s40_77, s40_78, wX_some, Option.toList_some, Option.toList_none, List.cons_append, List.nil_append, List.map_cons, List.map_nil, List.sum_cons, List.sum_nil, Value.category, wn2_i, wn2_r, wn2_n, Option.isSome_some, List.getElem?_cons_zero, List.getElem?_cons_succ, nI_add, nI_rem2, hg, hI, n1, n2, if_false, if_true, nI_div, e, nI_eq, Nat.reduceEqDiff, hcw]
      simp (disch := first | assumption | exact wn2_i | exact wn2_r | exact wn2_n | exact Nat.le_of_ble_eq_true rfl | omega | (refine nI_z ?_ ?_ <;> omega)) only [s40_81, s40_84, s40_85, s40_86, s40_87, s40_88, s40_91, s40_92, s40_93, s40_96, s40_99, s40_100, s40_103, s40_104, s40_105, s40_106, s40_109, wX_some, Option.toList_some, Option.toList_none, List.cons_append, List.nil_append, List.map_cons, List.map_nil, List.sum_cons, List.sum_nil, Value.category, wn2_i, wn2_r, wn2_n, Option.isSome_some, List.getElem?_cons_zero, List.getElem?_cons_succ, nI_add, nI_rem2, nI_eq0, if_true]
      exact k _ hT Off.rf
  · rw [e, if_neg (by omega), if_neg (by omega), if_pos rfl] at k
    simp (disch := first | assumption | exact wn2_i | exact wn2_r | exact wn2_n | exact Nat.le_of_ble_eq_true rfl | omega | (refine nI_z ?_ ?_ <;> omega)) only [s40_0, s40_1, s40_4, s40_7, s40_8, s40_11, s40_12, s40_13, s40_14, s40_17, s40_18, s40_19, s40_20, s40_22, s40_23, s40_24, s40_25, s40_27, s40_28, s40_29, s40_30, s40_56, s40_57, s40_60, s40_61, s40_62, s40_64, s40_65, s40_66, s40_69, s40_70, s40_71, s40_72, s40_73, s40_76, s40_77, s40_78, s40_81, s40_84, s40_85, s40_86, s40_87, s40_88, s40_91, s40_92, s40_93, s40_96, s40_99, s40_100, s40_103, s40_104, s40_105, s40_106, s40_109, wX_some, Option.toList_some, Option.toList_none, List.cons_append, List.nil_append, List.map_cons, List.map_nil, List.sum_cons, List.sum_nil, Value.category, wn2_i, wn2_r, wn2_n, Option.isSome_some, List.getElem?_cons_zero, List.getElem?_cons_succ, nI_add, nI_rem2, hg, n1, n2, if_false, if_true, nI_div, e, nI_eq, Nat.reduceEqDiff, a2, g2, iat_n]
    exact k _ (TA.arr (d := 1) hT (by omega) (k2.put (by omega))) (Off.rf.st (by omega) (by omega))
  · rw [e, if_neg (by omega), if_neg (by omega), if_neg (by omega)] at k
    simp (disch := first | assumption | exact wn2_i | exact wn2_r | exact wn2_n | exact Nat.le_of_ble_eq_true rfl | omega | (refine nI_z ?_ ?_ <;> omega)) only [s40_0, s40_1, s40_4, s40_7, s40_8, s40_11, s40_12, s40_13, s40_14, s40_17, s40_18, s40_19, s40_20, s40_22, s40_23, s40_24, s40_25, s40_27, s40_28, s40_29, s40_30, s40_56, s40_57, s40_60, s40_61, s40_62, s40_64, s40_65, s40_66, s40_69, s40_70, s40_71, s40_72, s40_73, s40_76, s40_77, s40_78, s40_81, s40_84, s40_85, s40_86, s40_87, s40_88, s40_91, s40_92, s40_93, s40_96, s40_99, s40_100, s40_103, s40_104, s40_105, s40_106, s40_109, wX_some, Option.toList_some, Option.toList_none, List.cons_append, List.nil_append, List.map_cons, List.map_nil, List.sum_cons, List.sum_nil, Value.category, wn2_i, wn2_r, wn2_n, Option.isSome_some, List.getElem?_cons_zero, List.getElem?_cons_succ, nI_add, nI_rem2, hg, n1, n2, if_false, if_true, nI_div, e, nI_eq, Nat.reduceEqDiff]
    exact k _ hT Off.rf
theorem empty_wp (hT : TA h a A) (k : ∀ h1, TA h1 a emA → Off h h1 a 7 → Q none h1) : WP sc 24 0 [some (.ref a)] [] h Q := by
  obtain ⟨kd, we, us, di, st, wo, h0, ⟨h1, h2, h3, h4, h5, h6⟩, g1, g2, g3, g4, g5, g6⟩ := hT
  have hi := i_obj h0
  have hl := lt_of_some h0
  simp (disch := first | assumption | exact wn2_i | exact wn2_r | exact wn2_n | exact Nat.le_of_ble_eq_true rfl | omega | (refine nI_z ?_ ?_ <;> omega)) only [s24_0, s24_1, s24_2, s24_5, s24_6, s24_7, s24_10, s24_11, s24_12, s24_15, s24_16, s24_18, s24_21, s24_22, s24_23, s24_26, wX_some, Option.toList_some, Option.toList_none, List.cons_append, List.nil_append, List.map_cons, List.map_nil, List.sum_cons, List.sum_nil, Value.category, wn2_i, wn2_r, wn2_n, Option.isSome_some, List.getElem?_cons_zero, List.getElem?_cons_succ, nI_add, nI_rem2, hi, i_eq, List.set_set, List.set_cons_zero, List.set_cons_succ, List.length_cons, List.length_nil, List.length_set]
  simp only [List.set_set, Nat.reduceAdd, Nat.reduceLT, true_and]
  refine k _ ?_ ?_
  rotate_left
  · exact Off.rf.st (by omega) (by omega)
  have al : ∀ l f n, AL l f n → AL l (emA 0) 0 := fun l f n q => ⟨q.1, fun i hi => absurd hi (Nat.not_lt_zero i)⟩
  exact ⟨kd, we, us, di, st, wo, s_eq hl, ⟨s_ne (by omega) h1, s_ne (by omega) h2, s_ne (by omega) h3, s_ne (by omega) h4, s_ne (by omega) h5, s_ne (by omega) h6⟩, al _ _ _ g1, al _ _ _ g2, al _ _ _ g3, al _ _ _ g4, al _ _ _ g5, al _ _ _ g6⟩
theorem within_wp (x lo hi : Int32) : WP sc 43 0 [some (.int x), some (.int lo), some (.int hi)] [] h Q ↔ Q (some (.int (if lo ≤ x ∧ x ≤ hi then nI 1 else nI 0))) h := by
  simp (disch := first | assumption | exact wn2_i | exact wn2_r | exact wn2_n | exact Nat.le_of_ble_eq_true rfl | omega | (refine nI_z ?_ ?_ <;> omega)) only [s43_0, s43_1, s43_2, s43_5, s43_6, s43_7, s43_10, s43_11, s43_14, s43_15, wX_some, Option.toList_some, Option.toList_none, List.cons_append, List.nil_append, List.map_cons, List.map_nil, List.sum_cons, List.sum_nil, Value.category, wn2_i, wn2_r, wn2_n, Option.isSome_some, List.getElem?_cons_zero, List.getElem?_cons_succ, nI_add, nI_rem2]
  by_cases h1 : x < lo
  · have : ¬ lo ≤ x := by rw [Int32.le_iff_toInt_le]; rw [Int32.lt_iff_toInt_lt] at h1; omega
    simp [h1, this, nI_0]
  · have h2 : lo ≤ x := by rw [Int32.le_iff_toInt_le]; rw [Int32.lt_iff_toInt_lt] at h1; omega
    by_cases h3 : hi < x
    · have : ¬ x ≤ hi := by rw [Int32.le_iff_toInt_le]; rw [Int32.lt_iff_toInt_lt] at h3; omega
      simp [h1, h2, h3, this, nI_0]
    · have : x ≤ hi := by rw [Int32.le_iff_toInt_le]; rw [Int32.lt_iff_toInt_lt] at h3; omega
      simp [h1, h2, h3, this]
      intro _; right; rfl
end TOWN4
section TOWN5
variable {sc : List Int32} {h : List ms_C} {Q : Option Value → List ms_C → Prop} {a : Nat} {A : AS}
def oI (lo hi : Nat) (o : Option Nat) : Bool := match o with
  | none => false
  | some v => decide (lo ≤ v ∧ v ≤ hi)
theorem within_o (o : Option Nat) (ho : ∀ v, o = some v → v ≤ 99) {lo hi : Nat} (hl : lo ≤ 99) (hh : hi ≤ 99) : WP sc 43 0 [some (.int (pI o)), some (.int (nI lo)), some (.int (nI hi))] [] h Q ↔ Q (some (.int (if oI lo hi o then nI 1 else nI 0))) h := by
  rw [within_wp]
  cases o with
  | none =>
    have : ¬ nI lo ≤ pI none := by
      rw [Int32.le_iff_toInt_le, nI_toInt (by omega)]
      have : (pI none).toInt = -1 := rfl
      omega
    simp [this, oI]
  | some v =>
    have hv := ho v rfl
    simp only [pI, oI]
    simp (disch := first | assumption | exact wn2_i | exact wn2_r | exact wn2_n | exact Nat.le_of_ble_eq_true rfl | omega | (refine nI_z ?_ ?_ <;> omega)) only [nI_leI, decide_eq_true_eq]
def adS (A : AS) (k w u : Nat) : AS := fun c => match c with
  | 0 => up1 (A 0) (A 7 0) w
  | 1 => up1 (A 1) (A 7 0) 0
  | 2 => up1 (A 2) (A 7 0) 0
  | 5 => up1 (A 5) (A 7 0) k
  | 6 => up1 (A 6) (A 7 0) u
  | 7 => up1 (A 7) 0 (A 7 0 + 1)
  | c => A c
def adW (A : AS) (v : Nat) : AS := fun c => match c with
  | 3 => up1 (A 3) (A 7 1) v
  | 7 => up1 (A 7) 1 (A 7 1 + 1)
  | c => A c
theorem addStreet_no (hT : TA h a A) (h6 : A 7 0 ≤ 6) {o1 o2 o3 : Option Nat} (h1 : ∀ v, o1 = some v → v ≤ 99) (h2 : ∀ v, o2 = some v → v ≤ 99) (h3 : ∀ v, o3 = some v → v ≤ 99) (hno : A 7 0 = 6 ∨ oI 0 3 o1 = false ∨ oI 0 99 o2 = false ∨ oI 0 9 o3 = false) : WP sc 22 0 [some (.ref a), some (.int (pI o1)), some (.int (pI o2)), some (.int (pI o3))] [] h Q ↔ Q (some (.int (nI 0))) h := by
  obtain ⟨kd, we, us, di, st, wo, hg, hi, hI, -⟩ := hT.facts
  have w1 := fun Q => within_o (sc := sc) (h := h) (Q := Q) o1 h1 (lo := 0) (hi := 3) (by omega) (by omega)
  have w2 := fun Q => within_o (sc := sc) (h := h) (Q := Q) o2 h2 (lo := 0) (hi := 99) (by omega) (by omega)
  have w3 := fun Q => within_o (sc := sc) (h := h) (Q := Q) o3 h3 (lo := 0) (hi := 9) (by omega) (by omega)
  by_cases c0 : A 7 0 = 6
  · have n1 : nI 6 ≤ nI (A 7 0) := nI_le (by omega) (by omega)
    simp (disch := first | assumption | exact wn2_i | exact wn2_r | exact wn2_n | exact Nat.le_of_ble_eq_true rfl | omega | (refine nI_z ?_ ?_ <;> omega)) only [s22_0, s22_1, s22_4, s22_6, s22_9, s22_10, s22_11, s22_12, s22_15, s22_18, s22_19, s22_20, s22_22, s22_25, s22_28, s22_29, s22_30, s22_32, s22_35, s22_38, s22_39, s22_40, s22_41, s22_44, s22_45, s22_48, s22_49, s22_50, s22_51, s22_54, s22_55, s22_58, s22_59, s22_60, s22_61, s22_64, s22_65, s22_68, s22_69, s22_70, s22_71, s22_74, s22_75, s22_78, s22_79, s22_80, s22_81, s22_84, s22_85, s22_88, s22_89, s22_90, s22_91, s22_92, s22_95, s22_96, s22_97, s22_100, s22_101, wX_some, Option.toList_some, Option.toList_none, List.cons_append, List.nil_append, List.map_cons, List.map_nil, List.sum_cons, List.sum_nil, Value.category, wn2_i, wn2_r, wn2_n, Option.isSome_some, List.getElem?_cons_zero, List.getElem?_cons_succ, nI_add, nI_rem2, hg, n1, if_true, nI_eq0, true_or, true_and]
  · have n1 : ¬ nI 6 ≤ nI (A 7 0) := nI_ge (by omega) (by omega)
    cases c1 : oI 0 3 o1 with
    | false => simp (disch := first | assumption | exact wn2_i | exact wn2_r | exact wn2_n | exact Nat.le_of_ble_eq_true rfl | omega | (refine nI_z ?_ ?_ <;> omega)) only [s22_0, s22_1, s22_4, s22_6, s22_9, s22_10, s22_11, s22_12, s22_15, s22_18, s22_19, s22_20, s22_22, s22_25, s22_28, s22_29, s22_30, s22_32, s22_35, s22_38, s22_39, s22_40, s22_41, s22_44, s22_45, s22_48, s22_49, s22_50, s22_51, s22_54, s22_55, s22_58, s22_59, s22_60, s22_61, s22_64, s22_65, s22_68, s22_69, s22_70, s22_71, s22_74, s22_75, s22_78, s22_79, s22_80, s22_81, s22_84, s22_85, s22_88, s22_89, s22_90, s22_91, s22_92, s22_95, s22_96, s22_97, s22_100, s22_101, wX_some, Option.toList_some, Option.toList_none, List.cons_append, List.nil_append, List.map_cons, List.map_nil, List.sum_cons, List.sum_nil, Value.category, wn2_i, wn2_r, wn2_n, Option.isSome_some, List.getElem?_cons_zero, List.getElem?_cons_succ, nI_add, nI_rem2, hg, n1, if_false, w1, c1, true_or, true_and, Bool.false_eq_true, if_true, if_false, nI_eq0, Nat.reduceEqDiff]
    | true =>
      cases c2 : oI 0 99 o2 with
      | false => simp (disch := first | assumption | exact wn2_i | exact wn2_r | exact wn2_n | exact Nat.le_of_ble_eq_true rfl | omega | (refine nI_z ?_ ?_ <;> omega)) only [s22_0, s22_1, s22_4, s22_6, s22_9, s22_10, s22_11, s22_12, s22_15, s22_18, s22_19, s22_20, s22_22, s22_25, s22_28, s22_29, s22_30, s22_32, s22_35, s22_38, s22_39, s22_40, s22_41, s22_44, s22_45, s22_48, s22_49, s22_50, s22_51, s22_54, s22_55, s22_58, s22_59, s22_60, s22_61, s22_64, s22_65, s22_68, s22_69, s22_70, s22_71, s22_74, s22_75, s22_78, s22_79, s22_80, s22_81, s22_84, s22_85, s22_88, s22_89, s22_90, s22_91, s22_92, s22_95, s22_96, s22_97, s22_100, s22_101, wX_some, Option.toList_some, Option.toList_none, List.cons_append, List.nil_append, List.map_cons, List.map_nil, List.sum_cons, List.sum_nil, Value.category, wn2_i, wn2_r, wn2_n, Option.isSome_some, List.getElem?_cons_zero, List.getElem?_cons_succ, nI_add, nI_rem2, hg, n1, if_false, w1, w2, c1, c2, true_or, true_and, Bool.false_eq_true, if_true, nI_eq0, Nat.reduceEqDiff]
      | true =>
        cases c3 : oI 0 9 o3 with
        | false => simp (disch := first | assumption | exact wn2_i | exact wn2_r | exact wn2_n | exact Nat.le_of_ble_eq_true rfl | omega | (refine nI_z ?_ ?_ <;> omega)) only [s22_0, s22_1, s22_4, s22_6, s22_9, s22_10, s22_11, s22_12, s22_15, s22_18, s22_19, s22_20, s22_22, s22_25, s22_28, s22_29, s22_30, s22_32, s22_35, s22_38, s22_39, s22_40, s22_41, s22_44, s22_45, s22_48, s22_49, s22_50, s22_51, s22_54, s22_55, s22_58, s22_59, s22_60, s22_61, s22_64, s22_65, s22_68, s22_69, s22_70, s22_71, s22_74, s22_75, s22_78, s22_79, s22_80, s22_81, s22_84, s22_85, s22_88, s22_89, s22_90, s22_91, s22_92, s22_95, s22_96, s22_97, s22_100, s22_101, wX_some, Option.toList_some, Option.toList_none, List.cons_append, List.nil_append, List.map_cons, List.map_nil, List.sum_cons, List.sum_nil, Value.category, wn2_i, wn2_r, wn2_n, Option.isSome_some, List.getElem?_cons_zero, List.getElem?_cons_succ, nI_add, nI_rem2, hg, n1, if_false, w1, w2, w3, c1, c2, c3, true_or, true_and, Bool.false_eq_true, if_true, nI_eq0, Nat.reduceEqDiff]
        | true => simp [c0, c1, c2, c3] at hno
theorem addStreet_yes (hT : TA h a A) (h6 : A 7 0 < 6) {k w u : Nat} (h1 : k ≤ 3) (h2 : w ≤ 99) (h3 : u ≤ 9) (kk : ∀ h1, TA h1 a (adS A k w u) → Off h h1 a 7 → Q (some (.int (nI 1))) h1) : WP sc 22 0 [some (.ref a), some (.int (nI k)), some (.int (nI w)), some (.int (nI u))] [] h Q := by
  have w1 := fun Q => within_o (sc := sc) (h := h) (Q := Q) (some k) (fun v hv => by cases hv; omega) (lo := 0) (hi := 3) (by omega) (by omega)
  have w2 := fun Q => within_o (sc := sc) (h := h) (Q := Q) (some w) (fun v hv => by cases hv; omega) (lo := 0) (hi := 99) (by omega) (by omega)
  have w3 := fun Q => within_o (sc := sc) (h := h) (Q := Q) (some u) (fun v hv => by cases hv; omega) (lo := 0) (hi := 9) (by omega) (by omega)
  have c1 : oI 0 3 (some k) = true := by simp [oI]; omega
  have c2 : oI 0 99 (some w) = true := by simp [oI]; omega
  have c3 : oI 0 9 (some u) = true := by simp [oI]; omega
  simp only [pI, c1, c2, c3, if_true] at w1 w2 w3
  obtain ⟨kd, we, us, di, st, wo, hg, hi, hI, a1, a2, a3, a4, a5, a6, g1, g2, g3, g4, g5, g6, k1, k2, k3, k4, k5, k6, hlen⟩ := hT.facts
  obtain ⟨kd', we', us', di', st', wo', z0, ⟨z1, z2, z3, z4, z5, z6⟩, -⟩ := hT
  rw [a_arr z1] at a1; cases a1
  rw [a_arr z2] at a2; cases a2
  rw [a_arr z3] at a3; cases a3
  rw [a_arr z4] at a4; cases a4
  rw [a_arr z5] at a5; cases a5
  rw [a_arr z6] at a6; cases a6
  have b1 := a_arr z1
  have b2 := a_arr z2
  have b3 := a_arr z3
  have b4 := a_arr z4
  have b5 := a_arr z5
  have n1 : ¬ nI 6 ≤ nI (A 7 0) := nI_ge (by omega) (by omega)
  have hi' : ∀ b c, b ≠ a → ms_is (h.set b c) a 4 = ms_is h a 4 := fun b c hb => i_ne hb
  simp (disch := first | assumption | exact wn2_i | exact wn2_r | exact wn2_n | exact Nat.le_of_ble_eq_true rfl | omega | (refine nI_z ?_ ?_ <;> omega)) only [s22_0, s22_1, s22_4, s22_6, s22_9, s22_10, s22_11, s22_12, s22_15, s22_18, s22_19, s22_20, s22_22, s22_25, s22_28, s22_29, s22_30, s22_32, s22_35, s22_38, s22_39, s22_40, s22_41, s22_44, s22_45, s22_48, s22_49, s22_50, s22_51, s22_54, s22_55, s22_58, s22_59, s22_60, s22_61, s22_64, s22_65, s22_68, s22_69, s22_70, s22_71, s22_74, s22_75, s22_78, s22_79, s22_80, s22_81, s22_84, s22_85, s22_88, s22_89, s22_90, s22_91, s22_92, s22_95, s22_96, s22_97, s22_100, s22_101, wX_some, Option.toList_some, Option.toList_none, List.cons_append, List.nil_append, List.map_cons, List.map_nil, List.sum_cons, List.sum_nil, Value.category, wn2_i, wn2_r, wn2_n, Option.isSome_some, List.getElem?_cons_zero, List.getElem?_cons_succ, nI_add, nI_rem2, hg, n1, if_false, w1, w2, w3, nI_eq0, Nat.reduceEqDiff, b1, b2, b3, b4, b5, g1, g2, g3, g4, g5, iat_n, g_ne, a_ne, i_ne, ne_eq, Nat.add_right_inj, not_false_eq_true, hi, TO_len, Nat.reduceLT, true_and, nI_eq0, nI_eq1, or_true]
  refine kk _ ?_ ?_
  rotate_left
  · exact ((((((Off.rf.st (by omega) (by omega)).st (by omega) (by omega)).st (by omega) (by omega)).st (by omega) (by omega)).st (by omega) (by omega)).st (by omega) (by omega))
  refine ⟨kd.set (A 7 0) (nI k), we.set (A 7 0) (nI w), us.set (A 7 0) (nI u), di.set (A 7 0) (nI 0), st.set (A 7 0) (nI 0), wo, ?_, ⟨?_, ?_, ?_, ?_, ?_, ?_⟩, ?_⟩
  · rw [s_eq (by simp; omega)]; rfl
  · simp [List.getElem?_set]; omega
  · simp [List.getElem?_set]; omega
  · simp [List.getElem?_set]; omega
  · simp [List.getElem?_set]; omega
  · simp [List.getElem?_set]; omega
  · simp [List.getElem?_set]; exact z6
  · exact ⟨k1.app h6, k2.app h6, k3.app h6, k4.app h6, k5.app h6, k6⟩
end TOWN5

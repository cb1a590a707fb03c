-- the model reads the text: letters and numbers
/-- while it reads: at the place p, the items ahead of it are E -/
def rdR (E : AS) (l : List Int32) : Prop := RA (fun i => l.getD i 0) E ∧ ∀ s, E 7 0 ≤ s → s < 6 → l.getD (6 + s) 0 = nI 0 ∧ l.getD (12 + s) 0 = nI 0
def MK (h : List ms_C) (k1 u2 : Int32) (T : Nat → Nat) (m : Nat) (A : AS) (U K : List AS) (L : List (Nat × Nat)) (p : Nat) (E : AS) : Prop :=
  MJ h (-4) k1 (-4) u2 T m A U K L ∧ h[97]? = some (ms_obj 6 (MO (nI m) (nI U.length) (nI K.length) (nI L.length) (nI p) (-4) k1 (-4) u2)) ∧ AR h 100 14 (fun l => KA (fun i => l.getD i 0) E) ∧ AR h 101 27 (rdR E)
def numN (x : Nat) (vs : Nat → Nat) (l : List Int32) : Prop := ∀ i, i < x → l.getD i 0 = nI (vs i)
section M74
variable {sc : List Int32} {h h1 : List ms_C} {Q : Option Value → List ms_C → Prop} {k1 u2 : Int32} {T : Nat → Nat} {m : Nat} {A E : AS} {U K : List AS} {L : List (Nat × Nat)} {S : GS} {p : Nat}
/-- the place goes on -/
theorem MK.spot (hK : MK h k1 u2 T m A U K L p E) (q : Nat) : MK (h.set 97 (ms_obj 6 (MO (nI m) (nI U.length) (nI K.length) (nI L.length) (nI q) (-4) k1 (-4) u2))) k1 u2 T m A U K L q E := by
  obtain ⟨hM, z1, z2, z3⟩ := hK
  obtain ⟨sp, y1, hset⟩ := hM.obj
  exact ⟨hset (nI q) (-4) k1 (-4) u2, s_eq (lt_of_some z1), z2.off (by rw [List.getElem?_set_ne (by omega)]), z3.off (by rw [List.getElem?_set_ne (by omega)])⟩
theorem letterAt_wp (hM : MJ h (-4) k1 (-4) u2 T m A U K L) (hm : m ≤ 200) {i : Nat} (hi : i ≤ 1000) : WP sc 86 0 [some (.ref 97), some (.int (nI i))] [] h Q ↔ Q (some (.int (nI (chrT T m i)))) h := by
  obtain ⟨⟨sp, z1⟩, ⟨a98, a99, a100, a101, a102, a104, a105, a106, a107, a108, a109⟩, a103⟩ := hM
  obtain ⟨tx, x1, x2, x3⟩ := a98
  have hg := fun k => g_obj (k := k) z1
  have av := a_arr x1
  unfold chrT
  by_cases c : i < m
  · have n1 : ¬ nI m ≤ nI i := nI_ge c (by omega)
    have v := (x3 i c).1
    rw [if_pos c]
    simp (disch := first | assumption | exact wn2_i | exact wn2_r | exact wn2_n | exact Nat.le_of_ble_eq_true rfl | omega | (refine nI_z ?_ ?_ <;> omega)) only [s86_0, s86_1, s86_2, s86_5, s86_8, s86_9, s86_12, s86_13, s86_14, s86_17, s86_18, wX_some, Option.toList_some, Option.toList_none, List.cons_append, List.nil_append, List.map_cons, List.map_nil, List.sum_cons, List.sum_nil, Value.category, wn2_i, wn2_r, wn2_n, Option.isSome_some, List.getElem?_cons_zero, List.getElem?_cons_succ, nI_add, nI_rem2, hg, n1, if_false, av, x2, iat_n, v]
  · have n1 : nI m ≤ nI i := nI_le (by omega) (by omega)
    rw [if_neg c]
    simp (disch := first | assumption | exact wn2_i | exact wn2_r | exact wn2_n | exact Nat.le_of_ble_eq_true rfl | omega | (refine nI_z ?_ ?_ <;> omega)) only [s86_0, s86_1, s86_2, s86_5, s86_8, s86_9, s86_12, s86_13, s86_14, s86_17, s86_18, wX_some, Option.toList_some, Option.toList_none, List.cons_append, List.nil_append, List.map_cons, List.map_nil, List.sum_cons, List.sum_nil, Value.category, wn2_i, wn2_r, wn2_n, Option.isSome_some, List.getElem?_cons_zero, List.getElem?_cons_succ, nI_add, nI_rem2, hg, n1, if_true]
theorem chr_le (hM : MJ h (-4) k1 (-4) u2 T m A U K L) {i : Nat} : chrT T m i ≤ 126 := by
  obtain ⟨_, ⟨a98, a99, a100, a101, a102, a104, a105, a106, a107, a108, a109⟩, a103⟩ := hM
  obtain ⟨tx, x1, x2, x3⟩ := a98
  unfold chrT
  split
  · rename_i c; exact (x3 i c).2
  · omega
theorem rng_c {c lo hi : Nat} (hc : c < 2 ^ 31) : rng lo hi (nI c) = decide (lo ≤ c ∧ c ≤ hi) := by
  unfold rng
  rw [nI_toInt hc]
  apply decide_eq_decide.mpr
  omega
/-- a figure is read -/
theorem dig_step (hK : MK h k1 u2 T m A U K L p E) (hm : m ≤ 200) (hp : p ≤ 900) (hd : digT T m p = true) {f v : Nat} (hf : f < 3) {mn x : Int32} (k : ∀ h1, MK h1 k1 u2 T m A U K L (p + 1) E → OffX h h1 (fun i => i = 97) → WP sc 87 12 [some (.ref 97), some (.int mn), some (.int x), some (.int (nI (f + 1))), some (.int (nI (10 * v + (chrT T m p - 48))))] [] h1 Q) : WP sc 87 12 [some (.ref 97), some (.int mn), some (.int x), some (.int (nI f)), some (.int (nI v))] [] h Q := by
  have hM := hK.1
  have z1 := hK.2.1
  have hg := fun k => g_obj (k := k) z1
  have his := i_obj z1
  have hI : (ms_is h 97 6).isSome = true := by rw [his]; rfl
  have hla := fun Q => letterAt_wp (sc := sc) (Q := Q) hM hm (i := p) (by omega)
  have hc := chr_le hM (i := p)
  have hd2 := of_decide_eq_true hd
  have hr : rng 48 57 (nI (chrT T m p)) = true := by rw [rng_c (by omega)]; exact hd
  have n1 : ¬ nI 3 ≤ nI f := nI_ge hf (by omega)
  have e1 : nI (10 * v + chrT T m p) - nI 48 = nI (10 * v + (chrT T m p - 48)) := by
    rw [nI_sub (by omega)]
    congr 1
    omega
  have kk := k _ (hK.spot (p + 1)) (OffX.rf.st rfl)
  rw [s87_12]
  simp (disch := first | assumption | exact wn2_i | exact wn2_r | exact wn2_n | exact Nat.le_of_ble_eq_true rfl | omega | (refine nI_z ?_ ?_ <;> omega)) only [s87_13, s87_14, s87_17, s87_20, s87_21, s87_24, s87_27, s87_30, s87_33, s87_34, s87_35, s87_38, s87_40, s87_42, s87_43, s87_44, s87_45, s87_48, s87_51, s87_52, s87_54, s87_55, s87_57, s87_60, s87_61, s87_62, s87_65, s87_66, s87_67, s87_70, wX_some, Option.toList_some, Option.toList_none, List.cons_append, List.nil_append, List.map_cons, List.map_nil, List.sum_cons, List.sum_nil, Value.category, wn2_i, wn2_r, wn2_n, Option.isSome_some, List.getElem?_cons_zero, List.getElem?_cons_succ, nI_add, nI_rem2, hg, his, hla, in_rng, hr, if_true, nI_eq0, if_false, Nat.reduceEqDiff, n1, pk_mul, e1, List.set_cons_succ, List.set_cons_zero, List.length_cons, List.length_nil, Nat.reduceAdd, Nat.reduceLT, true_and]
  exact kk
/-- no further figure is read -/
theorem dig_stop (hK : MK h k1 u2 T m A U K L p E) (hm : m ≤ 200) (hp : p ≤ 900) {f : Nat} (hf : f ≤ 3) (hd : digT T m p = false ∨ f = 3) {mn x v : Int32} (k : WP sc 87 73 [some (.ref 97), some (.int mn), some (.int x), some (.int (nI f)), some (.int v)] [] h Q) : WP sc 87 12 [some (.ref 97), some (.int mn), some (.int x), some (.int (nI f)), some (.int v)] [] h Q := by
  have hM := hK.1
  have z1 := hK.2.1
  have hg := fun k => g_obj (k := k) z1
  have his := i_obj z1
  have hI : (ms_is h 97 6).isSome = true := by rw [his]; rfl
  have hla := fun Q => letterAt_wp (sc := sc) (Q := Q) hM hm (i := p) (by omega)
  have hc := chr_le hM (i := p)
  rw [s87_12]
  cases hz : digT T m p with
  | false =>
    have hr : rng 48 57 (nI (chrT T m p)) = false := by rw [rng_c (by omega)]; exact hz
    simp (disch := first | assumption | exact wn2_i | exact wn2_r | exact wn2_n | exact Nat.le_of_ble_eq_true rfl | omega | (refine nI_z ?_ ?_ <;> omega)) only [s87_13, s87_14, s87_17, s87_20, s87_21, s87_24, s87_27, s87_30, wX_some, Option.toList_some, Option.toList_none, List.cons_append, List.nil_append, List.map_cons, List.map_nil, List.sum_cons, List.sum_nil, Value.category, wn2_i, wn2_r, wn2_n, Option.isSome_some, List.getElem?_cons_zero, List.getElem?_cons_succ, nI_add, nI_rem2, hg, hla, in_rng, hr, Bool.false_eq_true, if_false, nI_eq0, if_true]
    exact k
  | true =>
    have hr : rng 48 57 (nI (chrT T m p)) = true := by rw [rng_c (by omega)]; exact hz
    have h3 : f = 3 := by
      rcases hd with q | q
      · rw [hz] at q; cases q
      · exact q
    have n1 : nI 3 ≤ nI f := nI_le (by omega) (by omega)
    simp (disch := first | assumption | exact wn2_i | exact wn2_r | exact wn2_n | exact Nat.le_of_ble_eq_true rfl | omega | (refine nI_z ?_ ?_ <;> omega)) only [s87_13, s87_14, s87_17, s87_20, s87_21, s87_24, s87_27, s87_30, s87_33, s87_34, s87_35, wX_some, Option.toList_some, Option.toList_none, List.cons_append, List.nil_append, List.map_cons, List.map_nil, List.sum_cons, List.sum_nil, Value.category, wn2_i, wn2_r, wn2_n, Option.isSome_some, List.getElem?_cons_zero, List.getElem?_cons_succ, nI_add, nI_rem2, hg, hla, in_rng, hr, if_false, nI_eq0, if_true, Nat.reduceEqDiff, n1]
    exact k
/-- behind the figures: the sign -/
theorem num_end (hK : MK h k1 u2 T m A U K L p E) (hm : m ≤ 200) (hp : p ≤ 900) {mn x : Nat} (hx : x < mn) (hmn : mn ≤ 3) {vs : Nat → Nat} (hN : AR h 107 3 (numN x vs)) {f v : Nat} (hf : f ≤ 3)
    (kn : ¬ ((1 ≤ f ∧ f ≤ 2) ∧ chrT T m p = (if x + 1 < mn then 44 else 59)) → Q (some (.int (nI 0))) h)
    (ky : ((1 ≤ f ∧ f ≤ 2) ∧ chrT T m p = (if x + 1 < mn then 44 else 59)) → ∀ h1, MK h1 k1 u2 T m A U K L (p + 1) E → AR h1 107 3 (numN (x + 1) (up1 vs x v)) → OffX h h1 (fun i => i = 97 ∨ i = 107) → WP sc 87 2 [some (.ref 97), some (.int (nI mn)), some (.int (nI (x + 1))), some (.int (nI f)), some (.int (nI v))] [] h1 Q) : WP sc 87 73 [some (.ref 97), some (.int (nI mn)), some (.int (nI x)), some (.int (nI f)), some (.int (nI v))] [] h Q := by
  have hM := hK.1
  have z1 := hK.2.1
  have hg := fun k => g_obj (k := k) z1
  have his := i_obj z1
  have hI : (ms_is h 97 6).isSome = true := by rw [his]; rfl
  have hla := fun Q => letterAt_wp (sc := sc) (Q := Q) hM hm (i := p) (by omega)
  have hc := chr_le hM (i := p)
  have b01' : (nI 0 = 0 ∨ nI 0 = 1) ↔ True := ⟨fun _ => trivial, fun _ => Or.inl rfl⟩
  have e1 : nI mn - nI 1 = nI (mn - 1) := nI_sub (by omega)
  by_cases c1 : 1 ≤ f ∧ f ≤ 2
  · have hr : rng 1 2 (nI f) = true := by rw [rng_c (by omega)]; exact decide_eq_true c1
    have fin : ∀ sg : Nat, sg ≤ 126 → sg = (if x + 1 < mn then 44 else 59) → WP sc 87 107 [some (.ref 97), some (.int (nI mn)), some (.int (nI x)), some (.int (nI f)), some (.int (nI v))] [.int (nI sg), .int (nI (chrT T m p))] h Q := by
      intro sg hs9 hsg
      by_cases c2 : chrT T m p = sg
      · have e2 : (nI (chrT T m p) = nI sg) ↔ True := ⟨fun _ => trivial, fun _ => by rw [c2]⟩
        obtain ⟨nb, n1, n2, n3⟩ := hN
        have an := a_arr n1
        simp (disch := first | assumption | exact wn2_i | exact wn2_r | exact wn2_n | exact Nat.le_of_ble_eq_true rfl | omega | (refine nI_z ?_ ?_ <;> omega)) only [s87_107, s87_110, s87_111, s87_112, s87_113, s87_116, s87_117, s87_119, wX_some, Option.toList_some, Option.toList_none, List.cons_append, List.nil_append, List.map_cons, List.map_nil, List.sum_cons, List.sum_nil, Value.category, wn2_i, wn2_r, wn2_n, Option.isSome_some, List.getElem?_cons_zero, List.getElem?_cons_succ, nI_add, nI_rem2, e2, if_true, hg, an, n2, iat_n]
        have hx1 : OffX h (h.set 107 (ms_ia (nb.set x (nI v)))) (fun i => i = 97 ∨ i = 107) := OffX.rf.st (Or.inr rfl)
        have hK1 : MK (h.set 107 (ms_ia (nb.set x (nI v)))) k1 u2 T m A U K L p E := by
          obtain ⟨⟨⟨sp, y1⟩, ⟨a98, a99, a100, a101, a102, a104, a105, a106, a107, a108, a109⟩, a103⟩, y2, y3, y4⟩ := hK
          exact ⟨⟨⟨sp, s_ne (by omega) y1⟩, ⟨a98.off (hx1.2 98 (by omega)), a99.off (hx1.2 99 (by omega)), a100.off (hx1.2 100 (by omega)), a101.off (hx1.2 101 (by omega)), a102.off (hx1.2 102 (by omega)), a104.off (hx1.2 104 (by omega)), a105.off (hx1.2 105 (by omega)), a106.off (hx1.2 106 (by omega)), ⟨nb.set x (nI v), s_eq (lt_of_some n1), by rw [List.length_set]; exact n2, trivial⟩, a108.off (hx1.2 108 (by omega)), a109.off (hx1.2 109 (by omega))⟩, a103.off (hx1.2 103 (by omega))⟩, s_ne (by omega) y2, y3.off (hx1.2 100 (by omega)), y4.off (hx1.2 101 (by omega))⟩
        have hN1 : AR (h.set 107 (ms_ia (nb.set x (nI v)))) 107 3 (numN (x + 1) (up1 vs x v)) := ⟨nb.set x (nI v), s_eq (lt_of_some n1), by rw [List.length_set]; exact n2, fun i hi => by
          rw [gset (by omega)]
          unfold up1
          by_cases e : x = i
          · subst e; rw [if_pos rfl, if_pos rfl]
          · rw [if_neg e, if_neg (fun q => e q.symm)]; exact n3 i (by omega)⟩
        generalize h.set 107 (ms_ia (nb.set x (nI v))) = h1 at hx1 hK1 hN1 ⊢
        have hg := fun k => g_obj (k := k) hK1.2.1
        have his := i_obj hK1.2.1
        have kk := ky ⟨c1, by rw [c2]; exact hsg⟩ _ (hK1.spot (p + 1)) (hN1.off (by rw [List.getElem?_set_ne (by omega)])) (hx1.st (Or.inl rfl))
        simp (disch := first | assumption | exact wn2_i | exact wn2_r | exact wn2_n | exact Nat.le_of_ble_eq_true rfl | omega | (refine nI_z ?_ ?_ <;> omega)) only [s87_120, s87_121, s87_122, s87_125, s87_126, s87_127, s87_130, s87_133, wX_some, Option.toList_some, Option.toList_none, List.cons_append, List.nil_append, List.map_cons, List.map_nil, List.sum_cons, List.sum_nil, Value.category, wn2_i, wn2_r, wn2_n, Option.isSome_some, List.getElem?_cons_zero, List.getElem?_cons_succ, nI_add, nI_rem2, hg, his, List.set_cons_succ, List.set_cons_zero, List.length_cons, List.length_nil, Nat.reduceAdd, Nat.reduceLT, true_and]
        exact kk
      · have e2 : (nI (chrT T m p) = nI sg) ↔ False := ⟨fun q => c2 ((nI_eq (by omega) (by omega)).mp q), False.elim⟩
        simp (disch := first | assumption | exact wn2_i | exact wn2_r | exact wn2_n | exact Nat.le_of_ble_eq_true rfl | omega | (refine nI_z ?_ ?_ <;> omega)) only [s87_107, s87_110, s87_111, wX_some, Option.toList_some, Option.toList_none, List.cons_append, List.nil_append, List.map_cons, List.map_nil, List.sum_cons, List.sum_nil, Value.category, wn2_i, wn2_r, wn2_n, Option.isSome_some, List.getElem?_cons_zero, List.getElem?_cons_succ, nI_add, nI_rem2, e2, if_false, b01', true_and]
        exact kn (fun q => c2 (by rw [hsg]; exact q.2))
    by_cases c3 : x + 1 < mn
    · have n1 : ¬ nI (mn - 1) ≤ nI x := nI_ge (by omega) (by omega)
      have := fin 44 (by omega) (by rw [if_pos c3])
      simp (disch := first | assumption | exact wn2_i | exact wn2_r | exact wn2_n | exact Nat.le_of_ble_eq_true rfl | omega | (refine nI_z ?_ ?_ <;> omega)) only [s87_73, s87_74, s87_75, s87_76, s87_79, s87_82, s87_85, s87_86, s87_87, s87_90, s87_93, s87_94, s87_95, s87_96, s87_97, s87_100, s87_102, s87_105, wX_some, Option.toList_some, Option.toList_none, List.cons_append, List.nil_append, List.map_cons, List.map_nil, List.sum_cons, List.sum_nil, Value.category, wn2_i, wn2_r, wn2_n, Option.isSome_some, List.getElem?_cons_zero, List.getElem?_cons_succ, nI_add, nI_rem2, in_rng, hr, if_true, nI_eq0, if_false, Nat.reduceEqDiff, hg, hla, e1, n1]
      exact this
    · have n1 : nI (mn - 1) ≤ nI x := nI_le (by omega) (by omega)
      have := fin 59 (by omega) (by rw [if_neg c3])
      simp (disch := first | assumption | exact wn2_i | exact wn2_r | exact wn2_n | exact Nat.le_of_ble_eq_true rfl | omega | (refine nI_z ?_ ?_ <;> omega)) only [s87_73, s87_74, s87_75, s87_76, s87_79, s87_82, s87_85, s87_86, s87_87, s87_90, s87_93, s87_94, s87_95, s87_96, s87_97, s87_100, s87_102, s87_105, wX_some, Option.toList_some, Option.toList_none, List.cons_append, List.nil_append, List.map_cons, List.map_nil, List.sum_cons, List.sum_nil, Value.category, wn2_i, wn2_r, wn2_n, Option.isSome_some, List.getElem?_cons_zero, List.getElem?_cons_succ, nI_add, nI_rem2, in_rng, hr, if_true, nI_eq0, if_false, Nat.reduceEqDiff, hg, hla, e1, n1]
      exact this
  · have hr : rng 1 2 (nI f) = false := by rw [rng_c (by omega)]; exact decide_eq_false c1
    simp (disch := first | assumption | exact wn2_i | exact wn2_r | exact wn2_n | exact Nat.le_of_ble_eq_true rfl | omega | (refine nI_z ?_ ?_ <;> omega)) only [s87_73, s87_74, s87_75, s87_76, s87_79, s87_82, s87_110, s87_111, wX_some, Option.toList_some, Option.toList_none, List.cons_append, List.nil_append, List.map_cons, List.map_nil, List.sum_cons, List.sum_nil, Value.category, wn2_i, wn2_r, wn2_n, Option.isSome_some, List.getElem?_cons_zero, List.getElem?_cons_succ, nI_add, nI_rem2, in_rng, hr, Bool.false_eq_true, if_false, nI_eq0, if_true, true_or, true_and]
    exact kn (fun q => c1 q.1)
/-- one number of those that are wanted -/
theorem num_wp (hK : MK h k1 u2 T m A U K L p E) (hm : m ≤ 200) (hp : p ≤ 800) {mn x : Nat} (hx : x < mn) (hmn : mn ≤ 3) {vs : Nat → Nat} (hN : AR h 107 3 (numN x vs)) {l3 l4 : Option Value}
    (kn : pN T m (if x + 1 < mn then 44 else 59) p = none → ∀ h1 q, MK h1 k1 u2 T m A U K L q E → OffX h h1 (fun i => i = 97 ∨ i = 107) → Q (some (.int (nI 0))) h1)
    (ky : ∀ v q, pN T m (if x + 1 < mn then 44 else 59) p = some (v, q) → ∀ h1 l3 l4, MK h1 k1 u2 T m A U K L q E → AR h1 107 3 (numN (x + 1) (up1 vs x v)) → OffX h h1 (fun i => i = 97 ∨ i = 107) → WP sc 87 2 [some (.ref 97), some (.int (nI mn)), some (.int (nI (x + 1))), l3, l4] [] h1 Q) : WP sc 87 2 [some (.ref 97), some (.int (nI mn)), some (.int (nI x)), l3, l4] [] h Q := by
  have n1 : ¬ nI mn ≤ nI x := nI_ge hx (by omega)
  obtain ⟨sg, hsg⟩ : ∃ sg, sg = (if x + 1 < mn then 44 else 59) := ⟨_, rfl⟩
  have hsgd : sg = 44 ∨ sg = 59 := by rw [hsg]; split <;> simp
  rw [← hsg] at kn ky
  have w97 : ∀ {h1 h2 : List ms_C}, OffX h1 h2 (fun i => i = 97) → OffX h1 h2 (fun i => i = 97 ∨ i = 107) := fun o => ⟨o.1, fun i hi => o.2 i (fun e => hi (Or.inl e))⟩
  rw [s87_2]
  simp (disch := first | assumption | exact wn2_i | exact wn2_r | exact wn2_n | exact Nat.le_of_ble_eq_true rfl | omega | (refine nI_z ?_ ?_ <;> omega)) only [s87_3, s87_4, s87_7, s87_8, s87_9, s87_10, wX_some, Option.toList_some, Option.toList_none, List.cons_append, List.nil_append, List.map_cons, List.map_nil, List.sum_cons, List.sum_nil, Value.category, wn2_i, wn2_r, wn2_n, Option.isSome_some, List.getElem?_cons_zero, List.getElem?_cons_succ, nI_add, nI_rem2, n1, if_false]
  cases d0 : digT T m p with
  | false =>
    have e : pN T m sg p = none := by unfold pN; rw [d0, if_neg (by decide)]
    refine dig_stop hK hm (by omega) (by omega) (Or.inl d0) ?_
    exact num_end (f := 0) (v := 0) hK hm (by omega) hx hmn hN (by omega) (fun _ => kn e h p hK OffX.rf) (fun q => by omega)
  | true =>
    refine dig_step hK hm (by omega) d0 (by omega) (fun h1 hK1 ho1 => ?_)
    have hN1 := hN.off (ho1.2 107 (by omega))
    have e0 : 10 * 0 + (chrT T m p - 48) = chrT T m p - 48 := by omega
    rw [e0]
    cases d1 : digT T m (p + 1) with
    | false =>
      have e : pN T m sg p = if chrT T m (p + 1) = sg then some (chrT T m p - 48, p + 2) else none := by
        unfold pN; rw [d0, d1, if_pos rfl, if_neg (by decide)]
      refine dig_stop hK1 hm (by omega) (by omega) (Or.inl d1) ?_
      refine num_end hK1 hm (by omega) hx hmn hN1 (by omega) (fun q => ?_) (fun q h2 hK2 hN2 ho2 => ?_)
      · refine kn (by rw [e, if_neg (fun z => q ⟨by omega, by rw [z]; exact hsg⟩)]) h1 _ hK1 (w97 ho1)
      · exact ky _ _ (by rw [e, if_pos (by rw [q.2]; exact hsg.symm)]) h2 _ _ hK2 hN2 ((w97 ho1).tr ho2)
    | true =>
      refine dig_step hK1 hm (by omega) d1 (by omega) (fun h2 hK2 ho2 => ?_)
      have hN2 := hN1.off (ho2.2 107 (by omega))
      have e : pN T m sg p = if chrT T m (p + 2) = sg then some (10 * (chrT T m p - 48) + (chrT T m (p + 1) - 48), p + 3) else none := by
        unfold pN; rw [d0, d1, if_pos rfl, if_pos rfl]
      cases d2 : digT T m (p + 2) with
      | false =>
        refine dig_stop hK2 hm (by omega) (by omega) (Or.inl d2) ?_
        refine num_end hK2 hm (by omega) hx hmn hN2 (by omega) (fun q => ?_) (fun q h3 hK3 hN3 ho3 => ?_)
        · refine kn (by rw [e, if_neg (fun z => q ⟨by omega, by rw [← hsg]; exact z⟩)]) h2 _ hK2 ((w97 ho1).tr (w97 ho2))
        · exact ky _ _ (by rw [e, if_pos (by rw [hsg]; exact q.2)]) h3 _ _ hK3 hN3 (((w97 ho1).tr (w97 ho2)).tr ho3)
      | true =>
        have e9 : pN T m sg p = none := by
          rw [e, if_neg]
          intro z
          have := of_decide_eq_true d2
          omega
        refine dig_step hK2 hm (by omega) d2 (by omega) (fun h3 hK3 ho3 => ?_)
        have hN3 := hN2.off (ho3.2 107 (by omega))
        refine dig_stop hK3 hm (by omega) (by omega) (Or.inr rfl) ?_
        exact num_end hK3 hm (by omega) hx hmn hN3 (by omega) (fun _ => kn e9 h3 _ hK3 (((w97 ho1).tr (w97 ho2)).tr (w97 ho3))) (fun q => by omega)
end M74

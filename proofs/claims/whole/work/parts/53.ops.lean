-- MayorsChair's calls: likely
def chW (A : AS) (w : Nat) : Nat → AS
  | 0 => A
  | i + 1 => nqA (chW A w i) (w.testBit i)
def pop (w : Nat) : Nat → Nat
  | 0 => 0
  | i + 1 => pop w i + if w.testBit i then 1 else 0
def trm (x n w : Nat) : Nat := x ^ pop w n * (10 - x) ^ (n - pop w n)
def abv (A : AS) (s n x : Nat) : Nat → Nat
  | 0 => 0
  | w + 1 => abv A s n x w + if chW A w n 4 2 = s + 1 then trm x n w else 0
def tot (x n : Nat) : Nat → Nat
  | 0 => 0
  | w + 1 => tot x n w + trm x n w
def op_likely (s n x p : Int32) (S : GS) : OPR := if inS S.2.1 s && rng 1 8 n && rng 0 10 x && rng 0 1 p then (if nat p = 0 then nI (abv S.2.1 (nat s) (nat n) (nat x) (2 ^ nat n) / Nat.gcd (10 ^ nat n) (abv S.2.1 (nat s) (nat n) (nat x) (2 ^ nat n))) else nI (10 ^ nat n / Nat.gcd (10 ^ nat n) (abv S.2.1 (nat s) (nat n) (nat x) (2 ^ nat n))), S) else (-1, S)
theorem abv_le {A : AS} {s n x : Nat} : ∀ w, abv A s n x w ≤ tot x n w := by
  intro w
  induction w with
  | zero => exact Nat.le_refl _
  | succ w ih =>
    unfold abv tot
    split <;> omega
theorem tot_up {x n : Nat} : ∀ {v w}, v ≤ w → tot x n v ≤ tot x n w := by
  intro v w h
  induction w with
  | zero => have : v = 0 := by omega
            subst this; exact Nat.le_refl _
  | succ w ih =>
    by_cases hv : v = w + 1
    · subst hv; exact Nat.le_refl _
    · have := ih (by omega)
      show _ ≤ tot x n w + trm x n w
      omega
theorem tot_all : ∀ n, n < 9 → ∀ x, x < 11 → tot x n (2 ^ n) = 10 ^ n := by decide +kernel
theorem ten_le {n : Nat} (h : n ≤ 8) : 0 < 10 ^ n ∧ 10 ^ n ≤ 100000000 := ⟨Nat.pow_pos (by omega), Nat.pow_le_pow_right (n := 10) (by omega) h⟩
theorem two_le {n : Nat} (h : n ≤ 8) : 2 ^ n ≤ 256 := Nat.pow_le_pow_right (n := 2) (by omega) h
theorem abv_ten {A : AS} {s n x w : Nat} (hn : n ≤ 8) (hx : x ≤ 10) (hw : w ≤ 2 ^ n) : abv A s n x w ≤ 10 ^ n := by
  have h1 := abv_le (A := A) (s := s) (n := n) (x := x) w
  have h2 := tot_up (x := x) (n := n) hw
  rw [tot_all n (by omega) x (by omega)] at h2
  omega
theorem pop_le {w : Nat} : ∀ n, pop w n ≤ n := by
  intro n
  induction n with
  | zero => exact Nat.le_refl _
  | succ n ih =>
    unfold pop
    split <;> omega
theorem shl_n : ∀ n, n < 9 → nI 1 <<< (nI n &&& 31) = nI (2 ^ n) := by decide +kernel
theorem bit_n : ∀ w, w < 256 → ∀ i, i < 8 → (nI w >>> (nI i &&& 31)) &&& nI 1 = if w.testBit i then nI 1 else nI 0 := by decide +kernel
theorem chW_ag {A : AS} {w : Nat} (h : AG A) : ∀ i, AG (chW A w i) ∧ chW A w i 7 = A 7 ∧ chW A w i 4 0 = A 4 0 + i := by
  intro i
  induction i with
  | zero => exact ⟨h, rfl, rfl⟩
  | succ i ih =>
    obtain ⟨i1, i2, i3⟩ := ih
    have h2 := nqA_s (A := chW A w i) (l := w.testBit i)
    refine ⟨nqA_ag i1, ?_, ?_⟩
    · show nqA (chW A w i) (w.testBit i) 7 = _
      rw [h2.1, i2]
    · show nqA (chW A w i) (w.testBit i) 4 0 = _
      rw [h2.2.2.2.2, i3]; omega
section CQ5
variable {sc : List Int32} {h : List ms_C} {Q : Option Value → List ms_C → Prop} {S : GS}
def bcI (x : Int32) : Int32 :=
  let a := x - ((x.toUInt32 >>> ((nI 1).toUInt32 &&& Int32.toUInt32 31)).toInt32 &&& 1431655765)
  let b := (a &&& 858993459) + ((a.toUInt32 >>> ((nI 2).toUInt32 &&& Int32.toUInt32 31)).toInt32 &&& 858993459)
  let c := (b + (b.toUInt32 >>> ((nI 4).toUInt32 &&& Int32.toUInt32 31)).toInt32) &&& 252645135
  let d := c + (c.toUInt32 >>> ((nI 8).toUInt32 &&& Int32.toUInt32 31)).toInt32
  let e := d + (d.toUInt32 >>> ((nI 16).toUInt32 &&& Int32.toUInt32 31)).toInt32
  e &&& nI 63
theorem bcI_8 : ∀ w, w < 256 → bcI (nI w) = nI (pop w 8) := by decide +kernel
theorem bitCount_wp {x : Int32} : WP sc 131 0 [some (.int x)] [] h Q ↔ Q (some (.int (bcI x))) h := by
  simp only [s131_0, s131_1, s131_2, s131_3, s131_4, s131_7, s131_8, s131_9, s131_10, s131_11, s131_14, s131_15, s131_16, s131_17, s131_18, s131_21, s131_22, s131_23, s131_24, s131_25, s131_26, s131_27, s131_28, s131_29, s131_32, s131_33, s131_34, s131_35, s131_36, s131_38, s131_39, s131_40, s131_41, s131_42, s131_43, s131_45, s131_46, s131_47, s131_48, s131_49, s131_51, s131_52]
  exact Iff.rfl
theorem pop_top {w : Nat} : ∀ n, (∀ i, n ≤ i → w.testBit i = false) → ∀ k, pop w (n + k) = pop w n := by
  intro n hn k
  induction k with
  | zero => rfl
  | succ k ih =>
    show pop w (n + k) + (if w.testBit (n + k) = true then 1 else 0) = _
    rw [ih, hn (n + k) (by omega)]
    rfl
theorem pop_8 {w n : Nat} (hn : n ≤ 8) (hw : w < 2 ^ n) : pop w 8 = pop w n := by
  have := pop_top (w := w) n (fun i hi => Nat.testBit_lt_two_pow (Nat.lt_of_lt_of_le hw (Nat.pow_le_pow_right (by omega) hi))) (8 - n)
  rw [show n + (8 - n) = 8 by omega] at this
  exact this
theorem power_wp {b n : Nat} (hn : n ≤ 100) {l2 l3 : Option Value} : WP sc 68 0 [some (.int (nI b)), some (.int (nI n)), l2, l3] [] h Q ↔ Q (some (.int (nI (b ^ n)))) h := by
  have key : ∀ i, i ≤ n → (WP sc 68 4 [some (.int (nI b)), some (.int (nI n)), some (.int (nI (b ^ i))), some (.int (nI i))] [] h Q ↔ Q (some (.int (nI (b ^ n)))) h) := by
    refine loop_up ?_ ?_
    · have hge : nI n ≤ nI n := nI_le (Nat.le_refl _) (by omega)
      rw [s68_4]
      simp (disch := first | assumption | exact wn2_i | exact wn2_r | exact wn2_n | exact Nat.le_of_ble_eq_true rfl | omega | (refine nI_z ?_ ?_ <;> omega)) only [s68_5, s68_6, s68_9, s68_10, s68_11, s68_12, s68_13, s68_16, s68_19, s68_20, wX_some, Option.toList_some, Option.toList_none, List.cons_append, List.nil_append, List.map_cons, List.map_nil, List.sum_cons, List.sum_nil, Value.category, wn2_i, wn2_r, wn2_n, Option.isSome_some, List.getElem?_cons_zero, List.getElem?_cons_succ, nI_add, nI_rem2, hge, if_true]
    · intro i hi ih
      have hge : ¬ nI n ≤ nI i := nI_ge hi (by omega)
      rw [Nat.pow_succ] at ih
      rw [s68_4]
      simp (disch := first | assumption | exact wn2_i | exact wn2_r | exact wn2_n | exact Nat.le_of_ble_eq_true rfl | omega | (refine nI_z ?_ ?_ <;> omega)) only [s68_5, s68_6, s68_9, s68_10, s68_11, s68_12, s68_13, s68_16, wX_some, Option.toList_some, Option.toList_none, List.cons_append, List.nil_append, List.map_cons, List.map_nil, List.sum_cons, List.sum_nil, Value.category, wn2_i, wn2_r, wn2_n, Option.isSome_some, List.getElem?_cons_zero, List.getElem?_cons_succ, nI_add, nI_rem2, hge, if_false, pk_mul]
      exact ih
  simp (disch := first | assumption | exact wn2_i | exact wn2_r | exact wn2_n | exact Nat.le_of_ble_eq_true rfl | omega | (refine nI_z ?_ ?_ <;> omega)) only [s68_0, s68_1, s68_2, s68_3, wX_some, Option.toList_some, Option.toList_none, List.cons_append, List.nil_append, List.map_cons, List.map_nil, List.sum_cons, List.sum_nil, Value.category, wn2_i, wn2_r, wn2_n, Option.isSome_some, List.getElem?_cons_zero, List.getElem?_cons_succ, nI_add, nI_rem2]
  have := key 0 (by omega)
  rw [Nat.pow_zero] at this
  exact this
theorem gcd_wp {a b : Nat} (ha : a ≤ 100000000) (hb : b ≤ 100000000) {l2 l3 l4 l5 : Option Value} : WP sc 69 0 [some (.int (nI a)), some (.int (nI b)), l2, l3, l4, l5] [] h Q ↔ Q (some (.int (nI (Nat.gcd a b)))) h := by
  have key : ∀ f c d r l5, r + 2 * f + 1 ≤ 100 → d < 2 ^ f → c ≤ 100000000 → d ≤ 100000000 → (WP sc 69 7 [some (.int (nI a)), some (.int (nI b)), some (.int (nI c)), some (.int (nI d)), some (.int (nI r)), l5] [] h Q ↔ Q (some (.int (nI (Nat.gcd c d)))) h) := by
    intro f
    induction f with
    | zero =>
      intro c d r l5 hr hd hc hdd
      have h0 : d = 0 := by omega
      subst h0
      have hge : ¬ nI 100 ≤ nI r := nI_ge (by omega) (by omega)
      have e0 : nI 0 = 0 := nI_0
      rw [s69_7]
      simp (disch := first | assumption | exact wn2_i | exact wn2_r | exact wn2_n | exact Nat.le_of_ble_eq_true rfl | omega | (refine nI_z ?_ ?_ <;> omega)) only [s69_9, s69_11, s69_14, s69_15, s69_34, s69_35, wX_some, Option.toList_some, Option.toList_none, List.cons_append, List.nil_append, List.map_cons, List.map_nil, List.sum_cons, List.sum_nil, Value.category, wn2_i, wn2_r, wn2_n, Option.isSome_some, List.getElem?_cons_zero, List.getElem?_cons_succ, nI_add, nI_rem2, hge, if_false, nI_eq0, if_true, Nat.gcd_zero_right]
    | succ f ih =>
      intro c d r l5 hr hd hc hdd
      have hge : ¬ nI 100 ≤ nI r := nI_ge (by omega) (by omega)
      by_cases h0 : d = 0
      · subst h0
        rw [s69_7]
        simp (disch := first | assumption | exact wn2_i | exact wn2_r | exact wn2_n | exact Nat.le_of_ble_eq_true rfl | omega | (refine nI_z ?_ ?_ <;> omega)) only [s69_9, s69_11, s69_14, s69_15, s69_34, s69_35, wX_some, Option.toList_some, Option.toList_none, List.cons_append, List.nil_append, List.map_cons, List.map_nil, List.sum_cons, List.sum_nil, Value.category, wn2_i, wn2_r, wn2_n, Option.isSome_some, List.getElem?_cons_zero, List.getElem?_cons_succ, nI_add, nI_rem2, hge, if_false, nI_eq0, if_true, Nat.gcd_zero_right]
      · have hd0 : 0 < d := by omega
        have e1 : (nI d = 0) ↔ False := ⟨fun e => h0 ((nI_eq0 (by omega)).mp e), False.elim⟩
        have z1 : ¬ nI d = 0 := nI_z hd0 (by omega)
        have hr1 : nI c - nI c / nI d * nI d = nI (c % d) := nI_rem (by omega) hd0 (by omega)
        have hlt : c % d < d := Nat.mod_lt _ hd0
        rw [s69_7]
        simp (disch := first | assumption | exact wn2_i | exact wn2_r | exact wn2_n | exact Nat.le_of_ble_eq_true rfl | omega | (refine nI_z ?_ ?_ <;> omega)) only [s69_9, s69_11, s69_14, s69_15, s69_18, s69_19, s69_20, s69_21, s69_23, s69_24, s69_25, s69_27, s69_28, s69_31, wX_some, Option.toList_some, Option.toList_none, List.cons_append, List.nil_append, List.map_cons, List.map_nil, List.sum_cons, List.sum_nil, Value.category, wn2_i, wn2_r, wn2_n, Option.isSome_some, List.getElem?_cons_zero, List.getElem?_cons_succ, nI_add, nI_rem2, hge, if_false, e1, hr1]
        by_cases h2 : c % d = 0
        · have hge2 : ¬ nI 100 ≤ nI (r + 1) := nI_ge (by omega) (by omega)
          rw [h2, s69_7]
          simp (disch := first | assumption | exact wn2_i | exact wn2_r | exact wn2_n | exact Nat.le_of_ble_eq_true rfl | omega | (refine nI_z ?_ ?_ <;> omega)) only [s69_9, s69_11, s69_14, s69_15, s69_34, s69_35, wX_some, Option.toList_some, Option.toList_none, List.cons_append, List.nil_append, List.map_cons, List.map_nil, List.sum_cons, List.sum_nil, Value.category, wn2_i, wn2_r, wn2_n, Option.isSome_some, List.getElem?_cons_zero, List.getElem?_cons_succ, nI_add, nI_rem2, hge2, if_false, nI_eq0, if_true]
          have : Nat.gcd c d = d := by rw [Nat.gcd_comm, Nat.gcd_rec, h2, Nat.gcd_zero_left]
          rw [this]
        · have hge2 : ¬ nI 100 ≤ nI (r + 1) := nI_ge (by omega) (by omega)
          have e2 : (nI (c % d) = 0) ↔ False := ⟨fun e => h2 ((nI_eq0 (by omega)).mp e), False.elim⟩
          have z2 : ¬ nI (c % d) = 0 := nI_z (by omega) (by omega)
          have hr2 : nI d - nI d / nI (c % d) * nI (c % d) = nI (d % (c % d)) := nI_rem (by omega) (by omega) (by omega)
          have hlt2 : d % (c % d) < c % d := Nat.mod_lt _ (by omega)
          have hhalf : 2 * (d % (c % d)) < d := by
            have h3 := Nat.div_add_mod d (c % d)
            have h4 : 1 ≤ d / (c % d) := (Nat.one_le_div_iff (by omega)).mpr (by omega)
            have h5 : c % d ≤ c % d * (d / (c % d)) := Nat.le_mul_of_pos_right _ h4
            omega
          have h6 : d % (c % d) < 2 ^ f := by rw [Nat.pow_succ] at hd; omega
          rw [s69_7]
          simp (disch := first | assumption | exact wn2_i | exact wn2_r | exact wn2_n | exact Nat.le_of_ble_eq_true rfl | omega | (refine nI_z ?_ ?_ <;> omega)) only [s69_9, s69_11, s69_14, s69_15, s69_18, s69_19, s69_20, s69_21, s69_23, s69_24, s69_25, s69_27, s69_28, s69_31, wX_some, Option.toList_some, Option.toList_none, List.cons_append, List.nil_append, List.map_cons, List.map_nil, List.sum_cons, List.sum_nil, Value.category, wn2_i, wn2_r, wn2_n, Option.isSome_some, List.getElem?_cons_zero, List.getElem?_cons_succ, nI_add, nI_rem2, hge2, if_false, e2, hr2]
          rw [ih (c % d) (d % (c % d)) (r + 1 + 1) _ (by omega) h6 (by omega) (by omega)]
          have : Nat.gcd (c % d) (d % (c % d)) = Nat.gcd c d := by
            rw [Nat.gcd_comm c d, Nat.gcd_rec d c, Nat.gcd_rec (c % d) d]
            exact Nat.gcd_comm _ _
          rw [this]
  simp (disch := first | assumption | exact wn2_i | exact wn2_r | exact wn2_n | exact Nat.le_of_ble_eq_true rfl | omega | (refine nI_z ?_ ?_ <;> omega)) only [s69_0, s69_1, s69_2, s69_3, s69_4, s69_5, wX_some, Option.toList_some, Option.toList_none, List.cons_append, List.nil_append, List.map_cons, List.map_nil, List.sum_cons, List.sum_nil, Value.category, wn2_i, wn2_r, wn2_n, Option.isSome_some, List.getElem?_cons_zero, List.getElem?_cons_succ, nI_add, nI_rem2]
  exact key 27 a b 0 _ (by omega) (by omega) ha hb
end CQ5

-- what each call answers and does, as it is told; MayorsChair's calls: towns
abbrev OPR : Type := Int32 × GS
def CIS (h : List ms_C) (S : GS) : Prop := CI h S.1.1 S.1.2 S.2.1 S.2.2.1 S.2.2.2.1 S.2.2.2.2
def GIS (S : GS) : Prop := GI S.1.2 S.2.1 S.2.2.1 S.2.2.2.1 S.2.2.2.2
def nat (x : Int32) : Nat := x.toInt.toNat
theorem nat_nI {n : Nat} (h : n < 2 ^ 31) : nat (nI n) = n := by unfold nat; rw [nI_toInt h]; rfl
def inS (A : AS) (s : Int32) : Bool := rng 0 (A 7 0 - 1) s
def inW (A : AS) (k : Int32) : Bool := rng 0 (A 7 1 - 1) k
def op_write (x : Int32) (S : GS) : OPR := if rng 32 126 x then if S.1.2 < 200 then (nI (S.1.2 + 1), ((up1 S.1.1 S.1.2 (nat x), S.1.2 + 1), S.2)) else (-3, S) else (-1, S)
def op_wipe (S : GS) : OPR := (nI S.1.2, ((S.1.1, 0), S.2))
def op_fault (S : GS) : OPR := (fO (rdF S.1.1 S.1.2 200 emA 0).1, S)
def op_lay (S : GS) : OPR := if (rdF S.1.1 S.1.2 200 emA 0).1 = none ∧ 2 ≤ (rdF S.1.1 S.1.2 200 emA 0).2 7 0 ∧ 1 ≤ (rdF S.1.1 S.1.2 200 emA 0).2 7 1 then (nI ((rdF S.1.1 S.1.2 200 emA 0).2 7 0), (S.1, (rdF S.1.1 S.1.2 200 emA 0).2, [], [], [])) else (-2, S)
def op_street (s what : Int32) (S : GS) : OPR := if inS S.2.1 s then if what = nI 0 then (nI (S.2.1 5 (nat s)), S) else if what = nI 1 then (nI (S.2.1 0 (nat s)), S) else if what = nI 2 then (nI (S.2.1 6 (nat s)), S) else if what = nI 3 then (nI (lk S.2.1 (nat s)), S) else if what = nI 4 then (nI (S.2.1 1 (nat s)), S) else if what = nI 5 then (nI (S.2.1 2 (nat s)), S) else (-1, S) else (-1, S)
def op_work (k : Int32) (S : GS) : OPR := if inW S.2.1 k then (nI (S.2.1 3 (nat k)), S) else (-1, S)
section CTOWN
variable {sc : List Int32} {h : List ms_C} {Q : Option Value → List ms_C → Prop} {S : GS}
theorem c_write (hc : CIS h S) (hg : GIS S) {x : Int32} (k : ∀ h1, CIS h1 (op_write x S).2 → Off h h1 0 97 → Q (some (.int (op_write x S).1)) h1) : WP sc 44 0 [some (.ref 0), some (.int x)] [] h Q := by
  obtain ⟨⟨T, m⟩, A, U, K, L⟩ := S
  have lay := cLay
  have hc0 := hc
  obtain ⟨g5, i0, iS, iT, iR, iP, iK, iG, iO⟩ := CI.facts hc
  unfold op_write at k
  cases hr : rng 32 126 x with
  | false =>
    rw [hr, if_neg (by decide)] at k
    simp (disch := first | assumption | exact wn2_i | exact wn2_r | exact wn2_n | exact Nat.le_of_ble_eq_true rfl | omega | (refine nI_z ?_ ?_ <;> omega)) only [s44_0, s44_1, s44_3, s44_5, s44_8, s44_11, s44_12, s44_13, s44_14, s44_17, s44_18, s44_19, s44_22, s44_25, s44_26, s44_29, s44_32, s44_35, s44_37, wX_some, Option.toList_some, Option.toList_none, List.cons_append, List.nil_append, List.map_cons, List.map_nil, List.sum_cons, List.sum_nil, Value.category, wn2_i, wn2_r, wn2_n, Option.isSome_some, List.getElem?_cons_zero, List.getElem?_cons_succ, nI_add, nI_rem2, within_rng, hr, Bool.false_eq_true, if_false, nI_eq0, if_true]
    exact k h hc0 Off.rf
  | true =>
    rw [hr, if_pos rfl] at k
    obtain ⟨c, c1, c2, rfl⟩ := rng_nI (by omega) hr
    obtain ⟨h0, ⟨p, hs⟩, hT, ⟨B, hR⟩, hP, hK, hG, ⟨t, be, htb, hO⟩⟩ := hc
    have hcc : ((nI c).toUInt32 % 65536).toInt32 = nI c := by
      have := pk_char (nI c)
      rw [this, pk_tn (by omega)]
      congr 1
      omega
    have hm200 : m ≤ 200 := hg.1
    simp (disch := first | assumption | exact wn2_i | exact wn2_r | exact wn2_n | exact Nat.le_of_ble_eq_true rfl | omega | (refine nI_z ?_ ?_ <;> omega)) only [s44_0, s44_1, s44_3, s44_5, s44_8, s44_11, s44_12, s44_13, s44_14, s44_17, s44_18, s44_19, wX_some, Option.toList_some, Option.toList_none, List.cons_append, List.nil_append, List.map_cons, List.map_nil, List.sum_cons, List.sum_nil, Value.category, wn2_i, wn2_r, wn2_n, Option.isSome_some, List.getElem?_cons_zero, List.getElem?_cons_succ, nI_add, nI_rem2, within_rng, hr, if_true, nI_eq0, if_false, Nat.reduceEqDiff, g5, iS, hcc]
    dsimp only at k
    rw [nat_nI (by omega)] at k
    by_cases hm : m < 200
    · rw [if_pos hm] at k
      refine append_wp hs hm (by omega) (fun h1 hs1 ho1 => ?_)
      have hx : OffX h h1 (fun i => cS ≤ i ∧ i < cS + 2) := ho1.x (fun i x1 x2 => ⟨x1, x2⟩)
      have hc1 : CIS h1 ((up1 T m c, m + 1), A, U, K, L) := ⟨(ho1.2 0 (by omega)).trans h0, ⟨p, hs1⟩, hT.off ho1 (by omega), ⟨B, hR.off ho1 (by omega)⟩, hP.offX hx (fun i x1 x2 => by omega), hK.offX hx (fun i x1 x2 => by omega), hG.offX hx (fun i x1 x2 => by omega), ⟨t, be, htb, hO.offX hx (fun i x1 x2 => by omega)⟩⟩
      obtain ⟨g5', -⟩ := CI.facts hc1
      obtain ⟨l, hgs, -⟩ := hs1.facts
      simp (disch := first | assumption | exact wn2_i | exact wn2_r | exact wn2_n | exact Nat.le_of_ble_eq_true rfl | omega | (refine nI_z ?_ ?_ <;> omega)) only [s44_22, s44_25, s44_26, s44_29, s44_32, s44_35, s44_37, wX_some, Option.toList_some, Option.toList_none, List.cons_append, List.nil_append, List.map_cons, List.map_nil, List.sum_cons, List.sum_nil, Value.category, wn2_i, wn2_r, wn2_n, Option.isSome_some, List.getElem?_cons_zero, List.getElem?_cons_succ, nI_add, nI_rem2, nI_eq0, if_false, Nat.reduceEqDiff, g5', hgs]
      exact k h1 hc1 (ho1.wide (by omega) (by omega))
    · rw [if_neg hm] at k
      have hm2 : m = 200 := by omega
      subst hm2
      have hap := fun Q x => append_full (sc := sc) (Q := Q) hs (x := x)
      simp only [hap]
      simp (disch := first | assumption | exact wn2_i | exact wn2_r | exact wn2_n | exact Nat.le_of_ble_eq_true rfl | omega | (refine nI_z ?_ ?_ <;> omega)) only [s44_22, s44_25, s44_26, s44_29, s44_32, s44_35, s44_37, wX_some, Option.toList_some, Option.toList_none, List.cons_append, List.nil_append, List.map_cons, List.map_nil, List.sum_cons, List.sum_nil, Value.category, wn2_i, wn2_r, wn2_n, Option.isSome_some, List.getElem?_cons_zero, List.getElem?_cons_succ, nI_add, nI_rem2, nI_eq0, if_true]
      exact k h hc0 Off.rf
end CTOWN

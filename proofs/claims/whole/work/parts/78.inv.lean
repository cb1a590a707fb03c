-- the start holds the state; every call keeps what is so of every state
def S0 : GS := ((fun _ => 0, 0), A0, [], [], [])
theorem gis0 : GIS S0 := by
  refine ⟨Nat.zero_le _, ⟨⟨by decide, by decide⟩, ⟨by decide, by decide⟩, ?_, ?_, by decide⟩, by decide, fun B hB => (by cases hB), fun B hB => (by cases hB), Nat.zero_le _, Nat.zero_le _, Nat.zero_le _, fun q hq => (by cases hq)⟩
  · have : ∀ i, i < 5 → A0 0 i ≤ 999 ∧ A0 1 i ≤ 40 ∧ A0 5 i ≤ 3 ∧ A0 6 i ≤ 9 := by decide
    exact this
  · have : ∀ k, k < 3 → A0 3 k ≤ 40 := by decide
    exact this
def HH : List ms_C := H0 ++ H1
theorem z6 {n : Nat} (hn : n ≤ 6) : AL [0, 0, 0, 0, 0, 0] (emA 0) n := ⟨rfl, fun i hi => by
  have h6 : i < 6 := by omega
  match i, h6 with
  | 0, _ | 1, _ | 2, _ | 3, _ | 4, _ | 5, _ => rfl⟩
theorem twE_ta {h : List ms_C} {a : Nat} (e : ∀ i, i < 7 → h[a + i]? = (twE a)[i]?) : TA h a emA :=
  ⟨_, _, _, _, _, _, e 0 (by omega), ⟨e 1 (by omega), e 2 (by omega), e 3 (by omega), e 4 (by omega), e 5 (by omega), e 6 (by omega)⟩, z6 (by decide), z6 (by decide), z6 (by decide), z6 (by decide), z6 (by decide), z6 (by decide)⟩
def eqO (x y : Option ms_C) : Bool := match x, y with
  | some a, some b => @decide (a = b) (eqC a b)
  | none, none => true
  | _, _ => false
theorem eqO_ok {x y : Option ms_C} (e : eqO x y = true) : x = y := by
  unfold eqO at e
  split at e
  · rw [@of_decide_eq_true _ (_) e]
  · rfl
  · cases e
theorem hh_twE : ∀ a ∈ [10, 19, 26, 33, 40, 47, 54, 61, 68, 77, 84], ∀ i, i < 7 → HH[a + i]? = (twE a)[i]? := by
  have k : ∀ a ∈ [10, 19, 26, 33, 40, 47, 54, 61, 68, 77, 84], ∀ i, i < 7 → eqO HH[a + i]? (twE a)[i]? = true := by decide +kernel
  exact fun a ha i hi => eqO_ok (k a ha i hi)
theorem hh_twA : ∀ i, i < 7 → HH[3 + i]? = (twA 3)[i]? := by
  have k : ∀ i, i < 7 → eqO HH[3 + i]? (twA 3)[i]? = true := by decide +kernel
  exact fun i hi => eqO_ok (k i hi)
theorem hh_ta : TA HH 3 A0 := by
  refine ⟨_, _, _, _, _, _, hh_twA 0 (by omega), ⟨hh_twA 1 (by omega), hh_twA 2 (by omega), hh_twA 3 (by omega), hh_twA 4 (by omega), hh_twA 5 (by omega), hh_twA 6 (by omega)⟩, ⟨rfl, ?_⟩, ⟨rfl, ?_⟩, ⟨rfl, ?_⟩, ⟨rfl, ?_⟩, ⟨rfl, ?_⟩, ⟨rfl, ?_⟩⟩
  · show ∀ i, i < 5 → _
    decide
  · show ∀ i, i < 5 → _
    decide
  · show ∀ i, i < 5 → _
    decide
  · show ∀ i, i < 5 → _
    decide
  · show ∀ i, i < 5 → _
    decide
  · show ∀ i, i < 3 → _
    decide
theorem hh_pa {p K : Nat} (h0 : HH[p]? = some (ms_obj 1 [.ref (p + 1), .int 0])) (h1 : HH[p + 1]? = some (ms_ra ((List.range K).map fun j => some (pad p j)))) (h2 : ∀ j, j < K → pad p j ∈ [10, 19, 26, 33, 40, 47, 54, 61, 68, 77, 84]) : PA HH p K [] :=
  ⟨List.range K, ⟨List.length_range, List.nodup_range, fun j hj => List.mem_range.mp hj⟩, Nat.zero_le _, h0, h1, fun j hj => ⟨emA, twE_ta (hh_twE _ (h2 j hj))⟩, fun i A hi => by simp at hi⟩
theorem hh_cells : HH[0]? = some (ms_obj 5 MC0) ∧ HH[1]? = some (ms_obj 2 [.ref 2, .int 0, .int 0]) ∧ HH[2]? = some (ms_ca (List.replicate 200 0)) ∧ HH[17]? = some (ms_obj 1 [.ref 18, .int 0]) ∧ HH[18]? = some (ms_ra ((List.range 8).map fun j => some (pad 17 j))) ∧ HH[75]? = some (ms_obj 1 [.ref 76, .int 0]) ∧ HH[76]? = some (ms_ra ((List.range 2).map fun j => some (pad 75 j))) ∧ HH[91]? = some (ms_obj 3 [.ref 92, .ref 93, .int 0]) ∧ HH[92]? = some (ms_ia [0, 0, 0, 0, 0, 0]) ∧ HH[93]? = some (ms_ia [0, 0, 0, 0, 0, 0]) ∧ HH[94]? = some (ms_obj 0 [.ref 95, .ref 96]) ∧ HH[95]? = some (ms_ia [0, 0, 0, 0, 0, 0]) ∧ HH[96]? = some (ms_ia [0, 0, 0, 0, 0, 0]) :=
  ⟨eqO_ok (by decide +kernel), eqO_ok (by decide +kernel), eqO_ok (by decide +kernel), eqO_ok (by decide +kernel), eqO_ok (by decide +kernel), eqO_ok (by decide +kernel), eqO_ok (by decide +kernel), eqO_ok (by decide +kernel), eqO_ok (by decide +kernel), eqO_ok (by decide +kernel), eqO_ok (by decide +kernel), eqO_ok (by decide +kernel), eqO_ok (by decide +kernel)⟩
theorem hh_mod : ∀ i, i < 13 → HH[97 + i]? = H1[i]? := by
  have k : ∀ i, i < 13 → eqO HH[97 + i]? H1[i]? = true := by decide +kernel
  exact fun i hi => eqO_ok (k i hi)
theorem cis0 : CIS HH S0 := by
  obtain ⟨c0, c1, c2, c17, c18, c75, c76, c91, c92, c93, c94, c95, c96⟩ := hh_cells
  refine ⟨c0, ⟨0, _, c1, c2, rfl, Nat.zero_le _, fun i hi => absurd hi (Nat.not_lt_zero i)⟩, hh_ta, ⟨emA, twE_ta (hh_twE 10 (by decide))⟩, hh_pa c17 c18 ?_, hh_pa c75 c76 ?_, ⟨_, _, c91, c92, c93, rfl, rfl, Nat.zero_le _, fun i q hi => ?_⟩, ⟨[0, 0, 0, 0, 0, 0], [0, 0, 0, 0, 0, 0], ⟨rfl, fun i => ?_⟩, c94, c95, c96, rfl⟩⟩
  · decide
  · decide
  · have hi : ([] : List (Nat × Nat))[i]? = some q := hi
    rw [List.getElem?_nil] at hi
    cases hi
  · match i with
    | 0 | 1 | 2 | 3 | 4 | 5 => decide
    | k + 6 => simp
theorem mis0 : MIS HH S0 := by
  refine ⟨0, 0, ⟨0, hh_mod 0 (by omega)⟩, ⟨⟨_, hh_mod 1 (by omega), by decide +kernel, fun i hi => absurd hi (Nat.not_lt_zero i)⟩, ⟨_, hh_mod 2 (by omega), rfl, rfl, rfl, ?_⟩, ⟨_, hh_mod 3 (by omega), rfl, trivial⟩, ⟨_, hh_mod 4 (by omega), rfl, trivial⟩, ⟨_, hh_mod 5 (by omega), rfl, ⟨?_, ?_, rfl, rfl, rfl⟩⟩, ⟨_, hh_mod 7 (by omega), by decide +kernel, fun i B hi => ?_⟩, ⟨_, hh_mod 8 (by omega), by decide +kernel, fun i B hi => ?_⟩, ⟨_, hh_mod 9 (by omega), by decide +kernel, fun i q hi => ?_⟩, ⟨_, hh_mod 10 (by omega), rfl, trivial⟩, ⟨_, hh_mod 11 (by omega), rfl, trivial⟩, ⟨_, hh_mod 12 (by omega), rfl, trivial⟩⟩, ⟨_, hh_mod 6 (by omega), by decide +kernel, trivial⟩⟩
  · show ∀ s, s < 5 → rd0.getD (2 + s) 0 = nI (A0 5 s) ∧ rd0.getD (8 + s) 0 = nI (A0 6 s)
    decide
  · show ∀ s, s < 5 → rr0.getD s 0 = nI (A0 0 s) ∧ rr0.getD (6 + s) 0 = nI (A0 1 s) ∧ rr0.getD (12 + s) 0 = nI (A0 2 s)
    decide
  · show ∀ s, s < 3 → rr0.getD (18 + s) 0 = nI (A0 3 s)
    decide
  · have hi : ([] : List AS)[i]? = some B := hi
    rw [List.getElem?_nil] at hi
    cases hi
  · have hi : ([] : List AS)[i]? = some B := hi
    rw [List.getElem?_nil] at hi
    cases hi
  · have hi : ([] : List (Nat × Nat))[i]? = some q := hi
    rw [List.getElem?_nil] at hi
    cases hi
theorem hh_len : HH.length = 110 := by decide +kernel
-- every call keeps what is so
theorem psh_mem {K : Nat} {U : List AS} {A B : AS} (h : B ∈ psh K U A) : B ∈ U ∨ B = A := by
  unfold psh at h
  rcases List.mem_append.mp h with q | q
  · split at q
    · exact Or.inl q
    · exact Or.inl (List.mem_of_mem_drop q)
  · exact Or.inr (by simpa using q)
theorem psh_len {K : Nat} {U : List AS} {A : AS} (hK : 1 ≤ K) (h : U.length ≤ K) : (psh K U A).length ≤ K := by
  unfold psh
  split
  · simp; omega
  · simp; omega
section GIK
variable {T : Nat → Nat} {m : Nat} {A : AS} {U K : List AS} {L : List (Nat × Nat)} {S : GS}
theorem GI.act {A' : AS} (h : GI m A U K L) (hA : AG A') (hq : A' 4 0 ≤ 999) (e5 : A' 5 = A 5) (e6 : A' 6 = A 6) (e7 : A' 7 = A 7) : GI m A' (psh 8 U A) K L := by
  obtain ⟨h1, h2, h3, h4, h5, h6, h7, h8, h9⟩ := h
  refine ⟨h1, hA, hq, fun B hB => ?_, fun B hB => ?_, psh_len (by omega) h6, h7, h8, fun q hq => ?_⟩
  · rw [e5, e6, e7]
    rcases psh_mem hB with q | q
    · exact h4 B q
    · subst q; exact ⟨h2, h3, rfl, rfl, rfl⟩
  · rw [e5, e6, e7]; exact h5 B hB
  · rw [e7]; exact h9 q hq
theorem gi_write {x : Int32} (h : GIS S) : GIS (op_write x S).2 := by
  unfold op_write
  split
  · split
    · rename_i hl
      obtain ⟨h1, h2⟩ := h
      exact ⟨hl, h2⟩
    · exact h
  · exact h
theorem gi_wipe (h : GIS S) : GIS (op_wipe S).2 := ⟨Nat.zero_le _, h.2⟩
theorem gi_lay (h : GIS S) : GIS (op_lay S).2 := by
  unfold op_lay
  split
  · rename_i hc
    obtain ⟨r1, r2, r3, r4, r5, r6, r7⟩ := rdF_rg (T := S.1.1) (m := S.1.2) 200 emA 0 RG.em
    refine ⟨h.1, ⟨⟨hc.2.1, r1⟩, ⟨hc.2.2, r2⟩, fun i hi => ?_, r4, ?_⟩, ?_, fun B hB => (by cases hB), fun B hB => (by cases hB), Nat.zero_le _, Nat.zero_le _, Nat.zero_le _, fun q hq => (by cases hq)⟩
    · obtain ⟨a, b, c, d, e⟩ := r3 i hi
      dsimp only
      omega
    · dsimp only; omega
    · dsimp only; omega
  · exact h
theorem gi_pass {x : Int32} (h : GIS S) : GIS (op_pass x S).2 := by
  unfold op_pass
  split
  · split
    · exact h
    · rename_i hr hq
      have hs := lpA_s (A := S.2.1) (nat x)
      refine GI.act h (lpA_ag h.2.1 _) ?_ hs.2.2.1 hs.2.1 hs.1
      show lpA S.2.1 (nat x) 4 0 ≤ 999
      rw [hs.2.2.2.2]; omega
  · exact h
theorem gi_mud {s x : Int32} (h : GIS S) : GIS (op_mud s x S).2 := by
  unfold op_mud
  split
  · rename_i hc
    rw [Bool.and_eq_true] at hc
    split
    · exact h
    · obtain ⟨n, n1, n2, e⟩ := rng_nI (by omega) hc.2
      refine GI.act h (upA_ag1 h.2.1 ?_) h.2.2.1 rfl rfl rfl
      rw [e, nat_nI (by omega)]; exact n2
  · exact h
theorem gi_give {s t g : Int32} (h : GIS S) : GIS (op_give s t g S).2 := by
  unfold op_give
  split
  · rename_i hc
    rw [Bool.and_eq_true] at hc
    split
    · rename_i hc2
      obtain ⟨n, n1, n2, e⟩ := rng_nI (by omega) hc.2
      refine GI.act h (giveA_ag2 h.2.1 ?_) h.2.2.1 rfl rfl rfl
      rw [e, nat_nI (by omega)]
      omega
    · exact h
  · exact h
theorem gi_change {a b : Int32} (h : GIS S) : GIS (op_change a b S).2 := by
  unfold op_change
  split
  · rename_i hc
    rw [Bool.and_eq_true, Bool.and_eq_true] at hc
    obtain ⟨⟨h1, h2⟩, -⟩ := hc
    have hAG := h.2.1
    obtain ⟨⟨G1, G2⟩, ⟨G3, G4⟩, G5, G6, G7⟩ := hAG
    unfold inW at h1 h2
    obtain ⟨i, i1, i2, ei⟩ := rng_nI (by omega) h1
    obtain ⟨j, j1, j2, ej⟩ := rng_nI (by omega) h2
    refine GI.act h ⟨⟨G1, G2⟩, ⟨G3, G4⟩, G5, fun k hk => ?_, G7⟩ h.2.2.1 rfl rfl rfl
    show up1 (up1 (S.2.1 3) (nat a) (S.2.1 3 (nat b))) (nat b) (S.2.1 3 (nat a)) k ≤ 40
    have bi := G6 i (by omega)
    have bj := G6 j (by omega)
    have ea : nat a = i := by rw [ei, nat_nI (by omega)]
    have eb : nat b = j := by rw [ej, nat_nI (by omega)]
    rw [ea, eb]
    unfold up1
    split
    · exact bi
    · split
      · exact bj
      · exact G6 k hk
  · exact h
theorem gi_undo (h : GIS S) : GIS (op_undo S).2 := by
  unfold op_undo
  split
  · exact h
  · rename_i B hB
    obtain ⟨h1, h2, h3, h4, h5, h6, h7, h8, h9⟩ := h
    have hm : B ∈ S.2.2.1 := List.mem_of_getLast? hB
    obtain ⟨b1, b2, b3, b4, b5⟩ := h4 B hm
    refine ⟨h1, b1, b2, fun C hC => ?_, fun C hC => ?_, ?_, h7, h8, fun q hq => ?_⟩
    · dsimp only at hC ⊢
      rw [b3, b4, b5]; exact h4 C ((List.dropLast_sublist _).subset hC)
    · dsimp only at hC ⊢
      rw [b3, b4, b5]; exact h5 C hC
    · dsimp only
      rw [List.length_dropLast]; omega
    · dsimp only at hq ⊢
      rw [b5]; exact h9 q hq
theorem gi_seen {n s : Int32} (h : GIS S) : GIS (op_seen n s S).2 := by
  unfold op_seen
  split
  · rename_i hc
    rw [Bool.and_eq_true] at hc
    split
    · rename_i hl
      obtain ⟨h1, h2, h3, h4, h5, h6, h7, h8, h9⟩ := h
      have hAG := h2
      obtain ⟨⟨G1, G2⟩, -⟩ := hAG
      have hc2 := hc.2
      unfold inS at hc2
      obtain ⟨i, i1, i2, ei⟩ := rng_nI (by omega) hc.1
      obtain ⟨j, j1, j2, ej⟩ := rng_nI (by omega) hc2
      refine ⟨h1, h2, h3, h4, h5, h6, h7, by simp; omega, fun q hq => ?_⟩
      rcases List.mem_append.mp hq with z | z
      · exact h9 q z
      · have z : q = (nat n, nat s) := by simpa using z
        subst z
        dsimp only
        rw [ei, ej, nat_nI (by omega), nat_nI (by omega)]
        omega
    · exact h
  · exact h
theorem gi_forget (h : GIS S) : GIS (op_forget S).2 := by
  obtain ⟨h1, h2, h3, h4, h5, h6, h7, h8, h9⟩ := h
  exact ⟨h1, h2, h3, h4, h5, h6, h7, Nat.zero_le _, fun q hq => (by cases hq)⟩
theorem gi_keep (h : GIS S) : GIS (op_keep S).2 := by
  unfold op_keep
  split
  · rename_i hl
    obtain ⟨h1, h2, h3, h4, h5, h6, h7, h8, h9⟩ := h
    refine ⟨h1, h2, h3, h4, fun B hB => ?_, h6, by simp; omega, h8, h9⟩
    rcases List.mem_append.mp hB with z | z
    · exact h5 B z
    · have z : B = S.2.1 := by simpa using z
      subst z
      exact ⟨h2, h3, rfl, rfl, rfl⟩
  · exact h
theorem gi_back (h : GIS S) : GIS (op_back S).2 := by
  unfold op_back
  split
  · exact h
  · rename_i B hB
    obtain ⟨h1, h2, h3, h4, h5, h6, h7, h8, h9⟩ := h
    have hm : B ∈ S.2.2.2.1 := List.mem_of_getLast? hB
    obtain ⟨b1, b2, b3, b4, b5⟩ := h5 B hm
    refine ⟨h1, b1, b2, fun C hC => (by cases hC), fun C hC => ?_, Nat.zero_le _, ?_, h8, fun q hq => ?_⟩
    · dsimp only at hC ⊢
      rw [b3, b4, b5]; exact h5 C ((List.dropLast_sublist _).subset hC)
    · dsimp only
      rw [List.length_dropLast]; omega
    · dsimp only at hq ⊢
      rw [b5]; exact h9 q hq
end GIK

-- MayorsChair: where its cells lie, what they hold
def cS : Nat := 1
def cT : Nat := 3
def cR : Nat := 10
def cP : Nat := 17
def cK : Nat := 75
def cG : Nat := 91
def cO : Nat := 94
theorem cLay : cS = 1 ∧ cT = 3 ∧ cR = 10 ∧ cP = 17 ∧ cK = 75 ∧ cG = 91 ∧ cO = 94 := ⟨rfl, rfl, rfl, rfl, rfl, rfl, rfl⟩
abbrev MC0 : List Value := [.ref cS, .ref cT, .ref cR, .ref cP, .ref cK, .ref cG, .ref cO]
/-- the state as it is told: the text, the town, what can be undone, what is kept, what is seen -/
abbrev GS : Type := ((Nat → Nat) × Nat) × AS × List AS × List AS × List (Nat × Nat)
/-- the class's cells hold the state -/
def CI (h : List ms_C) (T : Nat → Nat) (m : Nat) (A : AS) (U K : List AS) (L : List (Nat × Nat)) : Prop :=
  h[0]? = some (ms_obj 5 MC0) ∧ (∃ p, SA h cS T m p) ∧ TA h cT A ∧ (∃ B, TA h cR B) ∧ PA h cP 8 U ∧ PA h cK 2 K ∧ GA h cG L ∧ ∃ t be, TB t ∧ OA h cO t be
/-- what is so of every state that calls come to -/
def GI (m : Nat) (A : AS) (U K : List AS) (L : List (Nat × Nat)) : Prop :=
  m ≤ 200 ∧ AG A ∧ A 4 0 ≤ 999 ∧ (∀ B ∈ U, AG B ∧ B 4 0 ≤ 999 ∧ B 5 = A 5 ∧ B 6 = A 6 ∧ B 7 = A 7) ∧ (∀ B ∈ K, AG B ∧ B 4 0 ≤ 999 ∧ B 5 = A 5 ∧ B 6 = A 6 ∧ B 7 = A 7) ∧ U.length ≤ 8 ∧ K.length ≤ 2 ∧ L.length ≤ 6 ∧ ∀ q ∈ L, (1 ≤ q.1 ∧ q.1 ≤ 40) ∧ q.2 < A 7 0
section CHAIR
variable {sc : List Int32} {h : List ms_C} {Q : Option Value → List ms_C → Prop} {T : Nat → Nat} {m : Nat} {A : AS} {U K : List AS} {L : List (Nat × Nat)}
/-- what calls on the class's own object read -/
theorem CI.facts (hc : CI h T m A U K L) : (∀ k, ms_get h 0 5 k = MC0[k]?) ∧ (ms_is h 0 5).isSome = true ∧ (ms_is h cS 2).isSome = true ∧ (ms_is h cT 4).isSome = true ∧ (ms_is h cR 4).isSome = true ∧ (ms_is h cP 1).isSome = true ∧ (ms_is h cK 1).isSome = true ∧ (ms_is h cG 3).isSome = true ∧ (ms_is h cO 0).isSome = true := by
  obtain ⟨h0, ⟨p, hs⟩, hT, ⟨B, hR⟩, hP, hK, hG, ⟨t, be, htb, hO⟩⟩ := hc
  obtain ⟨_, _, _, i1, -⟩ := hs.facts
  obtain ⟨_, _, _, _, _, _, _, _, i2, -⟩ := hT.facts
  obtain ⟨_, _, _, _, _, _, _, _, i3, -⟩ := hR.facts
  obtain ⟨js, _, _, p0, -⟩ := hP
  obtain ⟨js2, _, _, k0, -⟩ := hK
  obtain ⟨_, _, g0, -⟩ := hG
  exact ⟨g_obj h0, by rw [i_obj h0]; rfl, i1, i2, i3, by rw [i_obj p0]; rfl, by rw [i_obj k0]; rfl, by rw [i_obj g0]; rfl, by rw [i_obj hO.1]; rfl⟩
/-- what is outside the class's cells does not touch it -/
theorem CI.offX {h1 : List ms_C} {P : Nat → Prop} (hc : CI h T m A U K L) (ho : OffX h h1 P) (hd : ∀ i, i < 97 → ¬ P i) : CI h1 T m A U K L := by
  have lay := cLay
  obtain ⟨h0, ⟨p, hs⟩, hT, ⟨B, hR⟩, hP, hK, hG, ⟨t, be, htb, hO⟩⟩ := hc
  exact ⟨(ho.2 0 (hd 0 (by omega))).trans h0, ⟨p, hs.offX ho (fun i x1 x2 => hd i (by omega))⟩, hT.offX ho (fun i x1 x2 => hd i (by omega)), ⟨B, hR.offX ho (fun i x1 x2 => hd i (by omega))⟩, hP.offX ho (fun i x1 x2 => hd i (by omega)), hK.offX ho (fun i x1 x2 => hd i (by omega)), hG.offX ho (fun i x1 x2 => hd i (by omega)), ⟨t, be, htb, hO.offX ho (fun i x1 x2 => hd i (by omega))⟩⟩
/-- the trial town changed alone -/
theorem CI.trial {h1 : List ms_C} {B : AS} (hc : CI h T m A U K L) (ho : Off h h1 cR 7) (hB : TA h1 cR B) : CI h1 T m A U K L := by
  have lay := cLay
  obtain ⟨h0, ⟨p, hs⟩, hT, ⟨B', hR⟩, hP, hK, hG, ⟨t, be, htb, hO⟩⟩ := hc
  have hx : OffX h h1 (fun i => cR ≤ i ∧ i < cR + 7) := ho.x (fun i x1 x2 => ⟨x1, x2⟩)
  exact ⟨(ho.2 0 (by omega)).trans h0, ⟨p, hs.offX hx (fun i x1 x2 => by omega)⟩, hT.off ho (by omega), ⟨B, hB⟩, hP.offX hx (fun i x1 x2 => by omega), hK.offX hx (fun i x1 x2 => by omega), hG.offX hx (fun i x1 x2 => by omega), ⟨t, be, htb, hO.offX hx (fun i x1 x2 => by omega)⟩⟩
end CHAIR
/-- is a number one of lo .. hi -/
def rng (lo hi : Nat) (x : Int32) : Bool := decide ((lo : Int) ≤ x.toInt ∧ x.toInt ≤ (hi : Int))
theorem rng_nI {lo hi : Nat} {x : Int32} (hh : hi < 2 ^ 31) (h : rng lo hi x = true) : ∃ n, lo ≤ n ∧ n ≤ hi ∧ x = nI n := by
  have h := of_decide_eq_true h
  obtain ⟨j, hj, e⟩ := nI_of (x := x) (by rw [Int32.lt_iff_toInt_lt, Int32.toInt_zero]; omega)
  refine ⟨j, ?_, ?_, e⟩
  · have := h.1; rw [e, nI_toInt hj] at this; omega
  · have := h.2; rw [e, nI_toInt hj] at this; omega
section GUARD
variable {sc : List Int32} {h : List ms_C} {Q : Option Value → List ms_C → Prop}
theorem within_rng {x : Int32} {lo hi : Nat} (hl : lo < 2 ^ 31) (hh : hi < 2 ^ 31) : WP sc 43 0 [some (.int x), some (.int (nI lo)), some (.int (nI hi))] [] h Q ↔ Q (some (.int (if rng lo hi x then nI 1 else nI 0))) h := by
  rw [within_wp]
  have : (nI lo ≤ x ∧ x ≤ nI hi) ↔ (rng lo hi x = true) := by
    unfold rng
    rw [decide_eq_true_eq, Int32.le_iff_toInt_le, Int32.le_iff_toInt_le, nI_toInt hl, nI_toInt hh]
  simp only [this]
theorem hasStreet_rng {a : Nat} {A : AS} (hT : TA h a A) (h1 : 1 ≤ A 7 0) (h6 : A 7 0 ≤ 6) {x : Int32} : WP sc 26 0 [some (.ref a), some (.int x)] [] h Q ↔ Q (some (.int (if rng 0 (A 7 0 - 1) x then nI 1 else nI 0))) h := by
  rw [hasStreet_wp hT]
  have : (0 ≤ x ∧ x < nI (A 7 0)) ↔ (rng 0 (A 7 0 - 1) x = true) := by
    unfold rng
    rw [decide_eq_true_eq, Int32.le_iff_toInt_le, Int32.lt_iff_toInt_lt, nI_toInt (by omega), Int32.toInt_zero]
    omega
  simp only [this]
theorem hasWork_rng {a : Nat} {A : AS} (hT : TA h a A) (h1 : 1 ≤ A 7 1) (h6 : A 7 1 ≤ 6) {x : Int32} : WP sc 28 0 [some (.ref a), some (.int x)] [] h Q ↔ Q (some (.int (if rng 0 (A 7 1 - 1) x then nI 1 else nI 0))) h := by
  rw [hasWork_wp hT]
  have : (0 ≤ x ∧ x < nI (A 7 1)) ↔ (rng 0 (A 7 1 - 1) x = true) := by
    unfold rng
    rw [decide_eq_true_eq, Int32.le_iff_toInt_le, Int32.lt_iff_toInt_lt, nI_toInt (by omega), Int32.toInt_zero]
    omega
  simp only [this]
end GUARD

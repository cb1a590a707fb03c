-- heaps of the small machine, read and written; numbers
theorem wn2_i {x : Int32} : wn_ok (some (.int x)) = true := by simp [wn_ok]
theorem wn2_r {x : Nat} : wn_ok (some (.ref x)) = true := by simp [wn_ok]
theorem wn2_n : wn_ok none = true := by simp [wn_ok]
section HEAP
variable {h : List ms_C} {a b ci k : Nat} {c : ms_C} {fs : List Value} {l : List Int32} {q : List (Option Nat)}
theorem g_obj (hh : h[a]? = some (ms_obj ci fs)) (k : Nat) : ms_get h a ci k = fs[k]? := by simp [ms_get, hh, ms_obj]
theorem i_obj (hh : h[a]? = some (ms_obj ci fs)) : ms_is h a ci = some fs := by simp [ms_is, hh, ms_obj]
theorem a_arr (hh : h[a]? = some (ms_ia l)) : ms_arr h a = some l := by simp [ms_arr, hh, ms_ia]
theorem a_chr (hh : h[a]? = some (ms_ca l)) : ms_chr h a = some l := by simp [ms_chr, hh, ms_ca]
theorem a_row (hh : h[a]? = some (ms_ra q)) : ms_row h a = some q := by simp [ms_row, hh, ms_ra]
theorem g_ne (hn : b ≠ a) : ms_get (h.set b c) a ci k = ms_get h a ci k := by simp [ms_get, List.getElem?_set, hn]
theorem i_ne (hn : b ≠ a) : ms_is (h.set b c) a ci = ms_is h a ci := by simp [ms_is, List.getElem?_set, hn]
theorem a_ne (hn : b ≠ a) : ms_arr (h.set b c) a = ms_arr h a := by simp [ms_arr, List.getElem?_set, hn]
theorem c_ne (hn : b ≠ a) : ms_chr (h.set b c) a = ms_chr h a := by simp [ms_chr, List.getElem?_set, hn]
theorem r_ne (hn : b ≠ a) : ms_row (h.set b c) a = ms_row h a := by simp [ms_row, List.getElem?_set, hn]
theorem g_eq (hl : a < h.length) : ms_get (h.set a (ms_obj ci fs)) a ci k = fs[k]? := by simp [ms_get, List.getElem?_set, hl, ms_obj]
theorem i_eq (hl : a < h.length) : ms_is (h.set a (ms_obj ci fs)) a ci = some fs := by simp [ms_is, List.getElem?_set, hl, ms_obj]
theorem a_eq (hl : a < h.length) : ms_arr (h.set a (ms_ia l)) a = some l := by simp [ms_arr, List.getElem?_set, hl, ms_ia]
theorem lt_of_some {x : ms_C} (hh : h[a]? = some x) : a < h.length := (List.getElem?_eq_some_iff.mp hh).1
theorem s_ne {x : Option ms_C} (hn : b ≠ a) (hh : h[a]? = x) : (h.set b c)[a]? = x := by rw [List.getElem?_set_ne hn]; exact hh
theorem s_eq (hl : a < h.length) : (h.set a c)[a]? = some c := by simp [hl]
end HEAP
/-- h1 is h but for the cells a, .. of n -/
def Off (h h1 : List ms_C) (a n : Nat) : Prop := h1.length = h.length ∧ ∀ i, (i < a ∨ a + n ≤ i) → h1[i]? = h[i]?
theorem Off.rf {h : List ms_C} {a n : Nat} : Off h h a n := ⟨rfl, fun _ _ => rfl⟩
theorem Off.tr {h h1 h2 : List ms_C} {a n : Nat} (p : Off h h1 a n) (q : Off h1 h2 a n) : Off h h2 a n := ⟨q.1.trans p.1, fun i hi => (q.2 i hi).trans (p.2 i hi)⟩
theorem Off.st {h h1 : List ms_C} {a n i : Nat} {c : ms_C} (p : Off h h1 a n) (h1i : a ≤ i) (h2i : i < a + n) : Off h (h1.set i c) a n :=
  ⟨by rw [List.length_set]; exact p.1, fun j hj => by rw [List.getElem?_set_ne (by omega)]; exact p.2 j hj⟩
theorem Off.wide {h h1 : List ms_C} {a n b m : Nat} (p : Off h h1 a n) (h1i : b ≤ a) (h2i : a + n ≤ b + m) : Off h h1 b m := ⟨p.1, fun i hi => p.2 i (by omega)⟩
theorem iat_n {i n : Nat} (hi : i < n) (hn : n < 2 ^ 31) : ms_iat (nI i) n = some i := by
  unfold ms_iat
  rw [if_neg (nI_in hi hn), nI_clamp (by omega)]
theorem iat_6 {i n : Nat} (h6 : n = 6) (hi : i < 6) : ms_iat (nI i) n = some i := iat_n (by omega) (by omega)
theorem nI_sub {a b : Nat} (h : b ≤ a) : nI a - nI b = nI (a - b) := pk_sub h
theorem nI_div {a d : Nat} (ha : a < 2 ^ 31) (h0 : 0 < d) (hd : d < 2 ^ 31) : nI a / nI d = nI (a / d) := pk_div ha h0 hd
theorem nI_rem {a d : Nat} (ha : a < 2 ^ 31) (h0 : 0 < d) (hd : d < 2 ^ 31) : nI a - nI a / nI d * nI d = nI (a % d) := pk_rem ha h0 hd
theorem nI_rem2 {a d : Nat} : nI a - nI (a / d) * nI d = nI (a % d) := by
  rw [pk_mul, nI_sub (Nat.div_mul_le_self a d)]
  congr 1
  have := Nat.div_add_mod a d
  rw [Nat.mul_comm] at this
  omega
theorem nI_z {d : Nat} (h0 : 0 < d) (hd : d < 2 ^ 31) : ¬ nI d = 0 := nI_ne0 h0 hd
theorem nI_lt0 {a : Nat} (ha : a < 2 ^ 31) : (nI a < 0) ↔ False := ⟨fun h => nI_pos ha h, False.elim⟩
theorem nI_le0 {a : Nat} (ha : a < 2 ^ 31) : (0 ≤ nI a) ↔ True := ⟨fun _ => trivial, fun _ => nI_pos' ha⟩
theorem nI_eq0 {a : Nat} (ha : a < 2 ^ 31) : (nI a = 0) ↔ a = 0 := by rw [← nI_0]; exact nI_eq ha (by omega)
theorem nI_eq1 {a : Nat} (ha : a < 2 ^ 31) : (nI a = 1) ↔ a = 1 := nI_eq (b := 1) ha (by omega)
theorem nI_m1 {a : Nat} (ha : a < 2 ^ 31) : (nI a = -1) ↔ False := ⟨fun h => by have := congrArg Int32.toInt h; rw [nI_toInt ha] at this; have e : (-1 : Int32).toInt = -1 := rfl; omega, False.elim⟩
/-- max of a difference and nothing -/
theorem mx_sub {a b : Nat} (ha : a < 2 ^ 30) (hb : b < 2 ^ 30) : (if nI a - nI b < nI 0 then nI 0 else nI a - nI b) = nI (a - b) := by
  by_cases h : a < b
  · rw [if_pos (by rw [nI_0]; exact pk_sneg hb h), show a - b = 0 by omega]
  · rw [nI_sub (by omega), if_neg]
    exact nI_nlt (by omega) (by omega)
-- a town as it is told: 0 wealth, 1 mud, 2 stood, 3 what works are worth, 4 the quarter, firewood, the chair (0: none, else the street behind it), 5 kinds, 6 uses, 7 how many streets, works
abbrev AS : Type := Nat → Nat → Nat
def chI (c : Nat) : Int32 := if c = 0 then -4 else nI (c - 1)
def AL (l : List Int32) (f : Nat → Nat) (n : Nat) : Prop := l.length = 6 ∧ ∀ i, i < n → l.getD i 0 = nI (f i)
abbrev TO (a : Nat) (A : AS) : List Value := [.ref (a + 1), .ref (a + 2), .ref (a + 3), .ref (a + 4), .ref (a + 5), .ref (a + 6), .int (nI (A 7 0)), .int (nI (A 7 1)), .int (nI (A 4 0)), .int (chI (A 4 2)), .int (nI (A 4 1))]
/-- the town at the cell a holds A -/
def TA (h : List ms_C) (a : Nat) (A : AS) : Prop := ∃ kd we us di st wo : List Int32, h[a]? = some (ms_obj 4 (TO a A)) ∧ (h[a + 1]? = some (ms_ia kd) ∧ h[a + 2]? = some (ms_ia we) ∧ h[a + 3]? = some (ms_ia us) ∧ h[a + 4]? = some (ms_ia di) ∧ h[a + 5]? = some (ms_ia st) ∧ h[a + 6]? = some (ms_ia wo)) ∧
  AL kd (A 5) (A 7 0) ∧ AL we (A 0) (A 7 0) ∧ AL us (A 6) (A 7 0) ∧ AL di (A 1) (A 7 0) ∧ AL st (A 2) (A 7 0) ∧ AL wo (A 3) (A 7 1)
/-- what is so of every town that is laid -/
def AG (A : AS) : Prop := (2 ≤ A 7 0 ∧ A 7 0 ≤ 6) ∧ (1 ≤ A 7 1 ∧ A 7 1 ≤ 6) ∧ (∀ i, i < A 7 0 → A 0 i ≤ 999 ∧ A 1 i ≤ 40 ∧ A 5 i ≤ 3 ∧ A 6 i ≤ 9) ∧ (∀ k, k < A 7 1 → A 3 k ≤ 40) ∧ A 4 2 ≤ A 7 0
def up1 (f : Nat → Nat) (i v : Nat) : Nat → Nat := fun j => if j = i then v else f j
def up2 (A : AS) (c i v : Nat) : AS := fun d => if d = c then up1 (A c) i v else A d
theorem up1_eq {f : Nat → Nat} {i v : Nat} : up1 f i v i = v := by simp [up1]
theorem up1_ne {f : Nat → Nat} {i j v : Nat} (h : j ≠ i) : up1 f i v j = f j := by simp [up1, h]
theorem AL.put {l : List Int32} {f : Nat → Nat} {n i v : Nat} (h : AL l f n) (hi : i < 6) : AL (l.set i (nI v)) (up1 f i v) n := by
  refine ⟨by simpa using h.1, fun j hj => ?_⟩
  by_cases hij : j = i
  · subst hij
    rw [up1_eq]
    simp [List.getD_eq_getElem?_getD, h.1, hi]
  · rw [up1_ne hij]
    simp [List.getD_eq_getElem?_getD, List.getElem?_set, Ne.symm hij]
    rw [← List.getD_eq_getElem?_getD]
    exact h.2 j hj
theorem AL.to {l : List Int32} {f g : Nat → Nat} {n m : Nat} (h : AL l f n) (hm : m ≤ n) (hg : ∀ i, i < m → f i = g i) : AL l g m := ⟨h.1, fun i hi => by rw [h.2 i (by omega), hg i hi]⟩
/-- one array of a town put anew -/
theorem TA.arr {h : List ms_C} {a : Nat} {A : AS} (hT : TA h a A) {d : Nat} (hd : d < 6) {l : List Int32} {f : Nat → Nat} (hl : AL l f (if d = 5 then A 7 1 else A 7 0)) : TA (h.set (a + 1 + d) (ms_ia l)) a (fun c => if c = (match d with | 0 => 5 | 1 => 0 | 2 => 6 | 3 => 1 | 4 => 2 | _ => 3) then f else A c) := by
  obtain ⟨kd, we, us, di, st, wo, h0, ⟨h1, h2, h3, h4, h5, h6⟩, g1, g2, g3, g4, g5, g6⟩ := hT
  match d, hd with
  | 0, _ => exact ⟨l, we, us, di, st, wo, s_ne (by omega) h0, ⟨s_eq (lt_of_some h1), s_ne (by omega) h2, s_ne (by omega) h3, s_ne (by omega) h4, s_ne (by omega) h5, s_ne (by omega) h6⟩, hl, g2, g3, g4, g5, g6⟩
  | 1, _ => exact ⟨kd, l, us, di, st, wo, s_ne (by omega) h0, ⟨s_ne (by omega) h1, s_eq (lt_of_some h2), s_ne (by omega) h3, s_ne (by omega) h4, s_ne (by omega) h5, s_ne (by omega) h6⟩, g1, hl, g3, g4, g5, g6⟩
  | 2, _ => exact ⟨kd, we, l, di, st, wo, s_ne (by omega) h0, ⟨s_ne (by omega) h1, s_ne (by omega) h2, s_eq (lt_of_some h3), s_ne (by omega) h4, s_ne (by omega) h5, s_ne (by omega) h6⟩, g1, g2, hl, g4, g5, g6⟩
  | 3, _ => exact ⟨kd, we, us, l, st, wo, s_ne (by omega) h0, ⟨s_ne (by omega) h1, s_ne (by omega) h2, s_ne (by omega) h3, s_eq (lt_of_some h4), s_ne (by omega) h5, s_ne (by omega) h6⟩, g1, g2, g3, hl, g5, g6⟩
  | 4, _ => exact ⟨kd, we, us, di, l, wo, s_ne (by omega) h0, ⟨s_ne (by omega) h1, s_ne (by omega) h2, s_ne (by omega) h3, s_ne (by omega) h4, s_eq (lt_of_some h5), s_ne (by omega) h6⟩, g1, g2, g3, g4, hl, g6⟩
  | 5, _ => exact ⟨kd, we, us, di, st, l, s_ne (by omega) h0, ⟨s_ne (by omega) h1, s_ne (by omega) h2, s_ne (by omega) h3, s_ne (by omega) h4, s_ne (by omega) h5, s_eq (lt_of_some h6)⟩, g1, g2, g3, g4, g5, hl⟩
/-- the town's numbers put anew -/
theorem TA.num {h : List ms_C} {a : Nat} {A B : AS} (hT : TA h a A) (hB : ∀ c, c ≠ 4 → B c = A c) : TA (h.set a (ms_obj 4 (TO a B))) a B := by
  obtain ⟨kd, we, us, di, st, wo, h0, ⟨h1, h2, h3, h4, h5, h6⟩, g1, g2, g3, g4, g5, g6⟩ := hT
  refine ⟨kd, we, us, di, st, wo, s_eq (lt_of_some h0), ⟨s_ne (by omega) h1, s_ne (by omega) h2, s_ne (by omega) h3, s_ne (by omega) h4, s_ne (by omega) h5, s_ne (by omega) h6⟩, ?_⟩
  rw [hB 5 (by omega), hB 7 (by omega), hB 0 (by omega), hB 6 (by omega), hB 1 (by omega), hB 2 (by omega), hB 3 (by omega)]
  exact ⟨g1, g2, g3, g4, g5, g6⟩
/-- what is outside the town's cells does not touch it -/
theorem TA.off {h h1 : List ms_C} {a b n : Nat} {A : AS} (hT : TA h a A) (ho : Off h h1 b n) (hd : a + 7 ≤ b ∨ b + n ≤ a) : TA h1 a A := by
  obtain ⟨kd, we, us, di, st, wo, h0, ⟨h1', h2, h3, h4, h5, h6⟩, g⟩ := hT
  have k : ∀ i, a ≤ i → i < a + 7 → h1[i]? = h[i]? := fun i h1 h2 => ho.2 i (by omega)
  exact ⟨kd, we, us, di, st, wo, by rw [k a (by omega) (by omega)]; exact h0, ⟨by rw [k _ (by omega) (by omega)]; exact h1', by rw [k _ (by omega) (by omega)]; exact h2, by rw [k _ (by omega) (by omega)]; exact h3, by rw [k _ (by omega) (by omega)]; exact h4, by rw [k _ (by omega) (by omega)]; exact h5, by rw [k _ (by omega) (by omega)]; exact h6⟩, g⟩
/-- how poor a street looks -/
def lkK (k w : Nat) : Nat := if k = 1 then w + 5 else if k = 2 then w - 5 else if k = 3 then w / 2 else w
def lk (A : AS) (s : Nat) : Nat := lkK (A 5 s) (A 0 s) - A 1 s
theorem loop_up {P : Nat → Prop} {n : Nat} (hn : P n) (hs : ∀ i, i < n → P (i + 1) → P i) : ∀ i, i ≤ n → P i := by
  have key : ∀ d i, i + d = n → P i := by
    intro d
    induction d with
    | zero => intro i hi; have : i = n := by omega
              subst this; exact hn
    | succ d ih => intro i hi; exact hs i (by omega) (ih (i + 1) (by omega))
  intro i hi
  exact key (n - i) i (by omega)
/-- of a run there is one end: what it comes to is said by that end -/
theorem wp_iff {sc : List Int32} {y pc : Nat} {L : List (Option Value)} {S : List Value} {h h' : List ms_C} {r : Option Value} (k : WP sc y pc L S h (fun r1 h1 => r1 = r ∧ h1 = h')) (Q : Option Value → List ms_C → Prop) : WP sc y pc L S h Q ↔ Q r h' := by
  obtain ⟨f, r1, h1, e, rfl, rfl⟩ := k
  constructor
  · rintro ⟨g, r2, h2, e2, q⟩
    have e3 := ms_run_up f (max f g) _ _ _ _ _ _ (Nat.le_max_left _ _) e
    have e4 := ms_run_up g (max f g) _ _ _ _ _ _ (Nat.le_max_right _ _) e2
    rw [e3] at e4
    cases e4
    exact q
  · intro q
    exact ⟨f, r1, h1, e, q⟩
theorem wp_mono {sc : List Int32} {y pc : Nat} {L : List (Option Value)} {S : List Value} {h : List ms_C} {Q Q' : Option Value → List ms_C → Prop} (k : WP sc y pc L S h Q) (i : ∀ r h1, Q r h1 → Q' r h1) : WP sc y pc L S h Q' := by
  obtain ⟨f, r1, h1, e, q⟩ := k
  exact ⟨f, r1, h1, e, i _ _ q⟩
-- the poorest of the first i streets but one, the lowest
def pst (A : AS) (but : Nat) : Nat → Option Nat
  | 0 => none
  | i + 1 => if i = but then pst A but i else match pst A but i with
    | none => some i
    | some p => if lk A i < lk A p then some i else some p
def pI (o : Option Nat) : Int32 := match o with
  | none => -1
  | some p => nI p
def lkO (A : AS) (o : Option Nat) : Nat := match o with
  | none => 0
  | some p => lk A p
def prn (A : AS) (but : Nat) : Nat := (pst A but (A 7 0)).getD 0
theorem pst_lt {A : AS} {but : Nat} : ∀ i p, pst A but i = some p → p < i ∧ p ≠ but := by
  intro i
  induction i with
  | zero => intro p h; cases h
  | succ i ih =>
    intro p h
    unfold pst at h
    split at h
    · have := ih p h; omega
    · split at h
      · cases h; omega
      · rename_i q hq
        split at h
        · cases h; omega
        · cases h; have := ih _ hq; omega
theorem pst_some {A : AS} {but : Nat} : ∀ i, (∃ j, j < i ∧ j ≠ but) → ∃ p, pst A but i = some p := by
  intro i
  induction i with
  | zero => rintro ⟨j, hj, -⟩; omega
  | succ i ih =>
    rintro ⟨j, hj, hb⟩
    unfold pst
    by_cases hi : i = but
    · rw [if_pos hi]
      exact ih ⟨j, by omega, hb⟩
    · rw [if_neg hi]
      cases pst A but i with
      | none => exact ⟨i, rfl⟩
      | some p => dsimp only; split <;> exact ⟨_, rfl⟩
theorem prn_some {A : AS} {but : Nat} (h2 : 2 ≤ A 7 0) : pst A but (A 7 0) = some (prn A but) := by
  obtain ⟨p, hp⟩ := pst_some (A := A) (but := but) (A 7 0) (by
    by_cases h : but = 0
    · exact ⟨1, by omega, by omega⟩
    · exact ⟨0, by omega, fun e => h e.symm⟩)
  unfold prn
  rw [hp]
  rfl
theorem prn_lt {A : AS} {but : Nat} (h2 : 2 ≤ A 7 0) : prn A but < A 7 0 := (pst_lt _ _ (prn_some h2)).1
theorem lk_le {A : AS} {s : Nat} : lk A s ≤ A 0 s + 5 := by
  unfold lk lkK
  split
  · omega
  · split
    · omega
    · split <;> omega
def mnW (A : AS) : Nat → Nat
  | 0 => A 0 0
  | k + 1 => if A 0 (k + 1) < mnW A k then A 0 (k + 1) else mnW A k
def mxW (A : AS) : Nat → Nat
  | 0 => A 0 0
  | k + 1 => if mxW A k < A 0 (k + 1) then A 0 (k + 1) else mxW A k
def smW (A : AS) : Nat → Nat
  | 0 => 0
  | k + 1 => smW A k + A 0 k
theorem mnW_le {A : AS} {B n : Nat} (h : ∀ i, i < n → A 0 i ≤ B) : ∀ k, k < n → mnW A k ≤ B := by
  intro k
  induction k with
  | zero => intro hk; exact h 0 hk
  | succ k ih =>
    intro hk
    unfold mnW
    split
    · exact h _ hk
    · exact ih (by omega)
theorem mxW_le {A : AS} {B n : Nat} (h : ∀ i, i < n → A 0 i ≤ B) : ∀ k, k < n → mxW A k ≤ B := by
  intro k
  induction k with
  | zero => intro hk; exact h 0 hk
  | succ k ih =>
    intro hk
    unfold mxW
    split
    · exact h _ hk
    · exact ih (by omega)

theorem TA.facts {h : List ms_C} {a : Nat} {A : AS} (hT : TA h a A) : ∃ kd we us di st wo : List Int32, (∀ k, ms_get h a 4 k = (TO a A)[k]?) ∧ ms_is h a 4 = some (TO a A) ∧ (ms_is h a 4).isSome = true ∧ ms_arr h (a + 1) = some kd ∧ ms_arr h (a + 2) = some we ∧ ms_arr h (a + 3) = some us ∧ ms_arr h (a + 4) = some di ∧ ms_arr h (a + 5) = some st ∧ ms_arr h (a + 6) = some wo ∧
    kd.length = 6 ∧ we.length = 6 ∧ us.length = 6 ∧ di.length = 6 ∧ st.length = 6 ∧ wo.length = 6 ∧ AL kd (A 5) (A 7 0) ∧ AL we (A 0) (A 7 0) ∧ AL us (A 6) (A 7 0) ∧ AL di (A 1) (A 7 0) ∧ AL st (A 2) (A 7 0) ∧ AL wo (A 3) (A 7 1) ∧ a + 7 ≤ h.length := by
  obtain ⟨kd, we, us, di, st, wo, h0, ⟨h1, h2, h3, h4, h5, h6⟩, g1, g2, g3, g4, g5, g6⟩ := hT
  have hi := i_obj h0
  have := lt_of_some h6
  exact ⟨kd, we, us, di, st, wo, g_obj h0, hi, by rw [hi]; rfl, a_arr h1, a_arr h2, a_arr h3, a_arr h4, a_arr h5, a_arr h6, g1.1, g2.1, g3.1, g4.1, g5.1, g6.1, g1, g2, g3, g4, g5, g6, by omega⟩
theorem TO_wood {a v : Nat} {A : AS} : (TO a A).set 10 (.int (nI v)) = TO a (up2 A 4 1 v) := rfl
theorem TO_q {a v : Nat} {A : AS} : (TO a A).set 8 (.int (nI v)) = TO a (up2 A 4 0 v) := rfl
theorem TO_ch {a p : Nat} {A : AS} : (TO a A).set 9 (.int (nI p)) = TO a (up2 A 4 2 (p + 1)) := rfl
theorem TO_len {a : Nat} {A : AS} : (TO a A).length = 11 := rfl
theorem TA.up {h : List ms_C} {a : Nat} {A : AS} {i v : Nat} (hT : TA h a A) : TA (h.set a (ms_obj 4 (TO a (up2 A 4 i v)))) a (up2 A 4 i v) := hT.num (fun c hc => by simp [up2, hc])
/-- a quarter as it is told -/
def cap (x : Nat) : Nat := if 999 < x then 999 else x
def decA (A : AS) : AS := fun c => if c = 0 then fun i => A 0 i - A 6 i else A c
def valA (A : AS) (p : Nat) : Nat := if A 5 p = 3 then A 3 (A 4 0 % A 7 1) / 2 else A 3 (A 4 0 % A 7 1)
def gotA (A : AS) (p : Nat) : AS := if A 0 p = 0 then up2 A 4 1 (A 4 1 + 1) else up2 A 0 p (cap (A 0 p + valA A p))
def stdA (A : AS) (p : Nat) : AS := up2 (up2 (up2 (gotA A p) 1 p 0) 2 p (A 2 p + 1)) 4 2 (p + 1)
def whoA (A : AS) (lost : Bool) : Nat := if lost then prn (decA A) (prn (decA A) 6) else prn (decA A) 6
def nqA (A : AS) (lost : Bool) : AS := up2 (stdA (decA A) (whoA A lost)) 4 0 (A 4 0 + 1)
def lpA (A : AS) : Nat → AS
  | 0 => A
  | k + 1 => nqA (lpA A k) false
theorem gotA_2 {A : AS} {p : Nat} : gotA A p 2 = A 2 := by unfold gotA; split <;> rfl
theorem gotA_7 {A : AS} {p : Nat} : gotA A p 7 = A 7 := by unfold gotA; split <;> rfl
theorem gotA_1 {A : AS} {p : Nat} : gotA A p 1 = A 1 := by unfold gotA; split <;> rfl
theorem gotA_3 {A : AS} {p : Nat} : gotA A p 3 = A 3 := by unfold gotA; split <;> rfl
theorem gotA_5 {A : AS} {p : Nat} : gotA A p 5 = A 5 := by unfold gotA; split <;> rfl
theorem gotA_6 {A : AS} {p : Nat} : gotA A p 6 = A 6 := by unfold gotA; split <;> rfl
theorem gotA_40 {A : AS} {p : Nat} : gotA A p 4 0 = A 4 0 := by unfold gotA; split <;> rfl
theorem gotA_42 {A : AS} {p : Nat} : gotA A p 4 2 = A 4 2 := by unfold gotA; split <;> rfl
theorem nqA_s {A : AS} {l : Bool} : nqA A l 7 = A 7 ∧ nqA A l 6 = A 6 ∧ nqA A l 5 = A 5 ∧ nqA A l 3 = A 3 ∧ nqA A l 4 0 = A 4 0 + 1 := by
  refine ⟨?_, ?_, ?_, ?_, rfl⟩
  · show gotA _ _ 7 = _; rw [gotA_7]; rfl
  · show gotA _ _ 6 = _; rw [gotA_6]; rfl
  · show gotA _ _ 5 = _; rw [gotA_5]; rfl
  · show gotA _ _ 3 = _; rw [gotA_3]; rfl
theorem cap_le {x : Nat} : cap x ≤ 999 := by unfold cap; split <;> omega
theorem decA_ag {A : AS} (h : AG A) : AG (decA A) := by
  obtain ⟨h1, h2, h3, h4, h5⟩ := h
  refine ⟨h1, h2, fun i hi => ?_, h4, h5⟩
  have := h3 i hi
  exact ⟨by show A 0 i - A 6 i ≤ 999; omega, this.2⟩
theorem gotA_ag {A : AS} {p : Nat} (h : AG A) : AG (gotA A p) := by
  unfold gotA
  split
  · exact h
  · obtain ⟨h1, h2, h3, h4, h5⟩ := h
    refine ⟨h1, h2, fun i hi => ⟨?_, (h3 i hi).2⟩, h4, h5⟩
    show up1 (A 0) p _ i ≤ 999
    unfold up1
    split
    · exact cap_le
    · exact (h3 i hi).1
theorem stdA_ag {A : AS} {p : Nat} (h : AG A) (hp : p < A 7 0) : AG (stdA A p) := by
  have hg := gotA_ag (p := p) h
  obtain ⟨h1, h2, h3, h4, h5⟩ := hg
  refine ⟨h1, h2, fun i hi => ⟨(h3 i hi).1, ?_, (h3 i hi).2.2⟩, h4, ?_⟩
  · show up1 (gotA A p 1) p 0 i ≤ 40
    unfold up1
    split
    · omega
    · exact (h3 i hi).2.1
  · show p + 1 ≤ gotA A p 7 0
    rw [gotA_7]; omega
theorem whoA_lt {A : AS} {l : Bool} (h : AG A) : whoA A l < A 7 0 := by
  have h2 : 2 ≤ decA A 7 0 := h.1.1
  unfold whoA
  split
  · exact prn_lt h2
  · exact prn_lt h2
theorem nqA_ag {A : AS} {l : Bool} (h : AG A) : AG (nqA A l) := stdA_ag (decA_ag h) (whoA_lt h)
theorem lpA_ag {A : AS} (h : AG A) : ∀ k, AG (lpA A k) := by
  intro k
  induction k with
  | zero => exact h
  | succ k ih => exact nqA_ag ih
theorem lpA_s {A : AS} : ∀ k, lpA A k 7 = A 7 ∧ lpA A k 6 = A 6 ∧ lpA A k 5 = A 5 ∧ lpA A k 3 = A 3 ∧ lpA A k 4 0 = A 4 0 + k := by
  intro k
  induction k with
  | zero => exact ⟨rfl, rfl, rfl, rfl, rfl⟩
  | succ k ih =>
    have h := nqA_s (A := lpA A k) (l := false)
    obtain ⟨i1, i2, i3, i4, i5⟩ := ih
    exact ⟨h.1.trans i1, h.2.1.trans i2, h.2.2.1.trans i3, h.2.2.2.1.trans i4, by show nqA (lpA A k) false 4 0 = _; rw [h.2.2.2.2, i5]; omega⟩
def giveA (A : AS) (s t g : Nat) : AS := up2 (up2 A 0 s (A 0 s - g)) 0 t (A 0 t + g)
def sufA (A : AS) (d : Nat) : AS := if d / 8 % 4 = 0 then up2 A 1 (d % A 7 0) (d / 64 % 12) else if d / 8 % 4 = 1 then (if d % A 7 0 ≠ d / 64 % A 7 0 ∧ 1 ≤ A 0 (d % A 7 0) ∧ A 0 (d / 64 % A 7 0) < 960 then giveA A (d % A 7 0) (d / 64 % A 7 0) 1 else A) else if d / 8 % 4 = 2 then up2 A 0 (d % A 7 0) 0 else A
def emA : AS := fun _ _ => 0
theorem giveA_ag {A : AS} {s t g : Nat} (h : AG A) (ht : A 0 t < 960) (hg : g ≤ 39) : AG (giveA A s t g) := by
  obtain ⟨h1, h2, h3, h4, h5⟩ := h
  refine ⟨h1, h2, fun i hi => ⟨?_, (h3 i hi).2⟩, h4, h5⟩
  have b := (h3 i hi).1
  show up1 (up1 (A 0) s (A 0 s - g)) t (A 0 t + g) i ≤ 999
  unfold up1
  by_cases e : i = t
  · rw [if_pos e]; omega
  · rw [if_neg e]
    by_cases e2 : i = s
    · rw [if_pos e2]; subst e2; omega
    · rw [if_neg e2]; exact b
theorem giveA_ag2 {A : AS} {s t g : Nat} (h : AG A) (ht : A 0 t + g ≤ 999) : AG (giveA A s t g) := by
  obtain ⟨h1, h2, h3, h4, h5⟩ := h
  refine ⟨h1, h2, fun i hi => ⟨?_, (h3 i hi).2⟩, h4, h5⟩
  have b := (h3 i hi).1
  show up1 (up1 (A 0) s (A 0 s - g)) t (A 0 t + g) i ≤ 999
  unfold up1
  by_cases e : i = t
  · rw [if_pos e]; omega
  · rw [if_neg e]
    by_cases e2 : i = s
    · rw [if_pos e2]; subst e2; omega
    · rw [if_neg e2]; exact b
theorem upA_ag0 {A : AS} {i v : Nat} (h : AG A) (hv : v ≤ 999) : AG (up2 A 0 i v) := by
  obtain ⟨h1, h2, h3, h4, h5⟩ := h
  refine ⟨h1, h2, fun j hj => ⟨?_, (h3 j hj).2⟩, h4, h5⟩
  show up1 (A 0) i v j ≤ 999
  unfold up1
  split
  · exact hv
  · exact (h3 j hj).1
theorem upA_ag1 {A : AS} {i v : Nat} (h : AG A) (hv : v ≤ 40) : AG (up2 A 1 i v) := by
  obtain ⟨h1, h2, h3, h4, h5⟩ := h
  refine ⟨h1, h2, fun j hj => ⟨(h3 j hj).1, ?_, (h3 j hj).2.2⟩, h4, h5⟩
  show up1 (A 1) i v j ≤ 40
  unfold up1
  split
  · exact hv
  · exact (h3 j hj).2.1
theorem sufA_ag {A : AS} {d : Nat} (h : AG A) : AG (sufA A d) := by
  unfold sufA
  split
  · exact upA_ag1 h (by omega)
  · split
    · split
      · rename_i hc; exact giveA_ag h hc.2.2 (by omega)
      · exact h
    · split
      · exact upA_ag0 h (by omega)
      · exact h
theorem sufA_s {A : AS} {d : Nat} : sufA A d 7 = A 7 ∧ sufA A d 4 = A 4 := by
  unfold sufA giveA
  split
  · exact ⟨rfl, rfl⟩
  · split
    · split <;> exact ⟨rfl, rfl⟩
    · split <;> exact ⟨rfl, rfl⟩
theorem AL.app {l : List Int32} {f : Nat → Nat} {n v : Nat} (h : AL l f n) (hn : n < 6) : AL (l.set n (nI v)) (up1 f n v) (n + 1) := by
  refine ⟨by simpa using h.1, fun j hj => ?_⟩
  by_cases hij : j = n
  · subst hij
    rw [up1_eq]
    simp [List.getD_eq_getElem?_getD, h.1, hn]
  · rw [up1_ne hij]
    simp [List.getD_eq_getElem?_getD, List.getElem?_set, Ne.symm hij]
    rw [← List.getD_eq_getElem?_getD]
    exact h.2 j (by omega)
theorem pI_m1 {v : Nat} (hv : v < 2 ^ 31) : (pI (some v) = -1) ↔ False := nI_m1 hv
/-- h1 is h but for cells that P names -/
def OffX (h h1 : List ms_C) (P : Nat → Prop) : Prop := h1.length = h.length ∧ ∀ i, ¬ P i → h1[i]? = h[i]?
theorem OffX.rf {h : List ms_C} {P : Nat → Prop} : OffX h h P := ⟨rfl, fun _ _ => rfl⟩
theorem OffX.tr {h h1 h2 : List ms_C} {P : Nat → Prop} (p : OffX h h1 P) (q : OffX h1 h2 P) : OffX h h2 P := ⟨q.1.trans p.1, fun i hi => (q.2 i hi).trans (p.2 i hi)⟩
theorem OffX.st {h h1 : List ms_C} {P : Nat → Prop} {i : Nat} {c : ms_C} (p : OffX h h1 P) (hi : P i) : OffX h (h1.set i c) P :=
  ⟨by rw [List.length_set]; exact p.1, fun j hj => by
    have hne : i ≠ j := fun e => hj (by rw [← e]; exact hi)
    rw [List.getElem?_set_ne hne]; exact p.2 j hj⟩
theorem Off.x {h h1 : List ms_C} {a n : Nat} {P : Nat → Prop} (p : Off h h1 a n) (hP : ∀ i, a ≤ i → i < a + n → P i) : OffX h h1 P :=
  ⟨p.1, fun i hi => p.2 i (by
    by_cases h1 : i < a
    · exact Or.inl h1
    · by_cases h2 : a + n ≤ i
      · exact Or.inr h2
      · exact absurd (hP i (by omega) (by omega)) hi)⟩
theorem OffX.off {h h1 : List ms_C} {a n : Nat} {P : Nat → Prop} (p : OffX h h1 P) (hP : ∀ i, P i → a ≤ i ∧ i < a + n) : Off h h1 a n := ⟨p.1, fun i hi => p.2 i (fun q => by have := hP i q; omega)⟩
theorem TA.offX {h h1 : List ms_C} {a : Nat} {A : AS} {P : Nat → Prop} (hT : TA h a A) (ho : OffX h h1 P) (hd : ∀ i, a ≤ i → i < a + 7 → ¬ P i) : TA h1 a A := by
  obtain ⟨kd, we, us, di, st, wo, h0, ⟨h1', h2, h3, h4, h5, h6⟩, g⟩ := hT
  have k : ∀ i, a ≤ i → i < a + 7 → h1[i]? = h[i]? := fun i h1 h2 => ho.2 i (hd i h1 h2)
  exact ⟨kd, we, us, di, st, wo, by rw [k a (by omega) (by omega)]; exact h0, ⟨by rw [k _ (by omega) (by omega)]; exact h1', by rw [k _ (by omega) (by omega)]; exact h2, by rw [k _ (by omega) (by omega)]; exact h3, by rw [k _ (by omega) (by omega)]; exact h4, by rw [k _ (by omega) (by omega)]; exact h5, by rw [k _ (by omega) (by omega)]; exact h6⟩, g⟩

-- the small machine's cells and values as the machine's own
def ms_tv (base b : Nat) : Value → Value
  | .ref i => .ref (base + i)
  | .float _ => .ref b
  | v => v
def ms_te (base b : Nat) (dA : Nat → ClassId) : ms_C → va_E
  | .inl o => .inr (o.1, o.2.map (ms_tv base b))
  | .inr (.inl o) => .inl (dA (if o.1 then 1 else 0), o.2.length, .inl (fun j => o.2.getD j 0))
  | .inr (.inr l) => .inl (dA 2, l.length, .inr (.inr (.inr (.inr (fun j => (l.getD j none).map (fun i => base + i))))))
def ms_ws (base b : Nat) (dA : Nat → ClassId) (h : List ms_C) : va_W := h.mapIdx fun i c => (base + i, ms_te base b dA c)
def ms_tys (dA : Nat → ClassId) : List (ClassId × FieldType) := [(dA 0, .int), (dA 1, .char), (dA 2, .object "MayorsChair$Town")]
def ms_K (D : va_G) (dA : Nat → ClassId) (U : State) : Prop := va_K D vwCl (ms_tys dA) U ∧ va_AO "MayorsChair$Town" U ∧ ∀ q ∈ ms_nel, va_Nw (.methodLinkNest (ms_cn q.1.1) q.1.2 (ms_Y q.2) "MayorsChair") U
theorem ms_ws_get {base b : Nat} {dA : Nat → ClassId} {h : List ms_C} {a : Nat} {c : ms_C} (hc : h[a]? = some c) : (ms_ws base b dA h)[a]? = some (base + a, ms_te base b dA c) := by
  simp [ms_ws, List.getElem?_mapIdx, hc]
theorem ms_ws_set {base b : Nat} {dA : Nat → ClassId} {h : List ms_C} {a : Nat} {c : ms_C} : (ms_ws base b dA h).set a (base + a, ms_te base b dA c) = ms_ws base b dA (h.set a c) := by
  simp [ms_ws, List.mapIdx_set]
theorem ms_ws_app {base b : Nat} {dA : Nat → ClassId} {h : List ms_C} {c : ms_C} : ms_ws base b dA (h ++ [c]) = ms_ws base b dA h ++ [(base + h.length, ms_te base b dA c)] := by
  simp [ms_ws, List.mapIdx_append]
theorem ms_ws_inv {base b : Nat} {dA : Nat → ClassId} {h : List ms_C} {k : Nat} {q : Nat × va_E} (hq : (ms_ws base b dA h)[k]? = some q) : q.1 = base + k ∧ k < h.length := by
  simp only [ms_ws, List.getElem?_mapIdx, Option.map_eq_some_iff] at hq
  obtain ⟨c, hc, rfl⟩ := hq
  exact ⟨rfl, (List.getElem?_eq_some_iff.mp hc).1⟩
def ms_Ad (base : Nat) : Nat → Prop := fun q => base ≤ q
theorem ms_D {base b : Nat} {dA : Nat → ClassId} {h : List ms_C} : va_D (ms_Ad base) (ms_ws base b dA h) := by
  refine ⟨fun i j p q hp hq e => ?_, fun k q hq => ?_⟩
  · have h1 := (ms_ws_inv hp).1
    have h2 := (ms_ws_inv hq).1
    omega
  · have h1 := (ms_ws_inv hq).1
    show base ≤ q.1
    omega
def ms_cs : ms_C → Nat
  | .inl o => o.2.length
  | .inr (.inl o) => o.2.length
  | .inr (.inr l) => l.length
def ms_sz (h : List ms_C) : Nat := (h.map ms_cs).sum
theorem ms_sz_app (h : List ms_C) (c : ms_C) : ms_sz (h ++ [c]) = ms_sz h + ms_cs c := by simp [ms_sz]
theorem ms_sz_set {h : List ms_C} {a : Nat} {c d : ms_C} (hc : h[a]? = some c) (e : ms_cs d = ms_cs c) : ms_sz (h.set a d) = ms_sz h := by
  induction h generalizing a with
  | nil => simp at hc
  | cons x t ih =>
    cases a with
    | zero => simp at hc; subst hc; simp [ms_sz, e]
    | succ a => simp at hc; have := ih hc; simp [ms_sz] at this ⊢; omega
/-- the small heap h is the machine's heap from base on; n0, z0: cells and slots that stood at the method's start -/
def ms_Rel (base b : Nat) (dA : Nat → ClassId) (D : va_G) (n0 z0 : Nat) (h : List ms_C) (s : State) (H : Heap) (locs : List Loc) (cells slots : Nat) : Prop :=
  H.size = base + h.length ∧ h.length = n0 + cells ∧ s.heap.size = base + n0 ∧ ms_sz h = z0 + slots ∧ va_P D vwCl (ms_ws base b dA h) H ∧ va_S (ms_Ad base) s.heap H locs
def ms_lv (base b : Nat) (ls : Array Slot) (nL : Nat) (L : List (Option Value)) : Prop :=
  ls.size = nL ∧ lv_wf ls ∧ L.length = nL ∧ ∀ (i : Nat) (v : Value), L[i]? = some (some v) → ls[i]? = some (.val (ms_tv base b v))
theorem ms_lv.has {base b : Nat} {ls : Array Slot} {nL : Nat} {L : List (Option Value)} (h : ms_lv base b ls nL L) : ∃ l, lv_has ls nL l ∧ ∀ (i : Nat) (v : Value), L[i]? = some (some v) → (i, ms_tv base b v) ∈ l := by
  refine ⟨(List.range nL).filterMap (fun i => (L[i]?.bind id).map fun v => (i, ms_tv base b v)), ⟨h.1, h.2.1, fun q hq => ?_⟩, fun i v hv => ?_⟩
  · obtain ⟨i, -, hi⟩ := List.mem_filterMap.mp hq
    rw [Option.map_eq_some_iff] at hi
    obtain ⟨v, hv, rfl⟩ := hi
    refine h.2.2.2 i v ?_
    cases hL : L[i]? with
    | none => rw [hL] at hv; cases hv
    | some o => rw [hL] at hv; cases o with
      | none => cases hv
      | some w => cases hv; rfl
  · refine List.mem_filterMap.mpr ⟨i, List.mem_range.mpr ?_, by rw [hv]; rfl⟩
    rw [← h.2.2.1]
    exact (List.getElem?_eq_some_iff.mp hv).1
theorem ms_tv_cat (base b : Nat) (v : Value) : (ms_tv base b v).category = v.category := by cases v <;> rfl
theorem ms_lv.set1 {base b : Nat} {ls' : Array Slot} {nL i : Nat} {L L' : List (Option Value)} {v : Value} {l : List (Nat × Value)} (hn : L.length = nL) (hl : ∀ (i : Nat) (v : Value), L[i]? = some (some v) → (i, ms_tv base b v) ∈ l) (hs : ms_set L i v = some L')
    (h' : lv_has ls' nL ((i, ms_tv base b v) :: l.filter (fun q => !(q.1 == i) && !(q.1 + 1 == i && q.2.category == 2)))) : ms_lv base b ls' nL L' := by
  have key : L' = L.set i (some v) ∧ i < L.length ∧ ∀ j w, i = j + 1 → L[j]? = some (some w) → ¬ w.category = 2 := by
    unfold ms_set at hs
    split at hs
    · rename_i hlt
      cases i with
      | zero => simp at hs; exact ⟨hs.symm, hlt, fun j w e => by omega⟩
      | succ k =>
        dsimp only at hs
        split at hs
        · cases hs
        · cases hs
        · rename_i hno hno2
          refine ⟨(Option.some.inj hs).symm, hlt, fun j w e hw => ?_⟩
          have : k = j := by omega
          subst this
          cases w with
          | long x => exact absurd hw (hno x)
          | double x => exact absurd hw (hno2 x)
          | _ => simp [Value.category]
    · cases hs
  obtain ⟨rfl, hlt, hk⟩ := key
  refine ⟨h'.1, h'.2.1, by simpa using hn, fun j w hw => ?_⟩
  by_cases hj : i = j
  · subst hj
    rw [List.getElem?_set_self hlt] at hw
    cases hw
    exact h'.2.2 _ List.mem_cons_self
  · rw [List.getElem?_set_ne hj] at hw
    refine h'.2.2 (j, ms_tv base b w) (List.mem_cons_of_mem _ (List.mem_filter.mpr ⟨hl j w hw, ?_⟩))
    have h1 : ¬ j = i := fun e => hj e.symm
    simp only [Bool.and_eq_true, Bool.not_eq_true', beq_eq_false_iff_ne, ne_eq, h1, not_false_eq_true, true_and, Bool.and_eq_false_iff]
    by_cases h2 : j + 1 = i
    · right
      rw [ms_tv_cat]
      exact hk j w h2.symm hw
    · exact Or.inl h2
theorem ms_lv.set2 {base b : Nat} {ls' : Array Slot} {nL i : Nat} {L L' : List (Option Value)} {v : Value} {l : List (Nat × Value)} (hn : L.length = nL) (hl : ∀ (i : Nat) (v : Value), L[i]? = some (some v) → (i, ms_tv base b v) ∈ l) (hs : ms_set2 L i v = some L')
    (h' : lv_has ls' nL ((i, ms_tv base b v) :: l.filter (fun q => !(q.1 == i) && (!(q.1 == i + 1) && !(q.1 + 1 == i && q.2.category == 2))))) : ms_lv base b ls' nL L' := by
  have key : L' = (L.set i (some v)).set (i + 1) none ∧ i + 1 < L.length ∧ ∀ j w, i = j + 1 → L[j]? = some (some w) → ¬ w.category = 2 := by
    unfold ms_set2 at hs
    split at hs
    · rename_i hlt
      cases i with
      | zero => simp at hs; exact ⟨hs.symm, hlt, fun j w e => by omega⟩
      | succ k =>
        dsimp only at hs
        split at hs
        · cases hs
        · cases hs
        · rename_i hno hno2
          refine ⟨(Option.some.inj hs).symm, hlt, fun j w e hw => ?_⟩
          have : k = j := by omega
          subst this
          cases w with
          | long x => exact absurd hw (hno x)
          | double x => exact absurd hw (hno2 x)
          | _ => simp [Value.category]
    · cases hs
  obtain ⟨rfl, hlt, hk⟩ := key
  refine ⟨h'.1, h'.2.1, by simpa using hn, fun j w hw => ?_⟩
  by_cases hj1 : i + 1 = j
  · subst hj1
    rw [List.getElem?_set_self (by simpa using hlt)] at hw
    cases hw
  · rw [List.getElem?_set_ne hj1] at hw
    by_cases hj : i = j
    · subst hj
      rw [List.getElem?_set_self (by omega)] at hw
      cases hw
      exact h'.2.2 _ List.mem_cons_self
    · rw [List.getElem?_set_ne hj] at hw
      refine h'.2.2 (j, ms_tv base b w) (List.mem_cons_of_mem _ (List.mem_filter.mpr ⟨hl j w hw, ?_⟩))
      have h1 : ¬ j = i := fun e => hj e.symm
      have h3 : ¬ j = i + 1 := fun e => hj1 e.symm
      simp only [Bool.and_eq_true, Bool.not_eq_true', beq_eq_false_iff_ne, ne_eq, h1, h3, not_false_eq_true, true_and, Bool.and_eq_false_iff]
      by_cases h2 : j + 1 = i
      · right
        rw [ms_tv_cat]
        exact hk j w h2.symm hw
      · exact Or.inl h2
theorem ms_args_len (vs : List Value) (h : ∀ v ∈ vs, ∀ x, v ≠ .double x) (base b : Nat) : (lg_sl (vs.map (ms_tv base b))).length = (ms_args vs).length := by
  induction vs with
  | nil => rfl
  | cons v vs ih =>
    have ih := ih (fun w hw => h w (List.mem_cons_of_mem _ hw))
    have hv := h v List.mem_cons_self
    cases v with
    | double x => exact absurd rfl (hv x)
    | long x => simp [lg_sl, ms_tv, Value.category, ms_args] at ih ⊢; omega
    | _ => simp [lg_sl, ms_tv, Value.category, ms_args] at ih ⊢; omega
theorem ms_args_in (vs : List Value) (base b : Nat) (hd : ∀ v ∈ vs, ∀ x, v ≠ .double x) : ∀ (k i : Nat) (v : Value), (ms_args vs)[i]? = some (some v) → (k + i, ms_tv base b v) ∈ lv_args k (vs.map (ms_tv base b)) := by
  induction vs with
  | nil => intro k i v h; simp [ms_args] at h
  | cons w vs ih =>
    have ih := ih (fun w hw => hd w (List.mem_cons_of_mem _ hw))
    have hv := hd w List.mem_cons_self
    intro k i v h
    have one : ∀ (hc : w.category = 1) (ha : ms_args (w :: vs) = some w :: ms_args vs), (k + i, ms_tv base b v) ∈ lv_args k ((w :: vs).map (ms_tv base b)) := by
      intro hc ha
      rw [ha] at h
      rw [List.map_cons, lv_args, ms_tv_cat, hc]
      cases i with
      | zero => simp at h; subst h; exact List.mem_cons_self
      | succ i =>
        simp at h
        have := ih (k + 1) i v h
        exact List.mem_cons_of_mem _ (by simpa [Nat.add_assoc, Nat.add_comm 1 i] using this)
    cases w with
    | double x => exact absurd rfl (hv x)
    | long x =>
      rw [List.map_cons, lv_args, ms_tv_cat]
      simp only [ms_args] at h
      cases i with
      | zero => simp at h; subst h; exact List.mem_cons_self
      | succ i =>
        cases i with
        | zero => simp at h
        | succ i =>
          simp at h
          have := ih (k + 2) i v h
          exact List.mem_cons_of_mem _ (by simpa [Value.category, Nat.add_assoc, Nat.add_comm 2 i] using this)
    | _ => exact one rfl rfl
theorem ms_lv.init {base b n : Nat} {vs : List Value} (hd : ∀ v ∈ vs, ∀ x, v ≠ .double x) (hn : (ms_args vs).length ≤ n) : ms_lv base b ((lg_sl (vs.map (ms_tv base b)) ++ List.replicate (n - (lg_sl (vs.map (ms_tv base b))).length) Slot.unset).toArray) n (ms_init vs n) := by
  have hl := ms_args_len vs hd base b
  have h := lv_entry (vs.map (ms_tv base b)) (n := n) (by rw [hl]; exact hn)
  refine ⟨h.1, h.2.1, by simp [ms_init]; omega, fun i v hv => ?_⟩
  refine h.2.2 (i, ms_tv base b v) ?_
  unfold ms_init at hv
  by_cases hi : i < (ms_args vs).length
  · rw [List.getElem?_append_left hi] at hv
    have := ms_args_in vs base b hd 0 i v hv
    simpa using this
  · rw [List.getElem?_append_right (by omega)] at hv
    have := List.eq_of_mem_replicate (List.mem_of_getElem? hv)
    cases this

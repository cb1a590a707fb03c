-- the same, as what the walks ask for
theorem ms_getat {α : Type} {l : List α} {i : Nat} {a : α} (h : l[i]? = some a) : a ∈ l := List.mem_of_getElem? h
theorem gd_code {z : Nat} (h : z < 132) : Cond.code (ms_Y z) (ms_B z) (ms_L z) (ms_R z) ∈ lw_good := ms_in _ ms_zcode (fun _ => rfl) z (List.mem_range.mpr h)
def ms_zb (z : Nat) : Bool := ms_il10.contains (ms_O z) && decide (ms_cn (ms_O z) = (ms_Y z).cls)
theorem ms_zball : (List.range 132).all ms_zb = true := by decide +kernel
theorem gd_cls {z : Nat} (h : z < 132) : ms_cn (ms_O z) = (ms_Y z).cls ∧ Cond.initialized (ms_Y z).cls ∈ lw_good := by
  have h1 := List.all_eq_true.mp ms_zball z (List.mem_range.mpr h)
  simp only [ms_zb, Bool.and_eq_true, decide_eq_true_eq, List.contains_eq_mem] at h1
  refine ⟨h1.2, ?_⟩
  rw [← h1.2]
  exact ms_in _ ms_zini (fun _ => rfl) _ h1.1
def ms_pb (o : Nat) : Bool := plainName (ms_cn o) && decide (ms_cn o ≠ "java/lang/invoke/MethodHandle" ∧ ms_cn o ≠ "java/lang/invoke/VarHandle")
theorem ms_pball : ((List.range 7) ++ [9]).all ms_pb = true := by decide +kernel
theorem ms_olt : (List.range 132).all (fun z => ((List.range 7) ++ [9]).contains (ms_O z)) = true := by decide +kernel
theorem gd_plain {z : Nat} (h : z < 132) : plainName (ms_Y z).cls = true ∧ ((ms_Y z).cls ≠ "java/lang/invoke/MethodHandle" ∧ (ms_Y z).cls ≠ "java/lang/invoke/VarHandle") := by
  have h0 := List.all_eq_true.mp ms_olt z (List.mem_range.mpr h)
  have h1 := List.all_eq_true.mp ms_pball _ (by simpa using h0)
  simp only [ms_pb, Bool.and_eq_true, decide_eq_true_eq] at h1
  rw [(gd_cls h).1] at h1
  exact h1
def ms_cb (q : (Nat × Nat) × Nat × Nat) : Bool := match q with
  | ((o, i), z, k) => match k with
    | 0 => decide (z < 132) && ms_mll.contains ((o, i), z) && ms_instl.contains z && ms_sell.contains z && decide (0 < ms_A z) && decide ((parseMethodDescriptor (ms_Y z).desc).map (fun d => d.parameters.length) = some (ms_A z - 1)) && decide ((vwCl[ms_O z]?).map (fun r => r.1) = some (ms_Y z).cls)
    | 1 => decide (z < 132) && ms_mll.contains ((o, i), z) && ms_stal.contains z && decide ((parseMethodDescriptor (ms_Y z).desc).map (fun d => d.parameters.length) = some (ms_A z))
    | 2 => decide (z < 132) && ms_mll.contains ((o, i), z) && ms_instl.contains z && decide ((ms_Y z).name = "<init>") && decide (ms_R z = none) && decide (0 < ms_A z) && decide ((parseMethodDescriptor (ms_Y z).desc).map (fun d => d.parameters.length) = some (ms_A z - 1))
    | 3 => decide (z < 132) && ms_nel.contains ((o, i), z) && ms_stal.contains z && decide ((parseMethodDescriptor (ms_Y z).desc).map (fun d => d.parameters.length) = some (ms_A z))
    | 4 => ms_obl.contains (o, i)
    | 5 => ms_maxl.contains (o, i)
    | 6 => ms_minl.contains (o, i)
    | _ => false
theorem ms_call_all : ms_cl.all ms_cb = true := by decide +kernel
theorem ms_cok {o i : Nat} {q : Nat × Nat} (h : ms_c o i = some q) : ms_cb ((o, i), q) = true := List.all_eq_true.mp ms_call_all _ (ms_look h)
theorem gd_inst {z : Nat} (h : ms_instl.contains z = true) : Cond.instanceMethod (ms_Y z) ∈ lw_good := ms_in _ ms_zinst (fun _ => rfl) _ (by simpa using h)
theorem gd_sta {z : Nat} (h : ms_stal.contains z = true) : Cond.static (ms_Y z) ∈ lw_good := ms_in _ ms_zsta (fun _ => rfl) _ (by simpa using h)
theorem gd_sel {z : Nat} (h : ms_sell.contains z = true) : Cond.selects (ms_Y z).cls (ms_Y z) (ms_Y z) ∈ lw_good := ms_in (f := fun z => Cond.selects (ms_Y z).cls (ms_Y z) (ms_Y z)) _ ms_zsel (fun _ => rfl) _ (by simpa using h)
theorem gd_ml {o i z : Nat} (h : ms_mll.contains ((o, i), z) = true) : Cond.methodLink (ms_cn o) i (ms_Y z) ∈ lw_good := ms_in (f := fun q : (Nat × Nat) × Nat => Cond.methodLink (ms_cn q.1.1) q.1.2 (ms_Y q.2)) _ ms_zml (fun _ => rfl) ((o, i), z) (by simpa using h)
theorem gd_ne {o i z : Nat} (h : ms_nel.contains ((o, i), z) = true) : Cond.methodLinkNest (ms_cn o) i (ms_Y z) "MayorsChair" ∈ lw_tbl := ms_inT (f := fun q : (Nat × Nat) × Nat => Cond.methodLinkNest (ms_cn q.1.1) q.1.2 (ms_Y q.2) "MayorsChair") _ ms_zne ((o, i), z) (by simpa using h)
theorem gd_max {o i : Nat} (h : ms_maxl.contains (o, i) = true) : Cond.methodLink (ms_cn o) i Lib.Math.max.name ∈ lw_good := ms_in (f := fun q : Nat × Nat => Cond.methodLink (ms_cn q.1) q.2 Lib.Math.max.name) _ ms_zmax (fun _ => rfl) (o, i) (by simpa using h)
theorem gd_min {o i : Nat} (h : ms_minl.contains (o, i) = true) : Cond.methodLink (ms_cn o) i Lib.Math.min.name ∈ lw_good := ms_in (f := fun q : Nat × Nat => Cond.methodLink (ms_cn q.1) q.2 Lib.Math.min.name) _ ms_zmin (fun _ => rfl) (o, i) (by simpa using h)
theorem gd_mm : Cond.static Lib.Math.max.name ∈ lw_good ∧ Cond.static Lib.Math.min.name ∈ lw_good ∧ Cond.initialized "java/lang/Math" ∈ lw_good ∧ Cond.code Lib.Math.max.name Lib.Math.max.code 2 (some .int) ∈ lw_good ∧ Cond.code Lib.Math.min.name Lib.Math.min.code 2 (some .int) ∈ lw_good := by
  have h := ms_zmx
  simp only [List.map_cons, List.map_nil, List.cons.injEq, and_true] at h
  obtain ⟨a, b, c, d, e⟩ := h
  exact ⟨List.mem_filter.mpr ⟨List.mem_of_getElem? a.symm, rfl⟩, List.mem_filter.mpr ⟨List.mem_of_getElem? b.symm, rfl⟩, List.mem_filter.mpr ⟨List.mem_of_getElem? c.symm, rfl⟩, List.mem_filter.mpr ⟨List.mem_of_getElem? d.symm, rfl⟩, List.mem_filter.mpr ⟨List.mem_of_getElem? e.symm, rfl⟩⟩
theorem gd_ob {o i : Nat} (h : ms_obl.contains (o, i) = true) : Cond.methodLink (ms_cn o) i Lib.objectInit ∈ lw_good := ms_in (f := fun q : Nat × Nat => Cond.methodLink (ms_cn q.1) q.2 Lib.objectInit) _ ms_zob (fun _ => rfl) (o, i) (by simpa using h)
theorem gd_oi : Cond.instanceMethod Lib.objectInit ∈ lw_good ∧ Cond.code Lib.objectInit ⟨#[0xb1]⟩ 1 none ∈ lw_good := by
  have h1 : some (Cond.instanceMethod Lib.objectInit) ∈ [some (Cond.instanceMethod Lib.objectInit), some (Cond.code Lib.objectInit ⟨#[0xb1]⟩ 1 none)] := List.mem_cons_self
  have h2 : some (Cond.code Lib.objectInit ⟨#[0xb1]⟩ 1 none) ∈ [some (Cond.instanceMethod Lib.objectInit), some (Cond.code Lib.objectInit ⟨#[0xb1]⟩ 1 none)] := List.mem_cons_of_mem _ List.mem_cons_self
  rw [ms_zoi] at h1 h2
  obtain ⟨i, -, hi⟩ := List.mem_map.mp h1
  obtain ⟨j, -, hj⟩ := List.mem_map.mp h2
  exact ⟨List.mem_filter.mpr ⟨List.mem_of_getElem? hi, rfl⟩, List.mem_filter.mpr ⟨List.mem_of_getElem? hj, rfl⟩⟩
theorem gd_ar : Cond.arrayClass .int ∈ lw_good ∧ Cond.arrayClass .char ∈ lw_good ∧ Cond.arrayOver (.object "MayorsChair$Town") ∈ lw_tbl := by
  have h := ms_zar
  simp only [List.map_cons, List.map_nil, List.cons.injEq, and_true] at h
  exact ⟨List.mem_filter.mpr ⟨List.mem_of_getElem? h.1.symm, rfl⟩, List.mem_filter.mpr ⟨List.mem_of_getElem? h.2.1.symm, rfl⟩, List.mem_of_getElem? h.2.2.symm⟩
def ms_fb (q : (Nat × Nat) × Nat × Nat) : Bool := match vwCl[q.2.1]? with
  | some r => decide (q.2.2 < r.2.2)
  | none => false
theorem ms_fall : ms_fl.all ms_fb = true := by decide +kernel
theorem gd_fl {o i ci k : Nat} (h : ms_f o i = some (ci, k)) : ∃ r : vw_C, vwCl[ci]? = some r ∧ k < r.2.2 ∧ Cond.fieldLink (ms_cn o) i (r.2.1 k).1 (r.2.1 k).2.1 (r.2.1 k).2.2.1 ∈ lw_good := by
  have h1 := List.all_eq_true.mp ms_fall _ (ms_look h)
  have h2 := ms_in (f := fun q : (Nat × Nat) × Nat × Nat => Cond.fieldLink (ms_cn q.1.1) q.1.2 (ms_fT q.2.1 q.2.2).1 (ms_fT q.2.1 q.2.2).2.1 (ms_fT q.2.1 q.2.2).2.2.1) _ ms_zfl (fun _ => rfl) _ (ms_look h)
  unfold ms_fb at h1
  dsimp only at h1 h2
  unfold ms_fT at h2
  cases hv : vwCl[ci]? with
  | none => rw [hv] at h1; cases h1
  | some r =>
    rw [hv] at h1 h2
    exact ⟨r, rfl, of_decide_eq_true h1, h2⟩
theorem gd_g {o i : Nat} {v : Int64} (h : ms_g o i = some v) : Cond.constantLong (ms_cn o) i v ∈ lw_good := ms_in (f := fun q : (Nat × Nat) × Int64 => Cond.constantLong (ms_cn q.1.1) q.1.2 q.2) _ ms_zgl (fun _ => rfl) _ (ms_look h)
theorem gd_i {o i : Nat} {v : Int32} (h : ms_i o i = some v) : Cond.constant (ms_cn o) i v ∈ lw_good := ms_in (f := fun q : (Nat × Nat) × Int32 => Cond.constant (ms_cn q.1.1) q.1.2 q.2) _ ms_zil (fun _ => rfl) _ (ms_look h)
-- the classes, one by one
theorem ms_cls {P : Nat → vw_C → Prop} (h0 : P 0 (RX0, TX0, 2)) (h1 : P 1 (RX1, TX1, 2)) (h2 : P 2 (RX2, TX2, 3)) (h3 : P 3 (RX3, TX3, 3)) (h4 : P 4 (RX4, TX4, 11)) (h5 : P 5 (RX5, TX5, 7)) (h6 : P 6 (RX6, TX6, 21)) : ∀ (ci : Nat) (q : vw_C), vwCl[ci]? = some q → P ci q := by
  intro ci q hq
  match ci, hq with
  | 0, hq => cases hq; exact h0
  | 1, hq => cases hq; exact h1
  | 2, hq => cases hq; exact h2
  | 3, hq => cases hq; exact h3
  | 4, hq => cases hq; exact h4
  | 5, hq => cases hq; exact h5
  | 6, hq => cases hq; exact h6
  | k + 7, hq => simp [vwCl] at hq
theorem ms_clsz : ∀ (ci : Nat) (q : vw_C), vwCl[ci]? = some q → ms_cn ci = q.1 ∧ ms_szs.getD ci 0 = q.2.2 ∧ ci < 7 ∧ ms_il10.contains ci = true ∧ (ms_d ci).length = q.2.2 := by
  refine ms_cls ?_ ?_ ?_ ?_ ?_ ?_ ?_ <;> decide +kernel
theorem ms_nlt : ms_nl.all (fun q => decide (q.2 < 7)) = true := by decide +kernel
theorem gd_n {o i ci : Nat} (h : ms_n o i = some ci) : ∃ q : vw_C, vwCl[ci]? = some q ∧ Cond.classLink (ms_cn o) i q.1 ∈ lw_good ∧ Cond.instantiable q.1 q.2.2 ∈ lw_good ∧ Cond.initialized q.1 ∈ lw_good ∧ (ms_d ci).length = q.2.2 := by
  have h1 := of_decide_eq_true (List.all_eq_true.mp ms_nlt _ (ms_look h))
  have h2 := ms_in (f := fun q : (Nat × Nat) × Nat => Cond.classLink (ms_cn q.1.1) q.1.2 (ms_cn q.2)) _ ms_znl (fun _ => rfl) _ (ms_look h)
  dsimp only at h1 h2
  obtain ⟨q, hq⟩ : ∃ q : vw_C, vwCl[ci]? = some q := ⟨_, List.getElem?_eq_getElem (by simpa [vwCl] using h1)⟩
  obtain ⟨e1, e2, e3, e4, e5⟩ := ms_clsz ci q hq
  refine ⟨q, hq, by rw [← e1]; exact h2, ?_, ?_, e5⟩
  · rw [← e1, ← e2]
    exact ms_in (f := fun ci => Cond.instantiable (ms_cn ci) (ms_szs.getD ci 0)) _ ms_zins (fun _ => rfl) ci (List.mem_range.mpr h1)
  · rw [← e1]
    exact ms_in _ ms_zini (fun _ => rfl) ci (by simpa using e4)
def ms_layb (q : vw_C) : Bool := (List.range q.2.2).all (fun k => decide (u_lay q.1 q.2.1 k ∈ tables_1) && goodWord (u_lay q.1 q.2.1 k))
theorem ms_uws : ∀ (ci : Nat) (q : vw_C), vwCl[ci]? = some q → ∀ w ∈ u_ws q.1 q.2.1 q.2.2, w ∈ lw_good := by
  have key : ∀ (ci : Nat) (q : vw_C), vwCl[ci]? = some q → ms_layb q = true := by
    refine ms_cls ?_ ?_ ?_ ?_ ?_ ?_ ?_ <;> decide +kernel
  intro ci q hq w hw
  obtain ⟨k, hk, rfl⟩ := List.mem_map.mp hw
  have h := List.all_eq_true.mp (key ci q hq) k hk
  simp only [Bool.and_eq_true, decide_eq_true_eq] at h
  exact List.mem_filter.mpr ⟨List.mem_append_right _ h.1, h.2⟩
def ms_ty0 (ci : Nat) : Nat → FieldType := match ci with
  | 0 => tyX0
  | 1 => tyX1
  | 2 => tyX2
  | 3 => tyX3
  | 4 => tyX4
  | 5 => tyX5
  | _ => tyX6
theorem ms_tyk : ∀ (ci : Nat) (q : vw_C), vwCl[ci]? = some q → ∀ k, k < q.2.2 → parseFieldDescriptor (q.2.1 k).2.2.1 = some (ms_ty0 ci k) :=
  ms_cls tyX0_ok tyX1_ok tyX2_ok tyX3_ok tyX4_ok tyX5_ok tyX6_ok
theorem ms_nmk : ∀ (ci : Nat) (q : vw_C), vwCl[ci]? = some q → ∀ a, a < q.2.2 → ∀ b, b < q.2.2 → a ≠ b → (q.2.1 a).2.1 ≠ (q.2.1 b).2.1 :=
  ms_cls nmX0 nmX1 nmX2 nmX3 nmX4 nmX5 nmX6
def ms_isR (t : FieldType) : Bool := match t with
  | .array _ => true
  | .object _ => true
  | _ => false
theorem ms_kindk : ∀ (ci : Nat) (q : vw_C), vwCl[ci]? = some q → ∀ k, k < q.2.2 → (if (q.2.1 k).2.2.1 = "I" then decide (ms_ty0 ci k = .int) else ms_isR (ms_ty0 ci k)) = true := by
  refine ms_cls ?_ ?_ ?_ ?_ ?_ ?_ ?_ <;> decide +kernel
theorem ms_dflt : ∀ (ci : Nat) (q : vw_C), vwCl[ci]? = some q → ∀ k, k < q.2.2 → defaultValue (ms_ty0 ci k) = (ms_d ci).getD k .null := by
  refine ms_cls ?_ ?_ ?_ ?_ ?_ ?_ ?_ <;> decide +kernel
theorem ms_dval : ∀ (ci : Nat) (q : vw_C), vwCl[ci]? = some q → ∀ v ∈ ms_d ci, v = .null ∨ v = .int 0 := by
  refine ms_cls ?_ ?_ ?_ ?_ ?_ ?_ ?_ <;> decide +kernel

-- the small machine's step is the machine's
abbrev ms_KT : Type := Nat → List (Option Value) → List Value → List ms_C → Option ms_Rs
abbrev ms_CT : Type := Nat → List (Option Value) → List ms_C → Option ms_Rs
def ms_P (h h' : List ms_C) : Prop := h.length ≤ h'.length ∧ ms_sz h ≤ ms_sz h'
theorem ms_P.rf (h : List ms_C) : ms_P h h := ⟨Nat.le_refl _, Nat.le_refl _⟩
theorem ms_P.tr {a b c : List ms_C} (h : ms_P a b) (k : ms_P b c) : ms_P a c := ⟨Nat.le_trans h.1 k.1, Nat.le_trans h.2 k.2⟩
theorem ms_P.st {h h' : List ms_C} {a : Nat} {x y : ms_C} (hx : h[a]? = some x) (e : ms_cs y = ms_cs x) (k : ms_P (h.set a y) h') : ms_P h h' := by
  refine ⟨by simpa using k.1, ?_⟩
  have := k.2
  rw [ms_sz_set hx e] at this
  exact this
theorem ms_P.ap {h h' : List ms_C} {x : ms_C} (k : ms_P (h ++ [x]) h') : ms_P h h' := by
  have h1 := k.1
  have h2 := k.2
  rw [ms_sz_app] at h2
  rw [List.length_append] at h1
  exact ⟨by simp at h1; omega, by omega⟩
def ms_Xs (base b : Nat) (sc : List Int32) (U : State) : Prop := va_X b sc.length (fun j => sc.getD j 0) U U.heap ∧ b < base
/-- where a walk stands: the machine, the method y of class own, the tables' words, the classes, the room, the script -/
def ms_Ctx (p : Program) (R : Room) (s : State) (m : MethodId) (args : Array Value) (meth : Method) (c : Code) (y base b : Nat) (dA : Nat → ClassId) (D : va_G) (n0 z0 : Nat) (sc : List Int32) (h' : List ms_C) : Prop :=
  p.tables.exec = Jvm.exec ∧ c.code = ms_B y ∧ c.maxLocals = ms_L y ∧ s.vm.findClass (ms_cn (ms_O y)) = some m.cls ∧ (∀ w ∈ lw_good, w.before args s = true) ∧ ms_K D dA s ∧ ((ms_Y y).name = "<init>" → meth.name = "<init>") ∧ ms_F y ≤ R.frames ∧ ms_W y ≤ R.locals ∧ ms_Xs base b sc s ∧ h'.length ≤ n0 + R.cells ∧ ms_sz h' ≤ z0 + R.slots ∧ s.heap.size = base + n0
def ms_Go (p : Program) (l : Launch) (e : Env) (R : Room) (s : State) (m : MethodId) (args : Array Value) (below : List Frame) (meth : Method) (c : Code) (Q : State → Prop) (y base b : Nat) (dA : Nat → ClassId) (D : va_G) (n0 z0 : Nat) (pc : Nat) (L : List (Option Value)) (S : List Value) (h : List ms_C) : Prop :=
  ∀ (ls : Array Slot) (H : Heap) (locs : List Loc) (cells slots : Nat), ms_lv base b ls (ms_L y) L → ms_Rel base b dA D n0 z0 h s H locs cells slots → W p l e R s m args below meth c H locs cells slots Q (F0 m pc ls (S.map (ms_tv base b)))
section SOUND
variable {p : Program} {l : Launch} {e : Env} {R : Room} {s : State} {m : MethodId} {args : Array Value} {below : List Frame} {meth : Method} {c : Code} {Q : State → Prop} {y base b : Nat} {dA : Nat → ClassId} {D : va_G} {n0 z0 : Nat} {sc : List Int32} {r : Option Value} {h' : List ms_C} {K : ms_KT} {CA : ms_CT} {pc : Nat} {L : List (Option Value)} {S : List Value} {h : List ms_C}
theorem ms_go_some {off : Int} {k : Nat → Option ms_Rs} {z : ms_Rs} (e : ms_go pc off k = some z) : ∃ t : Nat, (pc : Int) + off = (t : Int) ∧ k t = some z := by
  unfold ms_go at e
  split at e
  · rename_i t ht
    exact ⟨t, ht, e⟩
  · cases e
theorem ms_iat_some {i : Int32} {n j : Nat} (e : ms_iat i n = some j) : vp_in i n ∧ i.toNatClampNeg = j := by
  unfold ms_iat at e
  split at e
  · cases e
  · rename_i hn
    exact ⟨hn, Option.some.inj e⟩
theorem ms_bin_some {f : Int32 → Int32 → Option (List Value → Option ms_Rs)} {z : ms_Rs} (e : ms_bin S f = some z) : ∃ (x y : Int32) (S1 : List Value) (g : List Value → Option ms_Rs), S = .int y :: .int x :: S1 ∧ f x y = some g ∧ g S1 = some z := by
  unfold ms_bin at e
  split at e
  · rename_i yy xx S1
    split at e
    · rename_i g hg
      exact ⟨xx, yy, S1, g, rfl, hg, e⟩
    · cases e
  · cases e
theorem ms_one_cat {v : Value} (hv : ms_one v = true) : (ms_tv base b v).category = 1 := by
  cases v <;> simp [ms_one] at hv <;> rfl
theorem ms_bound {H : Heap} {locs : List Loc} {cells slots : Nat} {g : JFrame} (k : H.size ≤ s.heap.size + cells → W p l e R s m args below meth c H locs cells slots Q g) : W p l e R s m args below meth c H locs cells slots Q g := by
  intro T hT X
  have h1 : T.heap.size ≤ s.heap.size + cells := X.same.2.2.1
  rw [hT] at h1
  exact k h1 T hT X
theorem ms_S0 {H : Heap} {locs : List Loc} (hS : va_S (ms_Ad base) s.heap H locs) : va_S (ms_Ad base) H H locs := ⟨Nat.le_refl _, fun _ _ _ => rfl, hS.2.2⟩
theorem ms_S1 {H H1 : Heap} {locs locs1 : List Loc} (hS : va_S (ms_Ad base) s.heap H locs) (h1 : va_S (ms_Ad base) H H1 locs1) : va_S (ms_Ad base) s.heap H1 locs1 :=
  ⟨Nat.le_trans hS.1 h1.1, fun q hq hA => (h1.2.1 q (Nat.lt_of_lt_of_le hq hS.1) hA).trans (hS.2.1 q hq hA), h1.2.2⟩

theorem so_iconst (C : ms_Ctx p R s m args meth c y base b dA D n0 z0 sc h') (hK : ∀ pc L S h, K pc L S h = some (r, h') → ms_P h h' ∧ ms_Go p l e R s m args below meth c Q y base b dA D n0 z0 pc L S h) {n : Int} (hd : decode (ms_B y) pc = .ok (.iconst n, 1)) (ee : ms_step sc y pc K CA (.iconst n) L S h = some (r, h')) : ms_P h h' ∧ ms_Go p l e R s m args below meth c Q y base b dA D n0 z0 pc L S h := by
  obtain ⟨hx, hb, hml, hown, hts, hK0, hin, hF, hW, hX, hrc, hrs, hs0⟩ := C
  obtain ⟨hp, hg⟩ := hK _ _ _ _ ee
  exact ⟨hp, fun ls H locs cells slots hl hr => lv_iconst hx hb hd rfl (hg ls H locs cells slots hl hr)⟩
theorem so_lconst (C : ms_Ctx p R s m args meth c y base b dA D n0 z0 sc h') (hK : ∀ pc L S h, K pc L S h = some (r, h') → ms_P h h' ∧ ms_Go p l e R s m args below meth c Q y base b dA D n0 z0 pc L S h) {n : Fin 2} (hd : decode (ms_B y) pc = .ok (.lconst n, 1)) (ee : ms_step sc y pc K CA (.lconst n) L S h = some (r, h')) : ms_P h h' ∧ ms_Go p l e R s m args below meth c Q y base b dA D n0 z0 pc L S h := by
  obtain ⟨hx, hb, hml, hown, hts, hK0, hin, hF, hW, hX, hrc, hrs, hs0⟩ := C
  obtain ⟨hp, hg⟩ := hK _ _ _ _ ee
  exact ⟨hp, fun ls H locs cells slots hl hr => lv_lconst hx hb hd rfl (hg ls H locs cells slots hl hr)⟩
theorem so_bipush (C : ms_Ctx p R s m args meth c y base b dA D n0 z0 sc h') (hK : ∀ pc L S h, K pc L S h = some (r, h') → ms_P h h' ∧ ms_Go p l e R s m args below meth c Q y base b dA D n0 z0 pc L S h) {n : Int} (hd : decode (ms_B y) pc = .ok (.bipush n, 2)) (ee : ms_step sc y pc K CA (.bipush n) L S h = some (r, h')) : ms_P h h' ∧ ms_Go p l e R s m args below meth c Q y base b dA D n0 z0 pc L S h := by
  obtain ⟨hx, hb, hml, hown, hts, hK0, hin, hF, hW, hX, hrc, hrs, hs0⟩ := C
  obtain ⟨hp, hg⟩ := hK _ _ _ _ ee
  exact ⟨hp, fun ls H locs cells slots hl hr => lv_bipush hx hb hd rfl (hg ls H locs cells slots hl hr)⟩
theorem so_sipush (C : ms_Ctx p R s m args meth c y base b dA D n0 z0 sc h') (hK : ∀ pc L S h, K pc L S h = some (r, h') → ms_P h h' ∧ ms_Go p l e R s m args below meth c Q y base b dA D n0 z0 pc L S h) {n : Int} (hd : decode (ms_B y) pc = .ok (.sipush n, 3)) (ee : ms_step sc y pc K CA (.sipush n) L S h = some (r, h')) : ms_P h h' ∧ ms_Go p l e R s m args below meth c Q y base b dA D n0 z0 pc L S h := by
  obtain ⟨hx, hb, hml, hown, hts, hK0, hin, hF, hW, hX, hrc, hrs, hs0⟩ := C
  obtain ⟨hp, hg⟩ := hK _ _ _ _ ee
  exact ⟨hp, fun ls H locs cells slots hl hr => lv_sipush hx hb hd rfl (hg ls H locs cells slots hl hr)⟩
theorem so_ldc_w (C : ms_Ctx p R s m args meth c y base b dA D n0 z0 sc h') (hK : ∀ pc L S h, K pc L S h = some (r, h') → ms_P h h' ∧ ms_Go p l e R s m args below meth c Q y base b dA D n0 z0 pc L S h) {i : Nat} (hd : decode (ms_B y) pc = .ok (.ldc_w i, 3)) (ee : ms_step sc y pc K CA (.ldc_w i) L S h = some (r, h')) : ms_P h h' ∧ ms_Go p l e R s m args below meth c Q y base b dA D n0 z0 pc L S h := by
  obtain ⟨hx, hb, hml, hown, hts, hK0, hin, hF, hW, hX, hrc, hrs, hs0⟩ := C
  simp only [ms_step] at ee
  split at ee
  · rename_i v hv
    obtain ⟨hp, hg⟩ := hK _ _ _ _ ee
    exact ⟨hp, fun ls H locs cells slots hl hr => lv_ldcw hx hb hown (hts _ (gd_i hv)) hd (hg ls H locs cells slots hl hr)⟩
  · cases ee
theorem so_ldc2_w (C : ms_Ctx p R s m args meth c y base b dA D n0 z0 sc h') (hK : ∀ pc L S h, K pc L S h = some (r, h') → ms_P h h' ∧ ms_Go p l e R s m args below meth c Q y base b dA D n0 z0 pc L S h) {i : Nat} (hd : decode (ms_B y) pc = .ok (.ldc2_w i, 3)) (ee : ms_step sc y pc K CA (.ldc2_w i) L S h = some (r, h')) : ms_P h h' ∧ ms_Go p l e R s m args below meth c Q y base b dA D n0 z0 pc L S h := by
  obtain ⟨hx, hb, hml, hown, hts, hK0, hin, hF, hW, hX, hrc, hrs, hs0⟩ := C
  simp only [ms_step] at ee
  split at ee
  · rename_i v hv
    obtain ⟨hp, hg⟩ := hK _ _ _ _ ee
    exact ⟨hp, fun ls H locs cells slots hl hr => lv_ldc2 hx hb hown (hts _ (gd_g hv)) hd (hg ls H locs cells slots hl hr)⟩
  · cases ee
theorem so_iload_n (C : ms_Ctx p R s m args meth c y base b dA D n0 z0 sc h') (hK : ∀ pc L S h, K pc L S h = some (r, h') → ms_P h h' ∧ ms_Go p l e R s m args below meth c Q y base b dA D n0 z0 pc L S h) {k : Fin 4} (hd : decode (ms_B y) pc = .ok (.iload_n k, 1)) (ee : ms_step sc y pc K CA (.iload_n k) L S h = some (r, h')) : ms_P h h' ∧ ms_Go p l e R s m args below meth c Q y base b dA D n0 z0 pc L S h := by
  obtain ⟨hx, hb, hml, hown, hts, hK0, hin, hF, hW, hX, hrc, hrs, hs0⟩ := C
  simp only [ms_step] at ee
  split at ee
  · rename_i x hx1
    obtain ⟨hp, hg⟩ := hK _ _ _ _ ee
    exact ⟨hp, fun ls H locs cells slots hl hr => lv_iload_n hx hb hd rfl (hl.2.2.2 _ _ hx1) (hg ls H locs cells slots hl hr)⟩
  · cases ee
theorem so_iload (C : ms_Ctx p R s m args meth c y base b dA D n0 z0 sc h') (hK : ∀ pc L S h, K pc L S h = some (r, h') → ms_P h h' ∧ ms_Go p l e R s m args below meth c Q y base b dA D n0 z0 pc L S h) {k : Nat} (hd : decode (ms_B y) pc = .ok (.iload k, 2)) (ee : ms_step sc y pc K CA (.iload k) L S h = some (r, h')) : ms_P h h' ∧ ms_Go p l e R s m args below meth c Q y base b dA D n0 z0 pc L S h := by
  obtain ⟨hx, hb, hml, hown, hts, hK0, hin, hF, hW, hX, hrc, hrs, hs0⟩ := C
  simp only [ms_step] at ee
  split at ee
  · rename_i x hx1
    obtain ⟨hp, hg⟩ := hK _ _ _ _ ee
    exact ⟨hp, fun ls H locs cells slots hl hr => lv_iload hx hb hd (hl.2.2.2 _ _ hx1) (hg ls H locs cells slots hl hr)⟩
  · cases ee
theorem so_lload_n (C : ms_Ctx p R s m args meth c y base b dA D n0 z0 sc h') (hK : ∀ pc L S h, K pc L S h = some (r, h') → ms_P h h' ∧ ms_Go p l e R s m args below meth c Q y base b dA D n0 z0 pc L S h) {k : Fin 4} (hd : decode (ms_B y) pc = .ok (.lload_n k, 1)) (ee : ms_step sc y pc K CA (.lload_n k) L S h = some (r, h')) : ms_P h h' ∧ ms_Go p l e R s m args below meth c Q y base b dA D n0 z0 pc L S h := by
  obtain ⟨hx, hb, hml, hown, hts, hK0, hin, hF, hW, hX, hrc, hrs, hs0⟩ := C
  simp only [ms_step] at ee
  split at ee
  · rename_i x hx1
    obtain ⟨hp, hg⟩ := hK _ _ _ _ ee
    exact ⟨hp, fun ls H locs cells slots hl hr => lv_lload_n hx hb hd rfl (hl.2.2.2 _ _ hx1) (hg ls H locs cells slots hl hr)⟩
  · cases ee
theorem so_lload (C : ms_Ctx p R s m args meth c y base b dA D n0 z0 sc h') (hK : ∀ pc L S h, K pc L S h = some (r, h') → ms_P h h' ∧ ms_Go p l e R s m args below meth c Q y base b dA D n0 z0 pc L S h) {k : Nat} (hd : decode (ms_B y) pc = .ok (.lload k, 2)) (ee : ms_step sc y pc K CA (.lload k) L S h = some (r, h')) : ms_P h h' ∧ ms_Go p l e R s m args below meth c Q y base b dA D n0 z0 pc L S h := by
  obtain ⟨hx, hb, hml, hown, hts, hK0, hin, hF, hW, hX, hrc, hrs, hs0⟩ := C
  simp only [ms_step] at ee
  split at ee
  · rename_i x hx1
    obtain ⟨hp, hg⟩ := hK _ _ _ _ ee
    exact ⟨hp, fun ls H locs cells slots hl hr => lv_lload hx hb hd (hl.2.2.2 _ _ hx1) (hg ls H locs cells slots hl hr)⟩
  · cases ee
theorem so_aload_n (C : ms_Ctx p R s m args meth c y base b dA D n0 z0 sc h') (hK : ∀ pc L S h, K pc L S h = some (r, h') → ms_P h h' ∧ ms_Go p l e R s m args below meth c Q y base b dA D n0 z0 pc L S h) {k : Fin 4} (hd : decode (ms_B y) pc = .ok (.aload_n k, 1)) (ee : ms_step sc y pc K CA (.aload_n k) L S h = some (r, h')) : ms_P h h' ∧ ms_Go p l e R s m args below meth c Q y base b dA D n0 z0 pc L S h := by
  obtain ⟨hx, hb, hml, hown, hts, hK0, hin, hF, hW, hX, hrc, hrs, hs0⟩ := C
  simp only [ms_step] at ee
  split at ee
  · rename_i x hx1
    obtain ⟨hp, hg⟩ := hK _ _ _ _ ee
    exact ⟨hp, fun ls H locs cells slots hl hr => lv_aload_n hx hb hd rfl (hl.2.2.2 _ _ hx1) (hg ls H locs cells slots hl hr)⟩
  · rename_i x hx1
    obtain ⟨hp, hg⟩ := hK _ _ _ _ ee
    exact ⟨hp, fun ls H locs cells slots hl hr => lv_aload_n hx hb hd rfl (hl.2.2.2 _ _ hx1) (hg ls H locs cells slots hl hr)⟩
  · cases ee
theorem so_aload (C : ms_Ctx p R s m args meth c y base b dA D n0 z0 sc h') (hK : ∀ pc L S h, K pc L S h = some (r, h') → ms_P h h' ∧ ms_Go p l e R s m args below meth c Q y base b dA D n0 z0 pc L S h) {k : Nat} (hd : decode (ms_B y) pc = .ok (.aload k, 2)) (ee : ms_step sc y pc K CA (.aload k) L S h = some (r, h')) : ms_P h h' ∧ ms_Go p l e R s m args below meth c Q y base b dA D n0 z0 pc L S h := by
  obtain ⟨hx, hb, hml, hown, hts, hK0, hin, hF, hW, hX, hrc, hrs, hs0⟩ := C
  simp only [ms_step] at ee
  split at ee
  · rename_i x hx1
    obtain ⟨hp, hg⟩ := hK _ _ _ _ ee
    exact ⟨hp, fun ls H locs cells slots hl hr => lv_aload hx hb hd (hl.2.2.2 _ _ hx1) (hg ls H locs cells slots hl hr)⟩
  · rename_i x hx1
    obtain ⟨hp, hg⟩ := hK _ _ _ _ ee
    exact ⟨hp, fun ls H locs cells slots hl hr => lv_aload hx hb hd (hl.2.2.2 _ _ hx1) (hg ls H locs cells slots hl hr)⟩
  · cases ee
theorem ms_set_lt {L L' : List (Option Value)} {i : Nat} {v : Value} (h : ms_set L i v = some L') : i < L.length := by
  unfold ms_set at h
  split at h
  · rename_i hi; exact hi
  · cases h
theorem ms_set2_lt {L L' : List (Option Value)} {i : Nat} {v : Value} (h : ms_set2 L i v = some L') : i + 1 < L.length := by
  unfold ms_set2 at h
  split at h
  · rename_i hi; exact hi
  · cases h
theorem so_istore_n (C : ms_Ctx p R s m args meth c y base b dA D n0 z0 sc h') (hK : ∀ pc L S h, K pc L S h = some (r, h') → ms_P h h' ∧ ms_Go p l e R s m args below meth c Q y base b dA D n0 z0 pc L S h) {k : Fin 4} (hd : decode (ms_B y) pc = .ok (.istore_n k, 1)) (ee : ms_step sc y pc K CA (.istore_n k) L S h = some (r, h')) : ms_P h h' ∧ ms_Go p l e R s m args below meth c Q y base b dA D n0 z0 pc L S h := by
  obtain ⟨hx, hb, hml, hown, hts, hK0, hin, hF, hW, hX, hrc, hrs, hs0⟩ := C
  simp only [ms_step] at ee
  split at ee
  · rename_i x S1
    split at ee
    · rename_i L1 hL
      obtain ⟨hp, hg⟩ := hK _ _ _ _ ee
      refine ⟨hp, fun ls H locs cells slots hl hr => ?_⟩
      obtain ⟨l0, h0, h1⟩ := hl.has
      exact lv_istore_n hx hb hd rfl h0 (by rw [← hl.2.2.1]; exact (ms_set_lt hL)) rfl (fun ls' hl' => hg ls' H locs cells slots (ms_lv.set1 hl.2.2.1 h1 hL hl') hr)
    · cases ee
  · cases ee
theorem so_istore (C : ms_Ctx p R s m args meth c y base b dA D n0 z0 sc h') (hK : ∀ pc L S h, K pc L S h = some (r, h') → ms_P h h' ∧ ms_Go p l e R s m args below meth c Q y base b dA D n0 z0 pc L S h) {k : Nat} (hd : decode (ms_B y) pc = .ok (.istore k, 2)) (ee : ms_step sc y pc K CA (.istore k) L S h = some (r, h')) : ms_P h h' ∧ ms_Go p l e R s m args below meth c Q y base b dA D n0 z0 pc L S h := by
  obtain ⟨hx, hb, hml, hown, hts, hK0, hin, hF, hW, hX, hrc, hrs, hs0⟩ := C
  simp only [ms_step] at ee
  split at ee
  · rename_i x S1
    split at ee
    · rename_i L1 hL
      obtain ⟨hp, hg⟩ := hK _ _ _ _ ee
      refine ⟨hp, fun ls H locs cells slots hl hr => ?_⟩
      obtain ⟨l0, h0, h1⟩ := hl.has
      exact lv_istore hx hb hd h0 (by rw [← hl.2.2.1]; exact (ms_set_lt hL)) rfl (fun ls' hl' => hg ls' H locs cells slots (ms_lv.set1 hl.2.2.1 h1 hL hl') hr)
    · cases ee
  · cases ee
theorem so_astore_n (C : ms_Ctx p R s m args meth c y base b dA D n0 z0 sc h') (hK : ∀ pc L S h, K pc L S h = some (r, h') → ms_P h h' ∧ ms_Go p l e R s m args below meth c Q y base b dA D n0 z0 pc L S h) {k : Fin 4} (hd : decode (ms_B y) pc = .ok (.astore_n k, 1)) (ee : ms_step sc y pc K CA (.astore_n k) L S h = some (r, h')) : ms_P h h' ∧ ms_Go p l e R s m args below meth c Q y base b dA D n0 z0 pc L S h := by
  obtain ⟨hx, hb, hml, hown, hts, hK0, hin, hF, hW, hX, hrc, hrs, hs0⟩ := C
  simp only [ms_step] at ee
  split at ee
  · rename_i x S1
    split at ee
    · rename_i L1 hL
      obtain ⟨hp, hg⟩ := hK _ _ _ _ ee
      refine ⟨hp, fun ls H locs cells slots hl hr => ?_⟩
      obtain ⟨l0, h0, h1⟩ := hl.has
      exact lv_astore_n hx hb hd rfl h0 (by rw [← hl.2.2.1]; exact (ms_set_lt hL)) rfl (fun ls' hl' => hg ls' H locs cells slots (ms_lv.set1 hl.2.2.1 h1 hL hl') hr)
    · cases ee
  · cases ee
theorem so_lstore_n (C : ms_Ctx p R s m args meth c y base b dA D n0 z0 sc h') (hK : ∀ pc L S h, K pc L S h = some (r, h') → ms_P h h' ∧ ms_Go p l e R s m args below meth c Q y base b dA D n0 z0 pc L S h) {k : Fin 4} (hd : decode (ms_B y) pc = .ok (.lstore_n k, 1)) (ee : ms_step sc y pc K CA (.lstore_n k) L S h = some (r, h')) : ms_P h h' ∧ ms_Go p l e R s m args below meth c Q y base b dA D n0 z0 pc L S h := by
  obtain ⟨hx, hb, hml, hown, hts, hK0, hin, hF, hW, hX, hrc, hrs, hs0⟩ := C
  simp only [ms_step] at ee
  split at ee
  · rename_i x S1
    split at ee
    · rename_i L1 hL
      obtain ⟨hp, hg⟩ := hK _ _ _ _ ee
      refine ⟨hp, fun ls H locs cells slots hl hr => ?_⟩
      obtain ⟨l0, h0, h1⟩ := hl.has
      exact lv_lstore_n hx hb hd rfl h0 (by rw [← hl.2.2.1]; exact (ms_set2_lt hL)) rfl (fun ls' hl' => hg ls' H locs cells slots (ms_lv.set2 hl.2.2.1 h1 hL hl') hr)
    · cases ee
  · cases ee
theorem so_lstore (C : ms_Ctx p R s m args meth c y base b dA D n0 z0 sc h') (hK : ∀ pc L S h, K pc L S h = some (r, h') → ms_P h h' ∧ ms_Go p l e R s m args below meth c Q y base b dA D n0 z0 pc L S h) {k : Nat} (hd : decode (ms_B y) pc = .ok (.lstore k, 2)) (ee : ms_step sc y pc K CA (.lstore k) L S h = some (r, h')) : ms_P h h' ∧ ms_Go p l e R s m args below meth c Q y base b dA D n0 z0 pc L S h := by
  obtain ⟨hx, hb, hml, hown, hts, hK0, hin, hF, hW, hX, hrc, hrs, hs0⟩ := C
  simp only [ms_step] at ee
  split at ee
  · rename_i x S1
    split at ee
    · rename_i L1 hL
      obtain ⟨hp, hg⟩ := hK _ _ _ _ ee
      refine ⟨hp, fun ls H locs cells slots hl hr => ?_⟩
      obtain ⟨l0, h0, h1⟩ := hl.has
      exact lv_lstore hx hb hd h0 (by rw [← hl.2.2.1]; exact (ms_set2_lt hL)) rfl (fun ls' hl' => hg ls' H locs cells slots (ms_lv.set2 hl.2.2.1 h1 hL hl') hr)
    · cases ee
  · cases ee
theorem so_iinc (C : ms_Ctx p R s m args meth c y base b dA D n0 z0 sc h') (hK : ∀ pc L S h, K pc L S h = some (r, h') → ms_P h h' ∧ ms_Go p l e R s m args below meth c Q y base b dA D n0 z0 pc L S h) {k : Nat} {n : Int} (hd : decode (ms_B y) pc = .ok (.iinc k n, 3)) (ee : ms_step sc y pc K CA (.iinc k n) L S h = some (r, h')) : ms_P h h' ∧ ms_Go p l e R s m args below meth c Q y base b dA D n0 z0 pc L S h := by
  obtain ⟨hx, hb, hml, hown, hts, hK0, hin, hF, hW, hX, hrc, hrs, hs0⟩ := C
  simp only [ms_step] at ee
  split at ee
  · rename_i x hx1
    split at ee
    · rename_i L1 hL
      obtain ⟨hp, hg⟩ := hK _ _ _ _ ee
      refine ⟨hp, fun ls H locs cells slots hl hr => ?_⟩
      obtain ⟨l0, h0, h1⟩ := hl.has
      obtain ⟨j, hj⟩ := List.getElem?_of_mem (h1 _ _ hx1)
      exact lv_iinc hx hb hd h0 hj rfl (by rw [← hl.2.2.1]; exact ms_set_lt hL) rfl (fun ls' hl' => hg ls' H locs cells slots (ms_lv.set1 hl.2.2.1 h1 hL hl') hr)
    · cases ee
  · cases ee
theorem so_iadd (C : ms_Ctx p R s m args meth c y base b dA D n0 z0 sc h') (hK : ∀ pc L S h, K pc L S h = some (r, h') → ms_P h h' ∧ ms_Go p l e R s m args below meth c Q y base b dA D n0 z0 pc L S h)  (hd : decode (ms_B y) pc = .ok (.iadd, 1)) (ee : ms_step sc y pc K CA (.iadd) L S h = some (r, h')) : ms_P h h' ∧ ms_Go p l e R s m args below meth c Q y base b dA D n0 z0 pc L S h := by
  obtain ⟨hx, hb, hml, hown, hts, hK0, hin, hF, hW, hX, hrc, hrs, hs0⟩ := C
  simp only [ms_step] at ee
  obtain ⟨xx, yy, S1, g, rfl, hg1, hg2⟩ := ms_bin_some ee
  cases hg1
  obtain ⟨hp, hg⟩ := hK _ _ _ _ hg2
  exact ⟨hp, fun ls H locs cells slots hl hr => lv_iadd hx hb hd (hg ls H locs cells slots hl hr)⟩
theorem so_isub (C : ms_Ctx p R s m args meth c y base b dA D n0 z0 sc h') (hK : ∀ pc L S h, K pc L S h = some (r, h') → ms_P h h' ∧ ms_Go p l e R s m args below meth c Q y base b dA D n0 z0 pc L S h)  (hd : decode (ms_B y) pc = .ok (.isub, 1)) (ee : ms_step sc y pc K CA (.isub) L S h = some (r, h')) : ms_P h h' ∧ ms_Go p l e R s m args below meth c Q y base b dA D n0 z0 pc L S h := by
  obtain ⟨hx, hb, hml, hown, hts, hK0, hin, hF, hW, hX, hrc, hrs, hs0⟩ := C
  simp only [ms_step] at ee
  obtain ⟨xx, yy, S1, g, rfl, hg1, hg2⟩ := ms_bin_some ee
  cases hg1
  obtain ⟨hp, hg⟩ := hK _ _ _ _ hg2
  exact ⟨hp, fun ls H locs cells slots hl hr => lv_isub hx hb hd (hg ls H locs cells slots hl hr)⟩
theorem so_imul (C : ms_Ctx p R s m args meth c y base b dA D n0 z0 sc h') (hK : ∀ pc L S h, K pc L S h = some (r, h') → ms_P h h' ∧ ms_Go p l e R s m args below meth c Q y base b dA D n0 z0 pc L S h)  (hd : decode (ms_B y) pc = .ok (.imul, 1)) (ee : ms_step sc y pc K CA (.imul) L S h = some (r, h')) : ms_P h h' ∧ ms_Go p l e R s m args below meth c Q y base b dA D n0 z0 pc L S h := by
  obtain ⟨hx, hb, hml, hown, hts, hK0, hin, hF, hW, hX, hrc, hrs, hs0⟩ := C
  simp only [ms_step] at ee
  obtain ⟨xx, yy, S1, g, rfl, hg1, hg2⟩ := ms_bin_some ee
  cases hg1
  obtain ⟨hp, hg⟩ := hK _ _ _ _ hg2
  exact ⟨hp, fun ls H locs cells slots hl hr => lv_imul hx hb hd (hg ls H locs cells slots hl hr)⟩
theorem so_iand (C : ms_Ctx p R s m args meth c y base b dA D n0 z0 sc h') (hK : ∀ pc L S h, K pc L S h = some (r, h') → ms_P h h' ∧ ms_Go p l e R s m args below meth c Q y base b dA D n0 z0 pc L S h)  (hd : decode (ms_B y) pc = .ok (.iand, 1)) (ee : ms_step sc y pc K CA (.iand) L S h = some (r, h')) : ms_P h h' ∧ ms_Go p l e R s m args below meth c Q y base b dA D n0 z0 pc L S h := by
  obtain ⟨hx, hb, hml, hown, hts, hK0, hin, hF, hW, hX, hrc, hrs, hs0⟩ := C
  simp only [ms_step] at ee
  obtain ⟨xx, yy, S1, g, rfl, hg1, hg2⟩ := ms_bin_some ee
  cases hg1
  obtain ⟨hp, hg⟩ := hK _ _ _ _ hg2
  exact ⟨hp, fun ls H locs cells slots hl hr => lv_iand hx hb hd (hg ls H locs cells slots hl hr)⟩
theorem so_ior (C : ms_Ctx p R s m args meth c y base b dA D n0 z0 sc h') (hK : ∀ pc L S h, K pc L S h = some (r, h') → ms_P h h' ∧ ms_Go p l e R s m args below meth c Q y base b dA D n0 z0 pc L S h)  (hd : decode (ms_B y) pc = .ok (.ior, 1)) (ee : ms_step sc y pc K CA (.ior) L S h = some (r, h')) : ms_P h h' ∧ ms_Go p l e R s m args below meth c Q y base b dA D n0 z0 pc L S h := by
  obtain ⟨hx, hb, hml, hown, hts, hK0, hin, hF, hW, hX, hrc, hrs, hs0⟩ := C
  simp only [ms_step] at ee
  obtain ⟨xx, yy, S1, g, rfl, hg1, hg2⟩ := ms_bin_some ee
  cases hg1
  obtain ⟨hp, hg⟩ := hK _ _ _ _ hg2
  exact ⟨hp, fun ls H locs cells slots hl hr => lv_ior hx hb hd (hg ls H locs cells slots hl hr)⟩
theorem so_ishl (C : ms_Ctx p R s m args meth c y base b dA D n0 z0 sc h') (hK : ∀ pc L S h, K pc L S h = some (r, h') → ms_P h h' ∧ ms_Go p l e R s m args below meth c Q y base b dA D n0 z0 pc L S h)  (hd : decode (ms_B y) pc = .ok (.ishl, 1)) (ee : ms_step sc y pc K CA (.ishl) L S h = some (r, h')) : ms_P h h' ∧ ms_Go p l e R s m args below meth c Q y base b dA D n0 z0 pc L S h := by
  obtain ⟨hx, hb, hml, hown, hts, hK0, hin, hF, hW, hX, hrc, hrs, hs0⟩ := C
  simp only [ms_step] at ee
  obtain ⟨xx, yy, S1, g, rfl, hg1, hg2⟩ := ms_bin_some ee
  cases hg1
  obtain ⟨hp, hg⟩ := hK _ _ _ _ hg2
  exact ⟨hp, fun ls H locs cells slots hl hr => lv_ishl hx hb hd (hg ls H locs cells slots hl hr)⟩
theorem so_ishr (C : ms_Ctx p R s m args meth c y base b dA D n0 z0 sc h') (hK : ∀ pc L S h, K pc L S h = some (r, h') → ms_P h h' ∧ ms_Go p l e R s m args below meth c Q y base b dA D n0 z0 pc L S h)  (hd : decode (ms_B y) pc = .ok (.ishr, 1)) (ee : ms_step sc y pc K CA (.ishr) L S h = some (r, h')) : ms_P h h' ∧ ms_Go p l e R s m args below meth c Q y base b dA D n0 z0 pc L S h := by
  obtain ⟨hx, hb, hml, hown, hts, hK0, hin, hF, hW, hX, hrc, hrs, hs0⟩ := C
  simp only [ms_step] at ee
  obtain ⟨xx, yy, S1, g, rfl, hg1, hg2⟩ := ms_bin_some ee
  cases hg1
  obtain ⟨hp, hg⟩ := hK _ _ _ _ hg2
  exact ⟨hp, fun ls H locs cells slots hl hr => lv_ishr hx hb hd (hg ls H locs cells slots hl hr)⟩
theorem so_iushr (C : ms_Ctx p R s m args meth c y base b dA D n0 z0 sc h') (hK : ∀ pc L S h, K pc L S h = some (r, h') → ms_P h h' ∧ ms_Go p l e R s m args below meth c Q y base b dA D n0 z0 pc L S h)  (hd : decode (ms_B y) pc = .ok (.iushr, 1)) (ee : ms_step sc y pc K CA (.iushr) L S h = some (r, h')) : ms_P h h' ∧ ms_Go p l e R s m args below meth c Q y base b dA D n0 z0 pc L S h := by
  obtain ⟨hx, hb, hml, hown, hts, hK0, hin, hF, hW, hX, hrc, hrs, hs0⟩ := C
  simp only [ms_step] at ee
  obtain ⟨xx, yy, S1, g, rfl, hg1, hg2⟩ := ms_bin_some ee
  cases hg1
  obtain ⟨hp, hg⟩ := hK _ _ _ _ hg2
  exact ⟨hp, fun ls H locs cells slots hl hr => lv_iushr hx hb hd rfl (hg ls H locs cells slots hl hr)⟩
theorem so_idiv (C : ms_Ctx p R s m args meth c y base b dA D n0 z0 sc h') (hK : ∀ pc L S h, K pc L S h = some (r, h') → ms_P h h' ∧ ms_Go p l e R s m args below meth c Q y base b dA D n0 z0 pc L S h)  (hd : decode (ms_B y) pc = .ok (.idiv, 1)) (ee : ms_step sc y pc K CA (.idiv) L S h = some (r, h')) : ms_P h h' ∧ ms_Go p l e R s m args below meth c Q y base b dA D n0 z0 pc L S h := by
  obtain ⟨hx, hb, hml, hown, hts, hK0, hin, hF, hW, hX, hrc, hrs, hs0⟩ := C
  simp only [ms_step] at ee
  obtain ⟨xx, yy, S1, g, rfl, hg1, hg2⟩ := ms_bin_some ee
  split at hg1
  · cases hg1
  · rename_i hne
    cases hg1
    obtain ⟨hp, hg⟩ := hK _ _ _ _ hg2
    exact ⟨hp, fun ls H locs cells slots hl hr => lv_idiv hx hb hd hne (hg ls H locs cells slots hl hr)⟩
theorem so_irem (C : ms_Ctx p R s m args meth c y base b dA D n0 z0 sc h') (hK : ∀ pc L S h, K pc L S h = some (r, h') → ms_P h h' ∧ ms_Go p l e R s m args below meth c Q y base b dA D n0 z0 pc L S h)  (hd : decode (ms_B y) pc = .ok (.irem, 1)) (ee : ms_step sc y pc K CA (.irem) L S h = some (r, h')) : ms_P h h' ∧ ms_Go p l e R s m args below meth c Q y base b dA D n0 z0 pc L S h := by
  obtain ⟨hx, hb, hml, hown, hts, hK0, hin, hF, hW, hX, hrc, hrs, hs0⟩ := C
  simp only [ms_step] at ee
  obtain ⟨xx, yy, S1, g, rfl, hg1, hg2⟩ := ms_bin_some ee
  split at hg1
  · cases hg1
  · rename_i hne
    cases hg1
    obtain ⟨hp, hg⟩ := hK _ _ _ _ hg2
    exact ⟨hp, fun ls H locs cells slots hl hr => lv_irem hx hb hd hne (hg ls H locs cells slots hl hr)⟩
theorem so_ladd (C : ms_Ctx p R s m args meth c y base b dA D n0 z0 sc h') (hK : ∀ pc L S h, K pc L S h = some (r, h') → ms_P h h' ∧ ms_Go p l e R s m args below meth c Q y base b dA D n0 z0 pc L S h)  (hd : decode (ms_B y) pc = .ok (.ladd, 1)) (ee : ms_step sc y pc K CA (.ladd) L S h = some (r, h')) : ms_P h h' ∧ ms_Go p l e R s m args below meth c Q y base b dA D n0 z0 pc L S h := by
  obtain ⟨hx, hb, hml, hown, hts, hK0, hin, hF, hW, hX, hrc, hrs, hs0⟩ := C
  simp only [ms_step] at ee
  split at ee
  · obtain ⟨hp, hg⟩ := hK _ _ _ _ ee
    exact ⟨hp, fun ls H locs cells slots hl hr => lv_ladd hx hb hd (hg ls H locs cells slots hl hr)⟩
  · cases ee
theorem so_lmul (C : ms_Ctx p R s m args meth c y base b dA D n0 z0 sc h') (hK : ∀ pc L S h, K pc L S h = some (r, h') → ms_P h h' ∧ ms_Go p l e R s m args below meth c Q y base b dA D n0 z0 pc L S h)  (hd : decode (ms_B y) pc = .ok (.lmul, 1)) (ee : ms_step sc y pc K CA (.lmul) L S h = some (r, h')) : ms_P h h' ∧ ms_Go p l e R s m args below meth c Q y base b dA D n0 z0 pc L S h := by
  obtain ⟨hx, hb, hml, hown, hts, hK0, hin, hF, hW, hX, hrc, hrs, hs0⟩ := C
  simp only [ms_step] at ee
  split at ee
  · obtain ⟨hp, hg⟩ := hK _ _ _ _ ee
    exact ⟨hp, fun ls H locs cells slots hl hr => lv_lmul hx hb hd (hg ls H locs cells slots hl hr)⟩
  · cases ee
theorem so_lcmp (C : ms_Ctx p R s m args meth c y base b dA D n0 z0 sc h') (hK : ∀ pc L S h, K pc L S h = some (r, h') → ms_P h h' ∧ ms_Go p l e R s m args below meth c Q y base b dA D n0 z0 pc L S h)  (hd : decode (ms_B y) pc = .ok (.lcmp, 1)) (ee : ms_step sc y pc K CA (.lcmp) L S h = some (r, h')) : ms_P h h' ∧ ms_Go p l e R s m args below meth c Q y base b dA D n0 z0 pc L S h := by
  obtain ⟨hx, hb, hml, hown, hts, hK0, hin, hF, hW, hX, hrc, hrs, hs0⟩ := C
  simp only [ms_step] at ee
  split at ee
  · obtain ⟨hp, hg⟩ := hK _ _ _ _ ee
    exact ⟨hp, fun ls H locs cells slots hl hr => W.lcmp hx hb hd (hg ls H locs cells slots hl hr)⟩
  · cases ee
theorem so_ldiv (C : ms_Ctx p R s m args meth c y base b dA D n0 z0 sc h') (hK : ∀ pc L S h, K pc L S h = some (r, h') → ms_P h h' ∧ ms_Go p l e R s m args below meth c Q y base b dA D n0 z0 pc L S h)  (hd : decode (ms_B y) pc = .ok (.ldiv, 1)) (ee : ms_step sc y pc K CA (.ldiv) L S h = some (r, h')) : ms_P h h' ∧ ms_Go p l e R s m args below meth c Q y base b dA D n0 z0 pc L S h := by
  obtain ⟨hx, hb, hml, hown, hts, hK0, hin, hF, hW, hX, hrc, hrs, hs0⟩ := C
  simp only [ms_step] at ee
  split at ee
  · split at ee
    · cases ee
    · rename_i hne
      obtain ⟨hp, hg⟩ := hK _ _ _ _ ee
      exact ⟨hp, fun ls H locs cells slots hl hr => lv_ldiv hx hb hd hne (hg ls H locs cells slots hl hr)⟩
  · cases ee
theorem so_lrem (C : ms_Ctx p R s m args meth c y base b dA D n0 z0 sc h') (hK : ∀ pc L S h, K pc L S h = some (r, h') → ms_P h h' ∧ ms_Go p l e R s m args below meth c Q y base b dA D n0 z0 pc L S h)  (hd : decode (ms_B y) pc = .ok (.lrem, 1)) (ee : ms_step sc y pc K CA (.lrem) L S h = some (r, h')) : ms_P h h' ∧ ms_Go p l e R s m args below meth c Q y base b dA D n0 z0 pc L S h := by
  obtain ⟨hx, hb, hml, hown, hts, hK0, hin, hF, hW, hX, hrc, hrs, hs0⟩ := C
  simp only [ms_step] at ee
  split at ee
  · split at ee
    · cases ee
    · rename_i hne
      obtain ⟨hp, hg⟩ := hK _ _ _ _ ee
      exact ⟨hp, fun ls H locs cells slots hl hr => lv_lrem hx hb hd hne (hg ls H locs cells slots hl hr)⟩
  · cases ee
theorem so_i2l (C : ms_Ctx p R s m args meth c y base b dA D n0 z0 sc h') (hK : ∀ pc L S h, K pc L S h = some (r, h') → ms_P h h' ∧ ms_Go p l e R s m args below meth c Q y base b dA D n0 z0 pc L S h)  (hd : decode (ms_B y) pc = .ok (.i2l, 1)) (ee : ms_step sc y pc K CA (.i2l) L S h = some (r, h')) : ms_P h h' ∧ ms_Go p l e R s m args below meth c Q y base b dA D n0 z0 pc L S h := by
  obtain ⟨hx, hb, hml, hown, hts, hK0, hin, hF, hW, hX, hrc, hrs, hs0⟩ := C
  simp only [ms_step] at ee
  split at ee
  · obtain ⟨hp, hg⟩ := hK _ _ _ _ ee
    exact ⟨hp, fun ls H locs cells slots hl hr => lv_i2l hx hb hd rfl (hg ls H locs cells slots hl hr)⟩
  · cases ee
theorem so_l2i (C : ms_Ctx p R s m args meth c y base b dA D n0 z0 sc h') (hK : ∀ pc L S h, K pc L S h = some (r, h') → ms_P h h' ∧ ms_Go p l e R s m args below meth c Q y base b dA D n0 z0 pc L S h)  (hd : decode (ms_B y) pc = .ok (.l2i, 1)) (ee : ms_step sc y pc K CA (.l2i) L S h = some (r, h')) : ms_P h h' ∧ ms_Go p l e R s m args below meth c Q y base b dA D n0 z0 pc L S h := by
  obtain ⟨hx, hb, hml, hown, hts, hK0, hin, hF, hW, hX, hrc, hrs, hs0⟩ := C
  simp only [ms_step] at ee
  split at ee
  · obtain ⟨hp, hg⟩ := hK _ _ _ _ ee
    exact ⟨hp, fun ls H locs cells slots hl hr => lv_l2i hx hb hd rfl (hg ls H locs cells slots hl hr)⟩
  · cases ee
theorem so_i2c (C : ms_Ctx p R s m args meth c y base b dA D n0 z0 sc h') (hK : ∀ pc L S h, K pc L S h = some (r, h') → ms_P h h' ∧ ms_Go p l e R s m args below meth c Q y base b dA D n0 z0 pc L S h)  (hd : decode (ms_B y) pc = .ok (.i2c, 1)) (ee : ms_step sc y pc K CA (.i2c) L S h = some (r, h')) : ms_P h h' ∧ ms_Go p l e R s m args below meth c Q y base b dA D n0 z0 pc L S h := by
  obtain ⟨hx, hb, hml, hown, hts, hK0, hin, hF, hW, hX, hrc, hrs, hs0⟩ := C
  simp only [ms_step] at ee
  split at ee
  · obtain ⟨hp, hg⟩ := hK _ _ _ _ ee
    exact ⟨hp, fun ls H locs cells slots hl hr => lv_i2c hx hb hd rfl (hg ls H locs cells slots hl hr)⟩
  · cases ee
theorem so_dup (C : ms_Ctx p R s m args meth c y base b dA D n0 z0 sc h') (hK : ∀ pc L S h, K pc L S h = some (r, h') → ms_P h h' ∧ ms_Go p l e R s m args below meth c Q y base b dA D n0 z0 pc L S h)  (hd : decode (ms_B y) pc = .ok (.dup, 1)) (ee : ms_step sc y pc K CA (.dup) L S h = some (r, h')) : ms_P h h' ∧ ms_Go p l e R s m args below meth c Q y base b dA D n0 z0 pc L S h := by
  obtain ⟨hx, hb, hml, hown, hts, hK0, hin, hF, hW, hX, hrc, hrs, hs0⟩ := C
  simp only [ms_step] at ee
  split at ee
  · split at ee
    · rename_i h1
      obtain ⟨hp, hg⟩ := hK _ _ _ _ ee
      exact ⟨hp, fun ls H locs cells slots hl hr => lv_dup hx hb hd (ms_one_cat h1) (hg ls H locs cells slots hl hr)⟩
    · cases ee
  · cases ee
theorem so_pop (C : ms_Ctx p R s m args meth c y base b dA D n0 z0 sc h') (hK : ∀ pc L S h, K pc L S h = some (r, h') → ms_P h h' ∧ ms_Go p l e R s m args below meth c Q y base b dA D n0 z0 pc L S h)  (hd : decode (ms_B y) pc = .ok (.pop, 1)) (ee : ms_step sc y pc K CA (.pop) L S h = some (r, h')) : ms_P h h' ∧ ms_Go p l e R s m args below meth c Q y base b dA D n0 z0 pc L S h := by
  obtain ⟨hx, hb, hml, hown, hts, hK0, hin, hF, hW, hX, hrc, hrs, hs0⟩ := C
  simp only [ms_step] at ee
  split at ee
  · split at ee
    · rename_i h1
      obtain ⟨hp, hg⟩ := hK _ _ _ _ ee
      exact ⟨hp, fun ls H locs cells slots hl hr => lv_pop hx hb hd (ms_one_cat h1) (hg ls H locs cells slots hl hr)⟩
    · cases ee
  · cases ee
theorem so_dup2 (C : ms_Ctx p R s m args meth c y base b dA D n0 z0 sc h') (hK : ∀ pc L S h, K pc L S h = some (r, h') → ms_P h h' ∧ ms_Go p l e R s m args below meth c Q y base b dA D n0 z0 pc L S h)  (hd : decode (ms_B y) pc = .ok (.dup2, 1)) (ee : ms_step sc y pc K CA (.dup2) L S h = some (r, h')) : ms_P h h' ∧ ms_Go p l e R s m args below meth c Q y base b dA D n0 z0 pc L S h := by
  obtain ⟨hx, hb, hml, hown, hts, hK0, hin, hF, hW, hX, hrc, hrs, hs0⟩ := C
  simp only [ms_step] at ee
  split at ee
  · split at ee
    · rename_i h1
      rw [Bool.and_eq_true] at h1
      obtain ⟨hp, hg⟩ := hK _ _ _ _ ee
      exact ⟨hp, fun ls H locs cells slots hl hr => lv_dup2_11 hx hb hd (ms_one_cat h1.1) (ms_one_cat h1.2) (hg ls H locs cells slots hl hr)⟩
    · cases ee
  · cases ee
theorem so_goto (C : ms_Ctx p R s m args meth c y base b dA D n0 z0 sc h') (hK : ∀ pc L S h, K pc L S h = some (r, h') → ms_P h h' ∧ ms_Go p l e R s m args below meth c Q y base b dA D n0 z0 pc L S h) {o : Int} (hd : decode (ms_B y) pc = .ok (.goto o, 3)) (ee : ms_step sc y pc K CA (.goto o) L S h = some (r, h')) : ms_P h h' ∧ ms_Go p l e R s m args below meth c Q y base b dA D n0 z0 pc L S h := by
  obtain ⟨hx, hb, hml, hown, hts, hK0, hin, hF, hW, hX, hrc, hrs, hs0⟩ := C
  simp only [ms_step] at ee
  obtain ⟨t, ht, hk⟩ := ms_go_some ee
  obtain ⟨hp, hg⟩ := hK _ _ _ _ hk
  exact ⟨hp, fun ls H locs cells slots hl hr => lv_goto hx hb hd ht (hg ls H locs cells slots hl hr)⟩
theorem so_ifCond (C : ms_Ctx p R s m args meth c y base b dA D n0 z0 sc h') (hK : ∀ pc L S h, K pc L S h = some (r, h') → ms_P h h' ∧ ms_Go p l e R s m args below meth c Q y base b dA D n0 z0 pc L S h) {q : ClassFile.Cond} {o : Int} (hd : decode (ms_B y) pc = .ok (.ifCond q o, 3)) (ee : ms_step sc y pc K CA (.ifCond q o) L S h = some (r, h')) : ms_P h h' ∧ ms_Go p l e R s m args below meth c Q y base b dA D n0 z0 pc L S h := by
  obtain ⟨hx, hb, hml, hown, hts, hK0, hin, hF, hW, hX, hrc, hrs, hs0⟩ := C
  simp only [ms_step] at ee
  split at ee
  · obtain ⟨t, ht, ee⟩ := ms_go_some ee
    split at ee
    · rename_i hc _
      obtain ⟨hp, hg⟩ := hK _ _ _ _ ee
      refine ⟨hp, fun ls H locs cells slots hl hr => ?_⟩
      cases q <;> first
        | exact lv_if_eq hx hb hd ht (fun _ => hg ls H locs cells slots hl hr) (fun n => absurd hc n)
        | exact lv_if_ne hx hb hd ht (fun _ => hg ls H locs cells slots hl hr) (fun n => absurd n hc)
        | exact lv_if_lt hx hb hd ht (fun _ => hg ls H locs cells slots hl hr) (fun n => absurd hc n)
        | exact lv_if_ge hx hb hd ht (fun _ => hg ls H locs cells slots hl hr) (fun n => absurd hc n)
        | exact lv_if_gt hx hb hd ht (fun _ => hg ls H locs cells slots hl hr) (fun n => absurd hc n)
        | exact lv_if_le hx hb hd ht (fun _ => hg ls H locs cells slots hl hr) (fun n => absurd hc n)
    · rename_i hc _
      obtain ⟨hp, hg⟩ := hK _ _ _ _ ee
      refine ⟨hp, fun ls H locs cells slots hl hr => ?_⟩
      have hh := hg ls H locs cells slots hl hr
      cases q <;> first
        | exact lv_if_eq hx hb hd ht (fun n => absurd n hc) (fun _ => hh)
        | exact lv_if_ne hx hb hd ht (fun n => absurd n hc) (fun _ => hh)
        | exact lv_if_ne hx hb hd ht (fun n => absurd n hc) (fun _ => hh)
        | exact lv_if_lt hx hb hd ht (fun n => absurd n hc) (fun _ => hh)
        | exact lv_if_ge hx hb hd ht (fun n => absurd n hc) (fun _ => hh)
        | exact lv_if_gt hx hb hd ht (fun n => absurd n hc) (fun _ => hh)
        | exact lv_if_le hx hb hd ht (fun n => absurd n hc) (fun _ => hh)
  · cases ee
theorem so_if_icmp (C : ms_Ctx p R s m args meth c y base b dA D n0 z0 sc h') (hK : ∀ pc L S h, K pc L S h = some (r, h') → ms_P h h' ∧ ms_Go p l e R s m args below meth c Q y base b dA D n0 z0 pc L S h) {q : ClassFile.Cond} {o : Int} (hd : decode (ms_B y) pc = .ok (.if_icmp q o, 3)) (ee : ms_step sc y pc K CA (.if_icmp q o) L S h = some (r, h')) : ms_P h h' ∧ ms_Go p l e R s m args below meth c Q y base b dA D n0 z0 pc L S h := by
  obtain ⟨hx, hb, hml, hown, hts, hK0, hin, hF, hW, hX, hrc, hrs, hs0⟩ := C
  simp only [ms_step] at ee
  split at ee
  · obtain ⟨t, ht, ee⟩ := ms_go_some ee
    split at ee
    · rename_i hc _
      obtain ⟨hp, hg⟩ := hK _ _ _ _ ee
      refine ⟨hp, fun ls H locs cells slots hl hr => ?_⟩
      cases q <;> first
        | exact lv_icmp_eq hx hb hd ht (fun _ => hg ls H locs cells slots hl hr) (fun n => absurd hc n)
        | exact lv_icmp_ne hx hb hd ht (fun _ => hg ls H locs cells slots hl hr) (fun n => absurd n hc)
        | exact lv_icmp_lt hx hb hd ht (fun _ => hg ls H locs cells slots hl hr) (fun n => absurd hc n)
        | exact lv_icmp_ge hx hb hd ht (fun _ => hg ls H locs cells slots hl hr) (fun n => absurd hc n)
        | exact lv_icmp_gt hx hb hd ht (fun _ => hg ls H locs cells slots hl hr) (fun n => absurd hc n)
        | exact lv_icmp_le hx hb hd ht (fun _ => hg ls H locs cells slots hl hr) (fun n => absurd hc n)
    · rename_i hc _
      obtain ⟨hp, hg⟩ := hK _ _ _ _ ee
      refine ⟨hp, fun ls H locs cells slots hl hr => ?_⟩
      have hh := hg ls H locs cells slots hl hr
      cases q <;> first
        | exact lv_icmp_eq hx hb hd ht (fun n => absurd n hc) (fun _ => hh)
        | exact lv_icmp_ne hx hb hd ht (fun n => absurd n hc) (fun _ => hh)
        | exact lv_icmp_ne hx hb hd ht (fun n => absurd n hc) (fun _ => hh)
        | exact lv_icmp_lt hx hb hd ht (fun n => absurd n hc) (fun _ => hh)
        | exact lv_icmp_ge hx hb hd ht (fun n => absurd n hc) (fun _ => hh)
        | exact lv_icmp_gt hx hb hd ht (fun n => absurd n hc) (fun _ => hh)
        | exact lv_icmp_le hx hb hd ht (fun n => absurd n hc) (fun _ => hh)
  · cases ee
end SOUND

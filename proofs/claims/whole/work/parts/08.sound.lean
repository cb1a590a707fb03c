-- switches, fields, arrays, new cells, returns
section SOUND2
variable {p : Program} {l : Launch} {e : Env} {R : Room} {s : State} {m : MethodId} {args : Array Value} {below : List Frame} {meth : Method} {c : Code} {Q : State → Prop} {y base b : Nat} {dA : Nat → ClassId} {D : va_G} {n0 z0 : Nat} {sc : List Int32} {r : Option Value} {h' : List ms_C} {K : ms_KT} {CA : ms_CT} {pc : Nat} {L : List (Option Value)} {S : List Value} {h : List ms_C}
theorem so_tableswitch (C : ms_Ctx p R s m args meth c y base b dA D n0 z0 sc h') (hK : ∀ pc L S h, K pc L S h = some (r, h') → ms_P h h' ∧ ms_Go p l e R s m args below meth c Q y base b dA D n0 z0 pc L S h) {d lo hi : Int} {os : Array Int} {len : Nat} (hd : decode (ms_B y) pc = .ok (.tableswitch d lo hi os, len)) (ee : ms_step sc y pc K CA (.tableswitch d lo hi os) L S h = some (r, h')) : ms_P h h' ∧ ms_Go p l e R s m args below meth c Q y base b dA D n0 z0 pc L S h := by
  obtain ⟨hx, hb, hml, hown, hts, hK0, hin, hF, hW, hX, hrc, hrs, hs0⟩ := C
  simp only [ms_step] at ee
  split at ee
  · split at ee
    · rename_i hout
      obtain ⟨t, ht, ee⟩ := ms_go_some ee
      obtain ⟨hp, hg⟩ := hK _ _ _ _ ee
      exact ⟨hp, fun ls H locs cells slots hl hr => lv_tableOut hx hb hd hout ht (hg ls H locs cells slots hl hr)⟩
    · rename_i hout
      split at ee
      · rename_i o ho
        obtain ⟨t, ht, ee⟩ := ms_go_some ee
        obtain ⟨hp, hg⟩ := hK _ _ _ _ ee
        exact ⟨hp, fun ls H locs cells slots hl hr => lv_tableIn hx hb hd (fun n => hout (Or.inl n)) (fun n => hout (Or.inr n)) ho ht (hg ls H locs cells slots hl hr)⟩
      · cases ee
  · cases ee
theorem so_lookupswitch (C : ms_Ctx p R s m args meth c y base b dA D n0 z0 sc h') (hK : ∀ pc L S h, K pc L S h = some (r, h') → ms_P h h' ∧ ms_Go p l e R s m args below meth c Q y base b dA D n0 z0 pc L S h) {d : Int} {ps : Array (Int × Int)} {len : Nat} (hd : decode (ms_B y) pc = .ok (.lookupswitch d ps, len)) (ee : ms_step sc y pc K CA (.lookupswitch d ps) L S h = some (r, h')) : ms_P h h' ∧ ms_Go p l e R s m args below meth c Q y base b dA D n0 z0 pc L S h := by
  obtain ⟨hx, hb, hml, hown, hts, hK0, hin, hF, hW, hX, hrc, hrs, hs0⟩ := C
  simp only [ms_step] at ee
  split at ee
  · split at ee
    · rename_i hs
      obtain ⟨t, ht, ee⟩ := ms_go_some ee
      obtain ⟨hp, hg⟩ := hK _ _ _ _ ee
      exact ⟨hp, fun ls H locs cells slots hl hr => lv_lookup hx hb hd hs rfl ht (hg ls H locs cells slots hl hr)⟩
    · cases ee
  · cases ee
theorem ms_get_some {h : List ms_C} {a ci k : Nat} {v : Value} (e : ms_get h a ci k = some v) : ∃ fs, h[a]? = some (.inl (ci, fs)) ∧ fs[k]? = some v := by
  unfold ms_get at e
  split at e
  · rename_i cj fs hh
    split at e
    · rename_i hc
      subst hc
      exact ⟨fs, hh, e⟩
    · cases e
  · cases e
theorem so_getfield (C : ms_Ctx p R s m args meth c y base b dA D n0 z0 sc h') (hK : ∀ pc L S h, K pc L S h = some (r, h') → ms_P h h' ∧ ms_Go p l e R s m args below meth c Q y base b dA D n0 z0 pc L S h) {i : Nat} (hd : decode (ms_B y) pc = .ok (.getfield i, 3)) (ee : ms_step sc y pc K CA (.getfield i) L S h = some (r, h')) : ms_P h h' ∧ ms_Go p l e R s m args below meth c Q y base b dA D n0 z0 pc L S h := by
  obtain ⟨hx, hb, hml, hown, hts, hK0, hin, hF, hW, hX, hrc, hrs, hs0⟩ := C
  simp only [ms_step] at ee
  split at ee
  · rename_i a S1
    split at ee
    · rename_i ci k hf
      split at ee
      · rename_i v hv
        obtain ⟨hp, hg⟩ := hK _ _ _ _ ee
        obtain ⟨q, hq, hk, hw⟩ := gd_fl hf
        obtain ⟨fs, hfs, hfk⟩ := ms_get_some hv
        refine ⟨hp, fun ls H locs cells slots hl hr => ?_⟩
        exact va_get (D := D) (ci := ci) (v := ms_tv base b v) (C := q.1) (T := q.2.1) (N := q.2.2) hx hb hts (ms_uws ci q hq) hown hK0.1 hr.2.2.2.2.1 a (ms_ws_get hfs) hq k hk (hts _ hw) (fun _ h9 => h9) (by rw [List.getElem?_map, hfk]; rfl) hd (hg ls H locs cells slots hl hr)
      · cases ee
    · cases ee
  · cases ee
theorem ms_fit_ok {ci : Nat} {q : vw_C} (hq : vwCl[ci]? = some q) {k : Nat} (hk : k < q.2.2) {v : Value} (hf : ms_fit (q.2.1 k).2.2.1 v = true) (base b : Nat) : narrow (ms_ty0 ci k) (ms_tv base b v) = ms_tv base b v ∧ fits (ms_ty0 ci k) (ms_tv base b v) = true := by
  have h1 := ms_kindk ci q hq k hk
  cases v with
  | int x =>
    have hi : (q.2.1 k).2.2.1 = "I" := by simpa [ms_fit] using hf
    rw [if_pos hi] at h1
    rw [of_decide_eq_true h1]
    exact ⟨rfl, rfl⟩
  | ref x =>
    have hi : ¬ (q.2.1 k).2.2.1 = "I" := by simpa [ms_fit] using hf
    rw [if_neg hi] at h1
    cases ht : ms_ty0 ci k with
    | array t => exact ⟨rfl, rfl⟩
    | object t => exact ⟨rfl, rfl⟩
    | _ => rw [ht] at h1; cases h1
  | _ => simp [ms_fit] at hf
/-- a cell of the small heap put anew: what its row gives is the relation again -/
theorem ms_put {h : List ms_C} {H H1 : Heap} {locs locs1 : List Loc} {cells slots : Nat} {a : Nat} {x z : ms_C} (hr : ms_Rel base b dA D n0 z0 h s H locs cells slots) (hz : h[a]? = some z) (hsz : ms_cs x = ms_cs z)
    (hP1 : va_P D vwCl ((ms_ws base b dA h).set a (base + a, ms_te base b dA x)) H1) (hS1 : va_S (ms_Ad base) H H1 locs1) (hb1 : H1.size ≤ s.heap.size + cells) : ms_Rel base b dA D n0 z0 (h.set a x) s H1 locs1 cells slots := by
  obtain ⟨r1, r2, r3, r4, r5, r6⟩ := hr
  have := hS1.1
  refine ⟨by simp; omega, by simpa using r2, r3, by rw [ms_sz_set hz hsz]; exact r4, by rw [← ms_ws_set]; exact hP1, ms_S1 r6 hS1⟩
theorem so_putfield (C : ms_Ctx p R s m args meth c y base b dA D n0 z0 sc h') (hK : ∀ pc L S h, K pc L S h = some (r, h') → ms_P h h' ∧ ms_Go p l e R s m args below meth c Q y base b dA D n0 z0 pc L S h) {i : Nat} (hd : decode (ms_B y) pc = .ok (.putfield i, 3)) (ee : ms_step sc y pc K CA (.putfield i) L S h = some (r, h')) : ms_P h h' ∧ ms_Go p l e R s m args below meth c Q y base b dA D n0 z0 pc L S h := by
  obtain ⟨hx, hb, hml, hown, hts, hK0, hin, hF, hW, hX, hrc, hrs, hs0⟩ := C
  simp only [ms_step] at ee
  split at ee
  · rename_i v a S1
    split at ee
    · rename_i ci k hf
      split at ee
      · rename_i C0 T0 N0 cj fs hv hfs
        split at ee
        · rename_i hc
          obtain ⟨hc1, hc2, hc3, hc4, hc5⟩ := hc
          subst hc1
          obtain ⟨q, hq, hk, hw⟩ := gd_fl hf
          have hqe : q = (C0, T0, N0) := Option.some.inj (hq.symm.trans hv)
          subst hqe
          obtain ⟨hp, hg⟩ := hK _ _ _ _ ee
          have hcs : ms_cs (.inl (cj, fs.set k v)) = ms_cs (.inl (cj, fs)) := by simp [ms_cs]
          refine ⟨hp.st hfs hcs, fun ls H locs cells slots hl hr => ?_⟩
          have hft := ms_fit_ok hq hk hc4 base b
          have hty := ms_tyk cj _ hq
          have hnm := ms_nmk cj _ hq
          have ex : ∀ H1 locs1, va_P D vwCl ((ms_ws base b dA h).set a (base + a, .inr (cj, (fs.map (ms_tv base b)).set k (ms_tv base b v)))) H1 → va_S (ms_Ad base) H H1 locs1 → H1.size ≤ s.heap.size + cells → W p l e R s m args below meth c H1 locs1 cells slots Q (F0 m (pc + 3) ls (S1.map (ms_tv base b))) := by
            intro H1 locs1 hP1 hS1 hb1
            refine hg ls H1 locs1 cells slots hl (ms_put hr hfs hcs ?_ hS1 hb1)
            simpa [ms_te, List.map_set] using hP1
          by_cases hfin : (T0 k).2.2.2 = false
          · exact va_put (D := D) (ci := cj) (v := ms_tv base b v) (ty := ms_ty0 cj k) (C := C0) (T := T0) (N := N0) hx hb hts (ms_uws cj _ hq) (ms_ty0 cj) hty hnm hown hK0.1 hr.2.2.2.2.1 (A := ms_Ad base) ms_D (ms_S0 hr.2.2.2.2.2) a (ms_ws_get hfs) hq k hk (hts _ hw) (fun _ h9 => h9) hfin (hty k hk) hft.1 hft.2 (by simpa using hc3) hd (fun H1 locs1 hP1 hD1 hS1 => ms_bound (fun hb1 => ex H1 locs1 hP1 hS1 hb1))
          · obtain ⟨hn1, hn2⟩ := hc5.resolve_left hfin
            exact va_putF (D := D) (ci := cj) (v := ms_tv base b v) (ty := ms_ty0 cj k) (C := C0) (T := T0) (N := N0) hx hb hts (ms_uws cj _ hq) (ms_ty0 cj) hty hnm hown hK0.1 hr.2.2.2.2.1 (A := ms_Ad base) ms_D (ms_S0 hr.2.2.2.2.2) a (ms_ws_get hfs) hq k hk (hts _ hw) (fun _ h9 => h9) (by simpa using hfin) (hin hn1) hn2 (hty k hk) hft.1 hft.2 (by simpa using hc3) hd (fun H1 locs1 hP1 hD1 hS1 => ms_bound (fun hb1 => ex H1 locs1 hP1 hS1 hb1))
        · cases ee
      · cases ee
    · cases ee
  · cases ee
theorem so_iaload (C : ms_Ctx p R s m args meth c y base b dA D n0 z0 sc h') (hK : ∀ pc L S h, K pc L S h = some (r, h') → ms_P h h' ∧ ms_Go p l e R s m args below meth c Q y base b dA D n0 z0 pc L S h)  (hd : decode (ms_B y) pc = .ok (.iaload, 1)) (ee : ms_step sc y pc K CA (.iaload) L S h = some (r, h')) : ms_P h h' ∧ ms_Go p l e R s m args below meth c Q y base b dA D n0 z0 pc L S h := by
  obtain ⟨hx, hb, hml, hown, hts, hK0, hin, hF, hW, hX, hrc, hrs, hs0⟩ := C
  simp only [ms_step] at ee
  split at ee
  · rename_i i a S1
    split at ee
    · rename_i l1 hh
      split at ee
      · rename_i j hj
        obtain ⟨hi, rfl⟩ := ms_iat_some hj
        obtain ⟨hp, hg⟩ := hK _ _ _ _ ee
        exact ⟨hp, fun ls H locs cells slots hl hr => va_iald (D := D) hx hb hK0.1 hr.2.2.2.2.1 a 0 (ms_ws_get hh) rfl hi hd (hg ls H locs cells slots hl hr)⟩
      · cases ee
    · cases ee
  · rename_i i x S1
    split at ee
    · rename_i j hj
      obtain ⟨hi, rfl⟩ := ms_iat_some hj
      obtain ⟨hp, hg⟩ := hK _ _ _ _ ee
      exact ⟨hp, fun ls H locs cells slots hl hr => va_sld hx hb hX.1 (by have := hX.2; omega) (by have := hX.2; show ¬ base ≤ b; omega) hr.2.2.2.2.2 hi hd (hg ls H locs cells slots hl hr)⟩
    · cases ee
  · cases ee
theorem so_caload (C : ms_Ctx p R s m args meth c y base b dA D n0 z0 sc h') (hK : ∀ pc L S h, K pc L S h = some (r, h') → ms_P h h' ∧ ms_Go p l e R s m args below meth c Q y base b dA D n0 z0 pc L S h)  (hd : decode (ms_B y) pc = .ok (.caload, 1)) (ee : ms_step sc y pc K CA (.caload) L S h = some (r, h')) : ms_P h h' ∧ ms_Go p l e R s m args below meth c Q y base b dA D n0 z0 pc L S h := by
  obtain ⟨hx, hb, hml, hown, hts, hK0, hin, hF, hW, hX, hrc, hrs, hs0⟩ := C
  simp only [ms_step] at ee
  split at ee
  · rename_i i a S1
    split at ee
    · rename_i l1 hh
      split at ee
      · rename_i j hj
        obtain ⟨hi, rfl⟩ := ms_iat_some hj
        obtain ⟨hp, hg⟩ := hK _ _ _ _ ee
        exact ⟨hp, fun ls H locs cells slots hl hr => va_cald (D := D) hx hb hK0.1 hr.2.2.2.2.1 a 1 (ms_ws_get hh) rfl hi hd (hg ls H locs cells slots hl hr)⟩
      · cases ee
    · cases ee
  · cases ee
theorem ms_upd {l : List Int32} {j : Nat} (x : Int32) (hj : j < l.length) : (fun i => (l.set j x).getD i 0) = upd (fun i => l.getD i 0) j x := by
  funext i
  by_cases hi : i = j
  · subst hi
    simp [upd, hj]
  · simp [upd, hi, List.getD_eq_getElem?_getD, List.getElem?_set, Ne.symm hi]
theorem ms_in_lt {i : Int32} {n : Nat} (h : vp_in i n) : i.toNatClampNeg < n := Nat.not_le.mp fun q => h (Or.inr q)
theorem so_iastore (C : ms_Ctx p R s m args meth c y base b dA D n0 z0 sc h') (hK : ∀ pc L S h, K pc L S h = some (r, h') → ms_P h h' ∧ ms_Go p l e R s m args below meth c Q y base b dA D n0 z0 pc L S h)  (hd : decode (ms_B y) pc = .ok (.iastore, 1)) (ee : ms_step sc y pc K CA (.iastore) L S h = some (r, h')) : ms_P h h' ∧ ms_Go p l e R s m args below meth c Q y base b dA D n0 z0 pc L S h := by
  obtain ⟨hx, hb, hml, hown, hts, hK0, hin, hF, hW, hX, hrc, hrs, hs0⟩ := C
  simp only [ms_step] at ee
  split at ee
  · rename_i x i a S1
    split at ee
    · rename_i l1 hh
      split at ee
      · rename_i j hj
        obtain ⟨hi, rfl⟩ := ms_iat_some hj
        obtain ⟨hp, hg⟩ := hK _ _ _ _ ee
        have hcs : ms_cs (.inr (.inl (false, l1.set i.toNatClampNeg x))) = ms_cs (.inr (.inl (false, l1))) := by simp [ms_cs]
        refine ⟨hp.st hh hcs, fun ls H locs cells slots hl hr => ?_⟩
        refine va_iast (D := D) hx hb hK0.1 hr.2.2.2.2.1 (A := ms_Ad base) ms_D (ms_S0 hr.2.2.2.2.2) a 0 (ms_ws_get hh) rfl hi hd (fun H1 locs1 hP1 hD1 hS1 => ms_bound (fun hb1 => ?_))
        refine hg ls H1 locs1 cells slots hl (ms_put hr hh hcs ?_ hS1 hb1)
        have hu := ms_upd (l := l1) x (ms_in_lt hi)
        simp only [ms_te, List.length_set]
        rw [hu]
        exact hP1
      · cases ee
    · cases ee
  · cases ee
theorem so_castore (C : ms_Ctx p R s m args meth c y base b dA D n0 z0 sc h') (hK : ∀ pc L S h, K pc L S h = some (r, h') → ms_P h h' ∧ ms_Go p l e R s m args below meth c Q y base b dA D n0 z0 pc L S h)  (hd : decode (ms_B y) pc = .ok (.castore, 1)) (ee : ms_step sc y pc K CA (.castore) L S h = some (r, h')) : ms_P h h' ∧ ms_Go p l e R s m args below meth c Q y base b dA D n0 z0 pc L S h := by
  obtain ⟨hx, hb, hml, hown, hts, hK0, hin, hF, hW, hX, hrc, hrs, hs0⟩ := C
  simp only [ms_step] at ee
  split at ee
  · rename_i x i a S1
    split at ee
    · rename_i l1 hh
      split at ee
      · rename_i j hj
        obtain ⟨hi, rfl⟩ := ms_iat_some hj
        obtain ⟨hp, hg⟩ := hK _ _ _ _ ee
        have hcs : ms_cs (.inr (.inl (true, l1.set i.toNatClampNeg (vp_nar .char x)))) = ms_cs (.inr (.inl (true, l1))) := by simp [ms_cs]
        refine ⟨hp.st hh hcs, fun ls H locs cells slots hl hr => ?_⟩
        refine va_cast (D := D) hx hb hK0.1 hr.2.2.2.2.1 (A := ms_Ad base) ms_D (ms_S0 hr.2.2.2.2.2) a 1 (ms_ws_get hh) rfl hi hd (fun H1 locs1 hP1 hD1 hS1 => ms_bound (fun hb1 => ?_))
        refine hg ls H1 locs1 cells slots hl (ms_put hr hh hcs ?_ hS1 hb1)
        have hu := ms_upd (l := l1) (vp_nar .char x) (ms_in_lt hi)
        simp only [ms_te, List.length_set]
        rw [hu]
        exact hP1
      · cases ee
    · cases ee
  · cases ee
theorem ms_rf (q : Option Nat) (base : Nat) : va_rf (q.map (fun i => base + i)) = match q with
    | some i => Value.ref (base + i)
    | none => Value.null := by cases q <;> rfl
theorem ms_upq {l : List (Option Nat)} {j : Nat} (x : Nat) (hj : j < l.length) (base : Nat) : (fun i => ((l.set j (some x)).getD i none).map (fun i => base + i)) = va_up (fun i => (l.getD i none).map (fun i => base + i)) j (some (base + x)) := by
  funext i
  by_cases hi : i = j
  · subst hi
    simp [va_up, hj]
  · simp [va_up, hi, List.getD_eq_getElem?_getD, List.getElem?_set, Ne.symm hi]
theorem so_aaload (C : ms_Ctx p R s m args meth c y base b dA D n0 z0 sc h') (hK : ∀ pc L S h, K pc L S h = some (r, h') → ms_P h h' ∧ ms_Go p l e R s m args below meth c Q y base b dA D n0 z0 pc L S h)  (hd : decode (ms_B y) pc = .ok (.aaload, 1)) (ee : ms_step sc y pc K CA (.aaload) L S h = some (r, h')) : ms_P h h' ∧ ms_Go p l e R s m args below meth c Q y base b dA D n0 z0 pc L S h := by
  obtain ⟨hx, hb, hml, hown, hts, hK0, hin, hF, hW, hX, hrc, hrs, hs0⟩ := C
  simp only [ms_step] at ee
  split at ee
  · rename_i i a S1
    split at ee
    · rename_i l1 hh
      split at ee
      · rename_i j hj
        obtain ⟨hi, rfl⟩ := ms_iat_some hj
        split at ee
        · rename_i q hq
          obtain ⟨hp, hg⟩ := hK _ _ _ _ ee
          refine ⟨hp, fun ls H locs cells slots hl hr => va_aldq (D := D) hx hb hK0.1 hr.2.2.2.2.1 a 2 (ms_ws_get hh) rfl hi hd ?_⟩
          have := hg ls H locs cells slots hl hr
          rw [show va_rf ((l1.getD i.toNatClampNeg none).map (fun i => base + i)) = Value.ref (base + q) by rw [hq]; rfl]
          exact this
        · cases ee
      · cases ee
    · cases ee
  · cases ee
theorem so_aastore (C : ms_Ctx p R s m args meth c y base b dA D n0 z0 sc h') (hK : ∀ pc L S h, K pc L S h = some (r, h') → ms_P h h' ∧ ms_Go p l e R s m args below meth c Q y base b dA D n0 z0 pc L S h)  (hd : decode (ms_B y) pc = .ok (.aastore, 1)) (ee : ms_step sc y pc K CA (.aastore) L S h = some (r, h')) : ms_P h h' ∧ ms_Go p l e R s m args below meth c Q y base b dA D n0 z0 pc L S h := by
  obtain ⟨hx, hb, hml, hown, hts, hK0, hin, hF, hW, hX, hrc, hrs, hs0⟩ := C
  simp only [ms_step] at ee
  split at ee
  · rename_i q i a S1
    split at ee
    · rename_i l1 fs hh hq
      split at ee
      · rename_i j hj
        obtain ⟨hi, rfl⟩ := ms_iat_some hj
        obtain ⟨hp, hg⟩ := hK _ _ _ _ ee
        have hcs : ms_cs (.inr (.inr (l1.set i.toNatClampNeg (some q)))) = ms_cs (.inr (.inr l1)) := by simp [ms_cs]
        refine ⟨hp.st hh hcs, fun ls H locs cells slots hl hr => ?_⟩
        refine va_astq (D := D) (r := (RX4, TX4, 11)) hx hb hK0.1 hr.2.2.2.2.1 (A := ms_Ad base) ms_D (ms_S0 hr.2.2.2.2.2) a 2 q 4 (ms_ws_get hh) rfl (ms_ws_get hq) rfl hi hd (fun H1 locs1 hP1 hD1 hS1 => ms_bound (fun hb1 => ?_))
        refine hg ls H1 locs1 cells slots hl (ms_put hr hh hcs ?_ hS1 hb1)
        have hu := ms_upq (l := l1) q (ms_in_lt hi) base
        simp only [ms_te, List.length_set]
        rw [hu]
        exact hP1
      · cases ee
    · cases ee
  · cases ee
theorem so_arraylength (C : ms_Ctx p R s m args meth c y base b dA D n0 z0 sc h') (hK : ∀ pc L S h, K pc L S h = some (r, h') → ms_P h h' ∧ ms_Go p l e R s m args below meth c Q y base b dA D n0 z0 pc L S h)  (hd : decode (ms_B y) pc = .ok (.arraylength, 1)) (ee : ms_step sc y pc K CA (.arraylength) L S h = some (r, h')) : ms_P h h' ∧ ms_Go p l e R s m args below meth c Q y base b dA D n0 z0 pc L S h := by
  obtain ⟨hx, hb, hml, hown, hts, hK0, hin, hF, hW, hX, hrc, hrs, hs0⟩ := C
  simp only [ms_step] at ee
  split at ee
  · rename_i a S1
    split at ee
    · rename_i ch l1 hh
      obtain ⟨hp, hg⟩ := hK _ _ _ _ ee
      refine ⟨hp, fun ls H locs cells slots hl hr => ?_⟩
      cases ch with
      | false => exact va_alen (D := D) hx hb hK0.1 hr.2.2.2.2.1 a 0 (ms_ws_get hh) rfl rfl hd (hg ls H locs cells slots hl hr)
      | true => exact va_alen (D := D) hx hb hK0.1 hr.2.2.2.2.1 a 1 (ms_ws_get hh) rfl rfl hd (hg ls H locs cells slots hl hr)
    · rename_i l1 hh
      obtain ⟨hp, hg⟩ := hK _ _ _ _ ee
      exact ⟨hp, fun ls H locs cells slots hl hr => va_alen (D := D) hx hb hK0.1 hr.2.2.2.2.1 a 2 (ms_ws_get hh) rfl rfl hd (hg ls H locs cells slots hl hr)⟩
    · cases ee
  · obtain ⟨hp, hg⟩ := hK _ _ _ _ ee
    exact ⟨hp, fun ls H locs cells slots hl hr => va_slen hx hb hX.1 (by have := hX.2; omega) (by have := hX.2; show ¬ base ≤ b; omega) hr.2.2.2.2.2 hd (hg ls H locs cells slots hl hr)⟩
  · cases ee
/-- a new cell behind the others -/
theorem ms_push {h : List ms_C} {H H1 : Heap} {locs locs1 : List Loc} {cells slots q : Nat} {x : ms_C} (hr : ms_Rel base b dA D n0 z0 h s H locs cells slots)
    (hP1 : va_P D vwCl (ms_ws base b dA h ++ [(q, ms_te base b dA x)]) H1) (hD1 : va_D (ms_Ad base) (ms_ws base b dA h ++ [(q, ms_te base b dA x)])) (hS1 : va_S (ms_Ad base) s.heap H1 locs1) (hb1 : H1.size ≤ s.heap.size + (cells + 1)) : q = base + h.length ∧ ms_Rel base b dA D n0 z0 (h ++ [x]) s H1 locs1 (cells + 1) (slots + ms_cs x) := by
  obtain ⟨r1, r2, r3, r4, r5, r6⟩ := hr
  have hlen : (ms_ws base b dA h).length = h.length := by simp [ms_ws]
  have hg : (ms_ws base b dA h ++ [(q, ms_te base b dA x)])[h.length]? = some (q, ms_te base b dA x) := by
    rw [List.getElem?_append_right (by omega), hlen]; simp
  have hq1 : q < H1.size := (hP1 _ _ hg).lt
  have hq2 : base ≤ q := hD1.2 _ _ hg
  have hq3 : ¬ q < base + h.length := by
    intro hlt
    obtain ⟨i, hi⟩ : ∃ i, q = base + i := ⟨q - base, by omega⟩
    have hil : i < h.length := by omega
    have hgi : (ms_ws base b dA h ++ [(q, ms_te base b dA x)])[i]? = some (base + i, ms_te base b dA h[i]) := by
      rw [List.getElem?_append_left (by omega)]
      exact ms_ws_get (List.getElem?_eq_getElem hil)
    have := hD1.1 i h.length _ _ hgi hg hi.symm
    omega
  have hq : q = base + h.length := by omega
  refine ⟨hq, by simp; omega, by simp; omega, r3, by rw [ms_sz_app]; omega, ?_, hS1⟩
  rw [ms_ws_app, ← hq]
  exact hP1
theorem ms_cls_int {s : State} {q dI : ClassId} {ty : FieldType} (h1 : va_RA s q ty) (h2 : va_RA s dI ty) : q = dI := by
  cases ty with
  | object C =>
    obtain ⟨_, _, _, _, _, a⟩ := h1
    obtain ⟨_, _, _, _, _, a'⟩ := h2
    exact Option.some.inj (a.symm.trans a')
  | _ => exact Option.some.inj ((show s.vm.findClass _ = some q from h1).symm.trans h2)
theorem so_newarray (C : ms_Ctx p R s m args meth c y base b dA D n0 z0 sc h') (hK : ∀ pc L S h, K pc L S h = some (r, h') → ms_P h h' ∧ ms_Go p l e R s m args below meth c Q y base b dA D n0 z0 pc L S h) {t : ArrayType} (hd : decode (ms_B y) pc = .ok (.newarray t, 2)) (ee : ms_step sc y pc K CA (.newarray t) L S h = some (r, h')) : ms_P h h' ∧ ms_Go p l e R s m args below meth c Q y base b dA D n0 z0 pc L S h := by
  obtain ⟨hx, hb, hml, hown, hts, hK0, hin, hF, hW, hX, hrc, hrs, hs0⟩ := C
  simp only [ms_step] at ee
  split at ee
  · rename_i n S1
    split at ee
    · cases ee
    rename_i hn
    split at ee
    · have hp0 := (hK _ _ _ _ ee).1
      have hg := (hK _ _ _ _ ee).2
      refine ⟨hp0.ap, fun ls H locs cells slots hl hr => ?_⟩
      obtain ⟨g1, g2⟩ := hp0
      rw [ms_sz_app] at g2
      simp only [List.length_append, List.length_cons, List.length_nil, ms_cs, List.length_replicate] at g1 g2
      have r2 := hr.2.1
      have r4 := hr.2.2.2.1
      refine va_newa (D := D) (atype := .int) (ty := .int) (a0 := (n.toNatClampNeg, .inl (fun _ => 0))) hx hb (hts _ gd_ar.1) rfl hK0.1 hr.2.2.2.2.1 (A := ms_Ad base) ms_D hr.2.2.2.2.2 (fun q hq => by show base ≤ q; omega) (fun _ => rfl) (fun q => hn (Or.inl q)) rfl (by have : ¬ 1000 < n.toNatClampNeg := fun q => hn (Or.inr q); simp only [componentBytes]; omega) (by omega) (by omega) hd (fun q cA H1 hK1 hP1 hD1 hS1 => ms_bound (fun hb1 => ?_))
      have hcA : cA = dA 0 := ms_cls_int (hK1.2 3 _ rfl).2 (hK0.1.2 0 _ rfl).2
      subst hcA
      have hte : ((n.toNatClampNeg, .inl (fun _ => 0)) : vp_A) = (n.toNatClampNeg, .inl (fun j => (List.replicate n.toNatClampNeg (0 : Int32)).getD j 0)) := by
        congr 2
        funext j
        by_cases hj : j < n.toNatClampNeg <;> simp [hj]
      have hx2 := ms_push (x := .inr (.inl (false, List.replicate n.toNatClampNeg 0))) hr (q := q) (H1 := H1) (by simpa [ms_te, hte] using hP1) (by simpa [ms_te, hte] using hD1) hS1 hb1
      obtain ⟨rfl, hr1⟩ := hx2
      have := hg ls H1 locs (cells + 1) (slots + n.toNatClampNeg) hl (by simpa [ms_cs] using hr1)
      exact this
    · have hp0 := (hK _ _ _ _ ee).1
      have hg := (hK _ _ _ _ ee).2
      refine ⟨hp0.ap, fun ls H locs cells slots hl hr => ?_⟩
      obtain ⟨g1, g2⟩ := hp0
      rw [ms_sz_app] at g2
      simp only [List.length_append, List.length_cons, List.length_nil, ms_cs, List.length_replicate] at g1 g2
      have r2 := hr.2.1
      have r4 := hr.2.2.2.1
      refine va_newa (D := D) (atype := .char) (ty := .char) (a0 := (n.toNatClampNeg, .inl (fun _ => 0))) hx hb (hts _ gd_ar.2.1) rfl hK0.1 hr.2.2.2.2.1 (A := ms_Ad base) ms_D hr.2.2.2.2.2 (fun q hq => by show base ≤ q; omega) (fun _ => rfl) (fun q => hn (Or.inl q)) rfl (by have : ¬ 1000 < n.toNatClampNeg := fun q => hn (Or.inr q); simp only [componentBytes]; omega) (by omega) (by omega) hd (fun q cA H1 hK1 hP1 hD1 hS1 => ms_bound (fun hb1 => ?_))
      have hcA : cA = dA 1 := ms_cls_int (hK1.2 3 _ rfl).2 (hK0.1.2 1 _ rfl).2
      subst hcA
      have hte : ((n.toNatClampNeg, .inl (fun _ => 0)) : vp_A) = (n.toNatClampNeg, .inl (fun j => (List.replicate n.toNatClampNeg (0 : Int32)).getD j 0)) := by
        congr 2
        funext j
        by_cases hj : j < n.toNatClampNeg <;> simp [hj]
      have hx2 := ms_push (x := .inr (.inl (true, List.replicate n.toNatClampNeg 0))) hr (q := q) (H1 := H1) (by simpa [ms_te, hte] using hP1) (by simpa [ms_te, hte] using hD1) hS1 hb1
      obtain ⟨rfl, hr1⟩ := hx2
      have := hg ls H1 locs (cells + 1) (slots + n.toNatClampNeg) hl (by simpa [ms_cs] using hr1)
      exact this
    · cases ee
  · cases ee
theorem so_anewarray (C : ms_Ctx p R s m args meth c y base b dA D n0 z0 sc h') (hK : ∀ pc L S h, K pc L S h = some (r, h') → ms_P h h' ∧ ms_Go p l e R s m args below meth c Q y base b dA D n0 z0 pc L S h) {i : Nat} (hd : decode (ms_B y) pc = .ok (.anewarray i, 3)) (ee : ms_step sc y pc K CA (.anewarray i) L S h = some (r, h')) : ms_P h h' ∧ ms_Go p l e R s m args below meth c Q y base b dA D n0 z0 pc L S h := by
  obtain ⟨hx, hb, hml, hown, hts, hK0, hin, hF, hW, hX, hrc, hrs, hs0⟩ := C
  simp only [ms_step] at ee
  split at ee
  · rename_i n S1
    split at ee
    · cases ee
    · rename_i hn
      have hp0 := (hK _ _ _ _ ee).1
      have hg := (hK _ _ _ _ ee).2
      have hn4 : ms_n (ms_O y) i = some 4 := Classical.byContradiction fun q => hn (Or.inr (Or.inr q))
      obtain ⟨q4, hq4, hw, -, -, -⟩ := gd_n hn4
      have hqe : q4 = (RX4, TX4, 11) := Option.some.inj (hq4.symm.trans rfl)
      subst hqe
      refine ⟨hp0.ap, fun ls H locs cells slots hl hr => ?_⟩
      obtain ⟨g1, g2⟩ := hp0
      rw [ms_sz_app] at g2
      simp only [List.length_append, List.length_cons, List.length_nil, ms_cs, List.length_replicate] at g1 g2
      have r2 := hr.2.1
      have r4 := hr.2.2.2.1
      refine va_newq (D := D) (C := "MayorsChair$Town") hx hb hown (hts _ hw) hK0.2.1 hK0.1 hr.2.2.2.2.1 (A := ms_Ad base) ms_D hr.2.2.2.2.2 (fun q hq => by show base ≤ q; omega) (fun q => hn (Or.inl q)) rfl (by have : ¬ 1000 < n.toNatClampNeg := fun q => hn (Or.inr (Or.inl q)); omega) (by omega) (by omega) hd (fun q cA H1 hK1 hP1 hD1 hS1 => ms_bound (fun hb1 => ?_))
      have hcA : cA = dA 2 := ms_cls_int (hK1.2 3 _ rfl).2 (hK0.1.2 2 _ rfl).2
      subst hcA
      have hte : ((n.toNatClampNeg, .inr (.inr (.inr (.inr (fun _ => none))))) : vp_A) = (n.toNatClampNeg, .inr (.inr (.inr (.inr (fun j => ((List.replicate n.toNatClampNeg (none : Option Nat)).getD j none).map (fun i => base + i)))))) := by
        congr 5
        funext j
        by_cases hj : j < n.toNatClampNeg <;> simp [hj]
      have hx2 := ms_push (x := .inr (.inr (List.replicate n.toNatClampNeg none))) hr (q := q) (H1 := H1) (by simpa [ms_te, hte] using hP1) (by simpa [ms_te, hte] using hD1) hS1 hb1
      obtain ⟨rfl, hr1⟩ := hx2
      have := hg ls H1 locs (cells + 1) (slots + n.toNatClampNeg) hl (by simpa [ms_cs] using hr1)
      exact this
  · cases ee
theorem so_new (C : ms_Ctx p R s m args meth c y base b dA D n0 z0 sc h') (hK : ∀ pc L S h, K pc L S h = some (r, h') → ms_P h h' ∧ ms_Go p l e R s m args below meth c Q y base b dA D n0 z0 pc L S h) {i : Nat} (hd : decode (ms_B y) pc = .ok (.new i, 3)) (ee : ms_step sc y pc K CA (.new i) L S h = some (r, h')) : ms_P h h' ∧ ms_Go p l e R s m args below meth c Q y base b dA D n0 z0 pc L S h := by
  obtain ⟨hx, hb, hml, hown, hts, hK0, hin, hF, hW, hX, hrc, hrs, hs0⟩ := C
  simp only [ms_step] at ee
  split at ee
  · rename_i ci hci
    have hp0 := (hK _ _ _ _ ee).1
    have hg := (hK _ _ _ _ ee).2
    obtain ⟨q, hq, hw1, hw2, hw3, hdl⟩ := gd_n hci
    refine ⟨hp0.ap, fun ls H locs cells slots hl hr => ?_⟩
    obtain ⟨g1, g2⟩ := hp0
    rw [ms_sz_app] at g2
    simp only [List.length_append, List.length_cons, List.length_nil, ms_cs] at g1 g2
    have r2 := hr.2.1
    have r4 := hr.2.2.2.1
    have hdm : (ms_d ci).map (ms_tv base b) = ms_d ci := by
      have hv := ms_dval ci q hq
      have key : ∀ l : List Value, (∀ v ∈ l, v = .null ∨ v = .int 0) → l.map (ms_tv base b) = l := by
        intro l
        induction l with
        | nil => intro _; rfl
        | cons v t ih =>
          intro h9
          rw [List.map_cons, ih (fun w hw => h9 w (List.mem_cons_of_mem _ hw))]
          rcases h9 v List.mem_cons_self with rfl | rfl <;> rfl
      exact key _ hv
    refine va_new (D := D) (ci := ci) (fs := ms_d ci) (C := q.1) (T := q.2.1) (N := q.2.2) hx hb hts (ms_uws ci q hq) (ms_ty0 ci) (ms_tyk ci q hq) hown (hts _ hw1) (hts _ hw2) (hts _ hw3) hK0.1 hr.2.2.2.2.1 (A := ms_Ad base) ms_D hr.2.2.2.2.2 (fun q hq => by show base ≤ q; omega) hq (fun j hj => ms_dflt ci q hq j hj) (by omega) (by omega) hd (fun q1 H1 hP1 hD1 hS1 => ms_bound (fun hb1 => ?_))
    have hx2 := ms_push (x := .inl (ci, ms_d ci)) hr (q := q1) (H1 := H1) (by simpa [ms_te, hdm] using hP1) (by simpa [ms_te, hdm] using hD1) hS1 hb1
    obtain ⟨rfl, hr1⟩ := hx2
    have := hg ls H1 locs (cells + 1) (slots + (ms_d ci).length) hl (by simpa [ms_cs] using hr1)
    rw [hdl] at this
    exact this
  · cases ee
end SOUND2

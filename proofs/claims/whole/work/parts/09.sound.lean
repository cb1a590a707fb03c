-- calls and returns; the runs
def ms_In (base b : Nat) (dA : Nat → ClassId) (D : va_G) (sc : List Int32) (h : List ms_C) (U : State) : Prop := U.heap.size = base + h.length ∧ va_P D vwCl (ms_ws base b dA h) U.heap ∧ ms_K D dA U ∧ ms_Xs base b sc U
def ms_Out (base b : Nat) (dA : Nat → ClassId) (D : va_G) (r1 : Option Value) (h1 : List ms_C) : Array Value → State → Outcome → State → Prop := fun _ st o t => o = .returned (r1.map (ms_tv base b)) ∧ t.heap.size = base + h1.length ∧ va_P D vwCl (ms_ws base b dA h1) t.heap ∧ va_F (ms_Ad base) st t
def ms_w (z : Nat) : List Cond := Cond.code (ms_Y z) (ms_B z) (ms_L z) (ms_R z) :: lw_good
def ms_Met (l : Launch) (base b : Nat) (dA : Nat → ClassId) (D : va_G) (sc : List Int32) (z : Nat) (vs : List Value) (h : List ms_C) (r1 : Option Value) (h1 : List ms_C) : Prop :=
  Met l (ms_Y z) (ms_w z) ({ frames := ms_F z, cells := h1.length - h.length, slots := ms_sz h1 - ms_sz h, locals := ms_W z }) (va_Pc (vs.map (ms_tv base b)) (ms_In base b dA D sc h)) (ms_Out base b dA D r1 h1) (h1.length - h.length) (ms_sz h1 - ms_sz h) (ms_Ad base)
theorem ms_K.moved {D : va_G} {dA : Nat → ClassId} {u U : State} (hW : u.WarmedH U.vm) (h : ms_K D dA u) : ms_K D dA U :=
  ⟨va_K.moved hW.alike h.1, va_AO.moved hW.alike h.2.1, fun q hq => va_Nw.warmM hW (h.2.2 q hq)⟩
theorem ms_K.same {D : va_G} {dA : Nat → ClassId} {u U : State} (e : u.vm = U.vm) (h : ms_K D dA u) : ms_K D dA U :=
  ⟨va_K.moved (by rw [e]; exact Vm.Alike.refl _) h.1, va_AO.moved (by rw [e]; exact Vm.Alike.refl _) h.2.1, fun q hq => va_Nw.same rfl e (h.2.2 q hq)⟩
theorem ms_blind (base b : Nat) (dA : Nat → ClassId) (D : va_G) (sc : List Int32) (h : List ms_C) (av : List Value) : FrameBlind (va_Pc av (ms_In base b dA D sc h)) := by
  intro a U g mk hq
  obtain ⟨h0, h1, h2, h3, h4⟩ := hq
  exact ⟨h0, h1, h2, ms_K.same (u := U) (U := U.calling g mk a) rfl h3, va_X.moved (u := U) (U := U.calling g mk a) (Vm.Alike.refl U.vm) h4.1, h4.2⟩
theorem ms_take {S : List Value} {n : Nat} {v : Value} (h0 : 0 < n) (h : S[n - 1]? = some v) : S.take n = S.take (n - 1) ++ [v] ∧ S = S.take (n - 1) ++ v :: S.drop n := by
  have h1 : S.take n = S.take (n - 1) ++ [v] := by
    have : n = (n - 1) + 1 := by omega
    rw [this, List.take_succ, Nat.add_sub_cancel, h]
    rfl
  refine ⟨h1, ?_⟩
  have h2 := List.take_append_drop n S
  rw [h1] at h2
  simpa using h2.symm
section SOUND3
variable {p : Program} {l : Launch} {e : Env} {R : Room} {s : State} {m : MethodId} {args : Array Value} {below : List Frame} {meth : Method} {c : Code} {Q : State → Prop} {y base b : Nat} {dA : Nat → ClassId} {D : va_G} {n0 z0 : Nat} {sc : List Int32} {r : Option Value} {h' : List ms_C} {K : ms_KT} {CA : ms_CT} {pc : Nat} {L : List (Option Value)} {S : List Value} {h : List ms_C}
theorem ms_back {mc ms : Nat} {H : Heap} {locs : List Loc} {cells slots : Nat} {ls : Array Slot} {rest st0 : List Value} {a : Array Value} {r1 : Option Value} {h1 : List ms_C} (hr : va_Run p l e R s m args below meth c H locs cells slots mc ms (F0 m pc ls st0) rest (ms_Out base b dA D r1 h1 a) (ms_Ad base)) (hS : va_S (ms_Ad base) s.heap H locs)
    (kk : ∀ (H1 : Heap) (locs1 : List Loc), H1.size = base + h1.length → va_P D vwCl (ms_ws base b dA h1) H1 → va_S (ms_Ad base) s.heap H1 locs1 → W p l e R s m args below meth c H1 locs1 (cells + mc) (slots + ms) Q (F0 m (pc + 3) ls ((r1.map (ms_tv base b)).toList ++ rest))) : W p l e R s m args below meth c H locs cells slots Q (F0 m pc ls st0) := by
  intro T hT X
  obtain ⟨v, st₀, t, T', L, h0, X', hL, e1, e2, ⟨hv, hs, hp, hz, hk⟩, st⟩ := hr T hT X
  have hv := Outcome.returned.inj hv
  subst hv
  rw [h0] at hz hk
  obtain ⟨t2, a1, b1⟩ := kk T'.heap (locs ++ L) (by rw [e1]; exact hs) (by rw [e1]; exact hp)
    ⟨Nat.le_trans hS.1 (by rw [e1]; exact hz), fun q h1 h2 => by rw [e1, hk q (Nat.lt_of_lt_of_le h1 hS.1) h2]; exact hS.2.1 q h1 h2, fun q hq => by
      rcases List.mem_append.mp hq with h | h
      · exact hS.2.2 q h
      · exact hL q h⟩ T' rfl X'
  exact ⟨t2, st t2 a1, b1⟩
theorem ms_call_some {kind z : Nat} {w : ms_Rs} (ee : ms_call y pc K CA kind z L S h = some w) : ∃ r1 h1, ms_A z ≤ S.length ∧ ms_F z + 1 ≤ ms_F y ∧ 8 + (ms_L z + 11) + ms_W z ≤ ms_W y ∧ ((S.drop (ms_A z)).map fun v => v.category).sum ≤ 8 ∧ (ms_args (S.take (ms_A z)).reverse).length ≤ ms_L z ∧ (∀ v ∈ (S.take (ms_A z)).reverse, ∀ x, v ≠ .double x) ∧ CA z (ms_init (S.take (ms_A z)).reverse (ms_L z)) h = some (r1, h1) ∧ K (pc + 3) L (r1.toList ++ S.drop (ms_A z)) h1 = some w := by
  unfold ms_call at ee
  split at ee
  · cases ee
  · rename_i hn
    split at ee
    · rename_i r1 h1 hc
      refine ⟨r1, h1, ?_, ?_, ?_, ?_, ?_, ?_, hc, ee⟩
      · exact Nat.not_lt.mp fun q => hn (Or.inl q)
      · exact Nat.not_lt.mp fun q => hn (Or.inr (Or.inl q))
      · exact Nat.not_lt.mp fun q => hn (Or.inr (Or.inr (Or.inl q)))
      · exact Nat.not_lt.mp fun q => hn (Or.inr (Or.inr (Or.inr (Or.inl q))))
      · exact Nat.not_lt.mp fun q => hn (Or.inr (Or.inr (Or.inr (Or.inr (Or.inl q)))))
      · intro v hv x hx
        have h9 : ¬ (S.take (ms_A z)).all ms_nd = false := fun q => hn (Or.inr (Or.inr (Or.inr (Or.inr (Or.inr q)))))
        have h8 : (S.take (ms_A z)).all ms_nd = true := by simpa using h9
        have := List.all_eq_true.mp h8 v (List.mem_reverse.mp hv)
        rw [hx] at this
        cases this
    · cases ee
theorem ms_cat_map (S : List Value) : ((S.map (ms_tv base b)).map fun v => v.category).sum = (S.map fun v => v.category).sum := by
  rw [List.map_map]
  congr 1
  exact List.map_congr_left (fun v _ => ms_tv_cat base b v)
/-- what every kind of call needs and gives -/
theorem ms_callK (C : ms_Ctx p R s m args meth c y base b dA D n0 z0 sc h') (hK : ∀ pc L S h, K pc L S h = some (r, h') → ms_P h h' ∧ ms_Go p l e R s m args below meth c Q y base b dA D n0 z0 pc L S h)
    (hCA : ∀ z vs h r1 h1, z < 132 → (ms_args vs).length ≤ ms_L z → (∀ v ∈ vs, ∀ x, v ≠ .double x) → CA z (ms_init vs (ms_L z)) h = some (r1, h1) → ms_P h h1 ∧ ms_Met l base b dA D sc z vs h r1 h1) {kind z : Nat} (hz : z < 132) (ee : ms_call y pc K CA kind z L S h = some (r, h'))
    (run : ∀ (H : Heap) (locs : List Loc) (cells slots : Nat) (ls : Array Slot) (r1 : Option Value) (h1 : List ms_C), ms_lv base b ls (ms_L y) L → ms_Rel base b dA D n0 z0 h s H locs cells slots → ms_F z + 1 ≤ ms_F y → 8 + (ms_L z + 11) + ms_W z ≤ ms_W y → ((S.drop (ms_A z)).map fun v => v.category).sum ≤ 8 → ms_A z ≤ S.length → ms_Met l base b dA D sc z (S.take (ms_A z)).reverse h r1 h1 → (cells + (h1.length - h.length) ≤ R.cells ∧ slots + (ms_sz h1 - ms_sz h) ≤ R.slots) →
      (∀ U : State, U.heap = H → s.WarmedH U.vm → va_Pc ((S.take (ms_A z)).reverse.map (ms_tv base b)) (ms_In base b dA D sc h) ((S.take (ms_A z)).reverse.map (ms_tv base b)).toArray U) →
      va_Run p l e R s m args below meth c H locs cells slots (h1.length - h.length) (ms_sz h1 - ms_sz h) (F0 m pc ls (S.map (ms_tv base b))) ((S.drop (ms_A z)).map (ms_tv base b)) (ms_Out base b dA D r1 h1 ((S.take (ms_A z)).reverse.map (ms_tv base b)).toArray) (ms_Ad base)) :
    ms_P h h' ∧ ms_Go p l e R s m args below meth c Q y base b dA D n0 z0 pc L S h := by
  obtain ⟨r1, h1, g1, g2, g3, g4, g5, g6, g7, g8⟩ := ms_call_some ee
  obtain ⟨hp1, hM⟩ := hCA z _ h r1 h1 hz g5 g6 g7
  obtain ⟨hp2, hg⟩ := hK _ _ _ _ g8
  refine ⟨hp1.tr hp2, fun ls H locs cells slots hl hr => ?_⟩
  obtain ⟨hx, hb, hml, hown, hts, hK0, hin, hF, hW, hX, hrc, hrs, hs0⟩ := C
  have r1' := hr.1
  have r2 := hr.2.1
  have r4 := hr.2.2.2.1
  have hp1' := hp1.1
  have hp1'' := hp1.2
  have hp2' := hp2.1
  have hp2'' := hp2.2
  refine ms_back (run H locs cells slots ls r1 h1 hl hr g2 g3 g4 g1 hM ⟨by omega, by omega⟩ ?_) hr.2.2.2.2.2 (fun H1 locs1 a1 a2 a3 => ?_)
  · intro U hU hW
    refine ⟨rfl, by rw [hU]; exact hr.1, by rw [hU]; exact hr.2.2.2.2.1, ms_K.moved hW hK0, ?_, hX.2⟩
    have h9 := hX.1.moved (U := U) hW.alike
    refine h9.kept ?_
    rw [hU]
    exact hr.2.2.2.2.2.2.1 b (by have := hX.2; omega) (by have := hX.2; show ¬ base ≤ b; omega)
  · have h9 := hg ls H1 locs1 (cells + (h1.length - h.length)) (slots + (ms_sz h1 - ms_sz h)) hl ⟨a1, by omega, hs0, by omega, a2, a3⟩
    rw [List.map_append] at h9
    have e9 : (r1.map (ms_tv base b)).toList = r1.toList.map (ms_tv base b) := by cases r1 <;> rfl
    rw [e9]
    exact h9
theorem ms_goodw {z : Nat} (hz : z < 132) : GoodIn lw_good (ms_w z) := ms_good (fun w hw => by
  rcases List.mem_cons.mp hw with rfl | hw
  · exact gd_code hz
  · exact hw)
theorem so_invokestatic (C : ms_Ctx p R s m args meth c y base b dA D n0 z0 sc h') (hK : ∀ pc L S h, K pc L S h = some (r, h') → ms_P h h' ∧ ms_Go p l e R s m args below meth c Q y base b dA D n0 z0 pc L S h)
    (hCA : ∀ z vs h r1 h1, z < 132 → (ms_args vs).length ≤ ms_L z → (∀ v ∈ vs, ∀ x, v ≠ .double x) → CA z (ms_init vs (ms_L z)) h = some (r1, h1) → ms_P h h1 ∧ ms_Met l base b dA D sc z vs h r1 h1) {i : Nat} (hd : decode (ms_B y) pc = .ok (.invokestatic i, 3)) (ee : ms_step sc y pc K CA (.invokestatic i) L S h = some (r, h')) : ms_P h h' ∧ ms_Go p l e R s m args below meth c Q y base b dA D n0 z0 pc L S h := by
  have C0 := C
  obtain ⟨hx, hb, hml, hown, hts, hK0, hin, hF, hW, hX, hrc, hrs, hs0⟩ := C
  simp only [ms_step] at ee
  split at ee
  · rename_i z hz
    have hc := ms_cok hz
    simp only [ms_cb, Bool.and_eq_true, decide_eq_true_eq] at hc
    obtain ⟨⟨⟨c1, c2⟩, c3⟩, c4⟩ := hc
    refine ms_callK C0 hK hCA c1 ee (fun H locs cells slots ls r1 h1 hl hr q1 q2 q3 q4 hM hf hpre => ?_)
    exact va_runS (As := (S.take (ms_A z)).reverse.map (ms_tv base b)) (ws := ms_w z) (Ts := lw_good) ⟨hx, hb, hml, hown, hts⟩ hM
      ⟨callB_of (ms_A z) hts (ms_goodw c1) rfl rfl rfl (hts _ (gd_cls c1).2) (hts _ (gd_ml c2)) ⟨(gd_plain c1).2.1, (gd_plain c1).2.2, c4⟩ ⟨by show ms_F z + 1 ≤ _; omega, by show 8 + (ms_L z + 11) + ms_W z ≤ _; omega⟩, hts _ (gd_sta c3)⟩
      ⟨ms_blind _ _ _ _ _ _ _, hpre⟩ rfl (by simp; omega) hl.1 (by rw [List.map_reverse, List.reverse_reverse, ← List.map_append, List.take_append_drop]) (lv_room (by rw [ms_cat_map]; exact q3)) hd hf
  · rename_i z hz
    have hc := ms_cok hz
    simp only [ms_cb, Bool.and_eq_true, decide_eq_true_eq] at hc
    obtain ⟨⟨⟨c1, c2⟩, c3⟩, c4⟩ := hc
    have hnest : va_Nw (.methodLinkNest (ms_cn (ms_O y)) i (ms_Y z) "MayorsChair") s := hK0.2.2 ((ms_O y, i), z) (List.contains_iff_mem.mp c2)
    refine ms_callK C0 hK hCA c1 ee (fun H locs cells slots ls r1 h1 hl hr q1 q2 q3 q4 hM hf hpre => ?_)
    exact va_runSN (host := "MayorsChair") (As := (S.take (ms_A z)).reverse.map (ms_tv base b)) (ws := ms_w z) (Ts := lw_good) ⟨hx, hb, hml, hown, hts⟩ hM
      ⟨va_cnB (ms_A z) hts (ms_goodw c1) rfl rfl rfl hnest (hts _ (gd_cls c1).2) ⟨(gd_plain c1).2.1, (gd_plain c1).2.2, c4⟩ ⟨by show ms_F z + 1 ≤ _; omega, by show 8 + (ms_L z + 11) + ms_W z ≤ _; omega⟩, hts _ (gd_sta c3), trivial⟩
      ⟨ms_blind _ _ _ _ _ _ _, hpre⟩ rfl (by simp; omega) hl.1 (by rw [List.map_reverse, List.reverse_reverse, ← List.map_append, List.take_append_drop]) (lv_room (by rw [ms_cat_map]; exact q3)) hd hf
  · rename_i z hz
    have hc := ms_cok hz
    simp only [ms_cb] at hc
    split at ee
    · rename_i bb aa S1
      split at ee
      · rename_i hr0
        obtain ⟨hp, hg⟩ := hK _ _ _ _ ee
        refine ⟨hp, fun ls H locs cells slots hl hr => ?_⟩
        have r2 := hr.2.1
        have r4 := hr.2.2.2.1
        have hp1 := hp.1
        have hp2 := hp.2
        exact va_mmax hx hb (by rw [hl.1]; exact hml) hown (hts _ (gd_max hc)) (hts _ gd_mm.1) (hts _ gd_mm.2.2.1) (hts _ gd_mm.2.2.2.1) (by omega) (by rw [ms_cat_map]; omega) (by omega) (by omega) hd (hg ls H locs cells slots hl hr)
      · cases ee
    · cases ee
  · rename_i z hz
    have hc := ms_cok hz
    simp only [ms_cb] at hc
    split at ee
    · rename_i bb aa S1
      split at ee
      · rename_i hr0
        obtain ⟨hp, hg⟩ := hK _ _ _ _ ee
        refine ⟨hp, fun ls H locs cells slots hl hr => ?_⟩
        have r2 := hr.2.1
        have r4 := hr.2.2.2.1
        have hp1 := hp.1
        have hp2 := hp.2
        exact va_mmin hx hb (by rw [hl.1]; exact hml) hown (hts _ (gd_min hc)) (hts _ gd_mm.2.1) (hts _ gd_mm.2.2.1) (hts _ gd_mm.2.2.2.2) (by omega) (by rw [ms_cat_map]; omega) (by omega) (by omega) hd (hg ls H locs cells slots hl hr)
      · cases ee
    · cases ee
  · cases ee
theorem so_invokevirtual (C : ms_Ctx p R s m args meth c y base b dA D n0 z0 sc h') (hK : ∀ pc L S h, K pc L S h = some (r, h') → ms_P h h' ∧ ms_Go p l e R s m args below meth c Q y base b dA D n0 z0 pc L S h)
    (hCA : ∀ z vs h r1 h1, z < 132 → (ms_args vs).length ≤ ms_L z → (∀ v ∈ vs, ∀ x, v ≠ .double x) → CA z (ms_init vs (ms_L z)) h = some (r1, h1) → ms_P h h1 ∧ ms_Met l base b dA D sc z vs h r1 h1) {i : Nat} (hd : decode (ms_B y) pc = .ok (.invokevirtual i, 3)) (ee : ms_step sc y pc K CA (.invokevirtual i) L S h = some (r, h')) : ms_P h h' ∧ ms_Go p l e R s m args below meth c Q y base b dA D n0 z0 pc L S h := by
  have C0 := C
  obtain ⟨hx, hb, hml, hown, hts, hK0, hin, hF, hW, hX, hrc, hrs, hs0⟩ := C
  simp only [ms_step] at ee
  split at ee
  · rename_i z hz
    have hc := ms_cok hz
    simp only [ms_cb, Bool.and_eq_true, decide_eq_true_eq] at hc
    obtain ⟨⟨⟨⟨⟨⟨c1, c2⟩, c3⟩, c4⟩, c5⟩, c6⟩, c7⟩ := hc
    split at ee
    · rename_i a ha
      split at ee
      · rename_i ci fs hfs
        split at ee
        · rename_i hci
          subst hci
          obtain ⟨t1, t2⟩ := ms_take c5 ha
          refine ms_callK C0 hK hCA c1 ee (fun H locs cells slots ls r1 h1 hl hr q1 q2 q3 q4 hM hf hpre => ?_)
          have e1 : (S.take (ms_A z)).reverse.map (ms_tv base b) = Value.ref (base + a) :: (S.take (ms_A z - 1)).reverse.map (ms_tv base b) := by rw [t1]; simp [ms_tv]
          obtain ⟨q, hq⟩ : ∃ q : vw_C, vwCl[ms_O z]? = some q := by
            cases hv : vwCl[ms_O z]? with
            | none => rw [hv] at c7; cases c7
            | some q => exact ⟨q, rfl⟩
          have hq1 : q.1 = (ms_Y z).cls := by rw [hq] at c7; exact Option.some.inj c7
          have hrecv := va_recv hK0.1 hr.2.2.2.2.1 hq (ms_ws_get hfs)
          rw [hq1] at hrecv
          rw [e1] at hpre ⊢
          refine va_runV (As := (S.take (ms_A z - 1)).reverse.map (ms_tv base b)) (b := base + a) (ws := ms_w z) (Ts := lw_good) (C := (ms_Y z).cls) ⟨hx, hb, hml, hown, hts⟩ hM
            ⟨callB_of (ms_A z - 1) hts (ms_goodw c1) rfl rfl rfl (hts _ (gd_cls c1).2) (hts _ (gd_ml c2)) ⟨(gd_plain c1).2.1, (gd_plain c1).2.2, c6⟩ ⟨by show ms_F z + 1 ≤ _; omega, by show 8 + (ms_L z + 11) + ms_W z ≤ _; omega⟩, hts _ (gd_inst c3), hts _ (gd_sel c4)⟩
            ⟨ms_blind _ _ _ _ _ _ _, hrecv, fun U hU hW => ?_⟩ rfl (by simp; omega) hl.1 ?_ (lv_room (by rw [ms_cat_map]; exact q3)) hd hf
          · rw [e1]; exact hpre U hU hW
          · show S.map (ms_tv base b) = _
            conv => lhs; rw [t2]
            simp [ms_tv]
        · cases ee
      · cases ee
    · cases ee
  · cases ee
theorem so_invokespecial (C : ms_Ctx p R s m args meth c y base b dA D n0 z0 sc h') (hK : ∀ pc L S h, K pc L S h = some (r, h') → ms_P h h' ∧ ms_Go p l e R s m args below meth c Q y base b dA D n0 z0 pc L S h)
    (hCA : ∀ z vs h r1 h1, z < 132 → (ms_args vs).length ≤ ms_L z → (∀ v ∈ vs, ∀ x, v ≠ .double x) → CA z (ms_init vs (ms_L z)) h = some (r1, h1) → ms_P h h1 ∧ ms_Met l base b dA D sc z vs h r1 h1) {i : Nat} (hd : decode (ms_B y) pc = .ok (.invokespecial i, 3)) (ee : ms_step sc y pc K CA (.invokespecial i) L S h = some (r, h')) : ms_P h h' ∧ ms_Go p l e R s m args below meth c Q y base b dA D n0 z0 pc L S h := by
  have C0 := C
  obtain ⟨hx, hb, hml, hown, hts, hK0, hin, hF, hW, hX, hrc, hrs, hs0⟩ := C
  simp only [ms_step] at ee
  split at ee
  · rename_i z hz
    have hc := ms_cok hz
    simp only [ms_cb] at hc
    split at ee
    · rename_i a
      split at ee
      · rename_i hroom
        obtain ⟨hp, hg⟩ := hK _ _ _ _ ee
        refine ⟨hp, fun ls H locs cells slots hl hr => ?_⟩
        exact W.objInit hx hb hown (hts _ (gd_ob hc)) (hts _ gd_oi.1) (hts _ gd_oi.2) rfl (by rw [hml]; exact hl.1) rfl hd (by omega) (by show 2 * 0 + 0 + 12 ≤ _; omega) (hg ls H locs cells slots hl hr)
      · cases ee
    · cases ee
  · rename_i z hz
    have hc := ms_cok hz
    simp only [ms_cb, Bool.and_eq_true, decide_eq_true_eq] at hc
    obtain ⟨⟨⟨⟨⟨⟨c1, c2⟩, c3⟩, c4⟩, c5⟩, c6⟩, c7⟩ := hc
    split at ee
    · rename_i a ha
      obtain ⟨t1, t2⟩ := ms_take c6 ha
      refine ms_callK C0 hK hCA c1 ee (fun H locs cells slots ls r1 h1 hl hr q1 q2 q3 q4 hM hf hpre => ?_)
      have e1 : (S.take (ms_A z)).reverse.map (ms_tv base b) = Value.ref (base + a) :: (S.take (ms_A z - 1)).reverse.map (ms_tv base b) := by rw [t1]; simp [ms_tv]
      have hw0 : ms_w z = Cond.code (ms_Y z) (ms_B z) (ms_L z) none :: lw_good := by unfold ms_w; rw [c5]
      rw [e1] at hpre ⊢
      refine va_runI (As := (S.take (ms_A z - 1)).reverse.map (ms_tv base b)) (b := base + a) (ws := ms_w z) (Ts := lw_good) ⟨hx, hb, hml, hown, hts⟩ hM
        ⟨callB_of (ms_A z - 1) hts (ms_goodw c1) hw0 rfl rfl (hts _ (gd_cls c1).2) (hts _ (gd_ml c2)) ⟨(gd_plain c1).2.1, (gd_plain c1).2.2, c7⟩ ⟨by show ms_F z + 1 ≤ _; omega, by show 8 + (ms_L z + 11) + ms_W z ≤ _; omega⟩, c4, hts _ (gd_inst c3)⟩
        ⟨ms_blind _ _ _ _ _ _ _, fun U hU hW => ?_⟩ rfl (by simp; omega) hl.1 ?_ (lv_room (by rw [ms_cat_map]; exact q3)) hd hf
      · rw [e1]; exact hpre U hU hW
      · show S.map (ms_tv base b) = _
        conv => lhs; rw [t2]
        simp [ms_tv]
    · cases ee
  · cases ee
def ms_Ret (y pc : Nat) (r : Option Value) : Prop := (∃ x, r = some (.int x) ∧ decode (ms_B y) pc = .ok (.ireturn, 1) ∧ (ms_R y = some .int ∨ (ms_R y = some .boolean ∧ (x = 0 ∨ x = 1)))) ∨ (r = none ∧ decode (ms_B y) pc = .ok (.return_, 1) ∧ ms_R y = none)
abbrev ms_End (p : Program) (l : Launch) (e : Env) (R : Room) (s : State) (m : MethodId) (args : Array Value) (below : List Frame) (meth : Method) (c : Code) (Q : State → Prop) (y base b : Nat) (dA : Nat → ClassId) (D : va_G) (n0 z0 : Nat) (r : Option Value) (h' : List ms_C) : Prop :=
  ∀ (pc1 : Nat) (ls1 : Array Slot) (H1 : Heap) (locs1 : List Loc) (cells1 slots1 : Nat), ms_Ret y pc1 r → ms_Rel base b dA D n0 z0 h' s H1 locs1 cells1 slots1 → W p l e R s m args below meth c H1 locs1 cells1 slots1 Q (F0 m pc1 ls1 (r.toList.map (ms_tv base b)))
theorem so_ireturn (hend : ms_End p l e R s m args below meth c Q y base b dA D n0 z0 r h') (hd : decode (ms_B y) pc = .ok (.ireturn, 1)) (ee : ms_step sc y pc K CA .ireturn L S h = some (r, h')) : ms_P h h' ∧ ms_Go p l e R s m args below meth c Q y base b dA D n0 z0 pc L S h := by
  simp only [ms_step] at ee
  split at ee
  · rename_i x
    split at ee
    · rename_i hc
      cases ee
      exact ⟨ms_P.rf _, fun ls H locs cells slots hl hr => hend pc ls H locs cells slots (Or.inl ⟨x, rfl, hd, hc⟩) hr⟩
    · cases ee
  · cases ee
theorem so_return (hend : ms_End p l e R s m args below meth c Q y base b dA D n0 z0 r h') (hd : decode (ms_B y) pc = .ok (.return_, 1)) (ee : ms_step sc y pc K CA .return_ L S h = some (r, h')) : ms_P h h' ∧ ms_Go p l e R s m args below meth c Q y base b dA D n0 z0 pc L S h := by
  simp only [ms_step] at ee
  split at ee
  · split at ee
    · rename_i hc
      cases ee
      exact ⟨ms_P.rf _, fun ls H locs cells slots hl hr => hend pc ls H locs cells slots (Or.inr ⟨rfl, hd, hc⟩) hr⟩
    · cases ee
  · cases ee
end SOUND3

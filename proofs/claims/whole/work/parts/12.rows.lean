-- WP's rows, an instruction each
theorem ms_run_up {sc : List Int32} : ∀ (f g y pc : Nat) (L : List (Option Value)) (S : List Value) (h : List ms_C) (z : ms_Rs), f ≤ g → ms_run sc f y pc L S h = some z → ms_run sc g y pc L S h = some z := by
  intro f
  induction f with
  | zero => intro g y pc L S h z _ e; cases e
  | succ f ih =>
    intro g y pc L S h z hg e
    cases g with
    | zero => omega
    | succ g =>
      cases hd : decode (ms_B y) pc with
      | error w => simp only [ms_run, hd] at e; cases e
      | ok q =>
        obtain ⟨ins, len⟩ := q
        simp only [ms_run, hd] at e ⊢
        split at e
        · rename_i hl
          rw [if_pos hl]
          exact ms_step_up (fun pc L S h e => ih g y pc L S h z (by omega) e) (fun q L h w e => ih g q 0 L [] h w (by omega) e) e
        · cases e
section WPR
variable {sc : List Int32} {y pc : Nat} {L : List (Option Value)} {S : List Value} {h : List ms_C} {Q : Option Value → List ms_C → Prop}
theorem wp_step {ins : Instr} {len : Nat} (hd : decode (ms_B y) pc = .ok (ins, len)) (hl : ms_lenok ins len = true) : WP sc y pc L S h Q ↔ ∃ f r h', ms_step sc y pc (fun pc L S h => ms_run sc f y pc L S h) (fun z L h => ms_run sc f z 0 L [] h) ins L S h = some (r, h') ∧ Q r h' := by
  constructor
  · rintro ⟨f, r, h', e, q⟩
    cases f with
    | zero => cases e
    | succ f =>
      unfold ms_run at e
      rw [hd] at e
      dsimp only at e
      rw [if_pos hl] at e
      exact ⟨f, r, h', e, q⟩
  · rintro ⟨f, r, h', e, q⟩
    refine ⟨f + 1, r, h', ?_, q⟩
    unfold ms_run
    rw [hd]
    dsimp only
    rw [if_pos hl]
    exact e
/-- a step that goes on at one place -/
theorem wp_on {ins : Instr} {len pc' : Nat} {L' : List (Option Value)} {S' : List Value} {h1 : List ms_C} (hd : decode (ms_B y) pc = .ok (ins, len)) (hl : ms_lenok ins len = true) (hs : ∀ (K : ms_KT) (CA : ms_CT), ms_step sc y pc K CA ins L S h = K pc' L' S' h1) : WP sc y pc L S h Q ↔ WP sc y pc' L' S' h1 Q := by
  rw [wp_step hd hl]
  simp only [hs]
  exact Iff.rfl
theorem wp_no {ins : Instr} {len : Nat} (hd : decode (ms_B y) pc = .ok (ins, len)) (hl : ms_lenok ins len = true) (hs : ∀ (K : ms_KT) (CA : ms_CT), ms_step sc y pc K CA ins L S h = none) : WP sc y pc L S h Q ↔ False := by
  rw [wp_step hd hl]
  simp [hs]
def ms_aft (o : Option ms_Rs) (F : Option Value → List ms_C → Option ms_Rs) : Option ms_Rs := match o with
  | some (r, h') => F r h'
  | none => none
theorem wp_call {ins : Instr} {len z pc' : Nat} {vs rest : List Value} (hd : decode (ms_B y) pc = .ok (ins, len)) (hl : ms_lenok ins len = true) (hs : ∀ (K : ms_KT) (CA : ms_CT), ms_step sc y pc K CA ins L S h = ms_aft (CA z (ms_init vs (ms_L z)) h) (fun r h' => K pc' L (r.toList ++ rest) h')) : WP sc y pc L S h Q ↔ WP sc z 0 (ms_init vs (ms_L z)) [] h (fun r h1 => WP sc y pc' L (r.toList ++ rest) h1 Q) := by
  rw [wp_step hd hl]
  simp only [hs]
  constructor
  · rintro ⟨f, r, h', e, q⟩
    cases hc : ms_run sc f z 0 (ms_init vs (ms_L z)) [] h with
    | none => rw [hc] at e; cases e
    | some w =>
      obtain ⟨r1, h1⟩ := w
      rw [hc] at e
      exact ⟨f, r1, h1, hc, f, r, h', e, q⟩
  · rintro ⟨f, r1, h1, hc, g, r, h', e, q⟩
    refine ⟨max f g, r, h', ?_, q⟩
    rw [ms_run_up f (max f g) _ _ _ _ _ _ (Nat.le_max_left _ _) hc]
    exact ms_run_up g (max f g) _ _ _ _ _ _ (Nat.le_max_right _ _) e
theorem wp_if {ins : Instr} {len : Nat} {p1 p2 : Nat} {S' : List Value} {c : Prop} [d : Decidable c] (hd : decode (ms_B y) pc = .ok (ins, len)) (hl : ms_lenok ins len = true) (hs : ∀ (K : ms_KT) (CA : ms_CT), ms_step sc y pc K CA ins L S h = if c then K p1 L S' h else K p2 L S' h) : WP sc y pc L S h Q ↔ if c then WP sc y p1 L S' h Q else WP sc y p2 L S' h Q := by
  by_cases hc : c
  · rw [if_pos hc]
    exact wp_on hd hl (fun K CA => by rw [hs, if_pos hc])
  · rw [if_neg hc]
    exact wp_on hd hl (fun K CA => by rw [hs, if_neg hc])
theorem wp_opt {α : Type} {ins : Instr} {len : Nat} {o : Option α} {pc' : Nat} {L' : List (Option Value)} {S' : α → List Value} {h' : α → List ms_C} (hd : decode (ms_B y) pc = .ok (ins, len)) (hl : ms_lenok ins len = true) (hn : o = none → ∀ (K : ms_KT) (CA : ms_CT), ms_step sc y pc K CA ins L S h = none) (hs : ∀ v, o = some v → ∀ (K : ms_KT) (CA : ms_CT), ms_step sc y pc K CA ins L S h = K pc' L' (S' v) (h' v)) : WP sc y pc L S h Q ↔ wX o (fun v => WP sc y pc' L' (S' v) (h' v) Q) := by
  cases o with
  | none => exact wp_no hd hl (hn rfl)
  | some v => exact wp_on hd hl (hs v rfl)
theorem wp_ifC {q : ClassFile.Cond} {off : Int} {t : Nat} {x : Int32} {c : Prop} [d : Decidable c] (hd : decode (ms_B y) pc = .ok (.ifCond q off, 3)) (ht : (pc : Int) + off = (t : Int)) (hc : ms_cmp q x 0 ↔ c) : WP sc y pc L (.int x :: S) h Q ↔ if c then WP sc y t L S h Q else WP sc y (pc + 3) L S h Q := by
  refine wp_if hd rfl (fun K CA => ?_)
  simp only [ms_step, ms_go, ht]
  cases hz : ms_cmpD q x 0 with
  | isTrue n => rw [if_pos (hc.mp n)]
  | isFalse n => rw [if_neg (fun k => n (hc.mpr k))]
theorem wp_ifI {q : ClassFile.Cond} {off : Int} {t : Nat} {a b : Int32} {c : Prop} [d : Decidable c] (hd : decode (ms_B y) pc = .ok (.if_icmp q off, 3)) (ht : (pc : Int) + off = (t : Int)) (hc : ms_cmp q a b ↔ c) : WP sc y pc L (.int b :: .int a :: S) h Q ↔ if c then WP sc y t L S h Q else WP sc y (pc + 3) L S h Q := by
  refine wp_if hd rfl (fun K CA => ?_)
  simp only [ms_step, ms_go, ht]
  cases hz : ms_cmpD q a b with
  | isTrue n => rw [if_pos (hc.mp n)]
  | isFalse n => rw [if_neg (fun k => n (hc.mpr k))]
theorem wp_goto {off : Int} {t : Nat} (hd : decode (ms_B y) pc = .ok (.goto off, 3)) (ht : (pc : Int) + off = (t : Int)) : WP sc y pc L S h Q ↔ WP sc y t L S h Q := by
  refine wp_on hd rfl (fun K CA => ?_)
  simp only [ms_step, ms_go, ht]
theorem wp_getf {i ci k a : Nat} (hd : decode (ms_B y) pc = .ok (.getfield i, 3)) (hf : ms_f (ms_O y) i = some (ci, k)) : WP sc y pc L (.ref a :: S) h Q ↔ wX (ms_get h a ci k) (fun v => WP sc y (pc + 3) L (v :: S) h Q) :=
  wp_opt (S' := fun v => v :: S) (h' := fun _ => h) hd rfl (fun e9 K CA => by simp only [ms_step, hf, e9]) (fun v9 e9 K CA => by simp only [ms_step, hf, e9])
theorem wp_put {i ci k a : Nat} {v : Value} (hd : decode (ms_B y) pc = .ok (.putfield i, 3)) (hf : ms_f (ms_O y) i = some (ci, k)) {r : vw_C} (hr : vwCl[ci]? = some r) (hk : k < r.2.2) (hv : ms_fit (r.2.1 k).2.2.1 v = true) (hfin : (r.2.1 k).2.2.2 = false) : WP sc y pc L (v :: .ref a :: S) h Q ↔ wX (ms_is h a ci) (fun fs => k < fs.length ∧ WP sc y (pc + 3) L S (h.set a (.inl (ci, fs.set k v))) Q) := by
  obtain ⟨C, T, N⟩ := r
  unfold ms_is
  cases hh : h[a]? with
  | none => exact wp_no hd rfl (fun K CA => by simp only [ms_step, hf, hr, hh])
  | some c =>
    match c, hh with
    | .inl (cj, fs), hh =>
      dsimp only
      by_cases hc : cj = ci
      · rw [if_pos hc, wX_some]
        by_cases hl : k < fs.length
        · simp only [hl, true_and]
          exact wp_on hd rfl (fun K CA => by simp only [ms_step, hf, hr, hh]; rw [if_pos ⟨hc, hk, hl, hv, Or.inl hfin⟩])
        · simp only [hl, false_and]
          exact wp_no hd rfl (fun K CA => by simp only [ms_step, hf, hr, hh]; rw [if_neg (fun q => hl q.2.2.1)])
      · rw [if_neg hc, wX_none]
        exact wp_no hd rfl (fun K CA => by simp only [ms_step, hf, hr, hh]; rw [if_neg (fun q => hc q.1)])
    | .inr c, hh => exact wp_no hd rfl (fun K CA => by simp only [ms_step, hf, hr, hh])
theorem wp_iald {i : Int32} {a : Nat} (hd : decode (ms_B y) pc = .ok (.iaload, 1)) : WP sc y pc L (.int i :: .ref a :: S) h Q ↔ wX (ms_arr h a) (fun l => wX (ms_iat i l.length) (fun j => WP sc y (pc + 1) L (.int (l.getD j 0) :: S) h Q)) := by
  unfold ms_arr
  split
  · rename_i l hh
    rw [wX_some]
    exact wp_opt (S' := fun j => .int (l.getD j 0) :: S) (h' := fun _ => h) hd rfl (fun e9 K CA => by simp only [ms_step, hh, e9]) (fun v9 e9 K CA => by simp only [ms_step, hh, e9])
  · rename_i hh
    refine wp_no hd rfl (fun K CA => ?_)
    simp only [ms_step]
    first | done | (split <;> first | rfl | (rename_i l hl; exact absurd hl (hh l)))
theorem wp_cald {i : Int32} {a : Nat} (hd : decode (ms_B y) pc = .ok (.caload, 1)) : WP sc y pc L (.int i :: .ref a :: S) h Q ↔ wX (ms_chr h a) (fun l => wX (ms_iat i l.length) (fun j => WP sc y (pc + 1) L (.int (l.getD j 0) :: S) h Q)) := by
  unfold ms_chr
  split
  · rename_i l hh
    rw [wX_some]
    exact wp_opt (S' := fun j => .int (l.getD j 0) :: S) (h' := fun _ => h) hd rfl (fun e9 K CA => by simp only [ms_step, hh, e9]) (fun v9 e9 K CA => by simp only [ms_step, hh, e9])
  · rename_i hh
    refine wp_no hd rfl (fun K CA => ?_)
    simp only [ms_step]
    first | done | (split <;> first | rfl | (rename_i l hl; exact absurd hl (hh l)))
theorem wp_sald {i : Int32} {u : UInt32} (hd : decode (ms_B y) pc = .ok (.iaload, 1)) : WP sc y pc L (.int i :: .float u :: S) h Q ↔ wX (ms_iat i sc.length) (fun j => WP sc y (pc + 1) L (.int (sc.getD j 0) :: S) h Q) :=
  wp_opt (S' := fun j => .int (sc.getD j 0) :: S) (h' := fun _ => h) hd rfl (fun e9 K CA => by simp only [ms_step, e9]) (fun v9 e9 K CA => by simp only [ms_step, e9])
theorem wp_iast {i x : Int32} {a : Nat} (hd : decode (ms_B y) pc = .ok (.iastore, 1)) : WP sc y pc L (.int x :: .int i :: .ref a :: S) h Q ↔ wX (ms_arr h a) (fun l => wX (ms_iat i l.length) (fun j => WP sc y (pc + 1) L S (h.set a (ms_ia (l.set j x))) Q)) := by
  unfold ms_arr
  split
  · rename_i l hh
    rw [wX_some]
    exact wp_opt (S' := fun j => S) (h' := fun j => h.set a (ms_ia (l.set j x))) hd rfl (fun e9 K CA => by simp only [ms_step, hh, e9]) (fun v9 e9 K CA => by simp only [ms_step, hh, e9]; rfl)
  · rename_i hh
    refine wp_no hd rfl (fun K CA => ?_)
    simp only [ms_step]
    first | done | (split <;> first | rfl | (rename_i l hl; exact absurd hl (hh l)))
theorem wp_cast {i x : Int32} {a : Nat} (hd : decode (ms_B y) pc = .ok (.castore, 1)) : WP sc y pc L (.int x :: .int i :: .ref a :: S) h Q ↔ wX (ms_chr h a) (fun l => wX (ms_iat i l.length) (fun j => WP sc y (pc + 1) L S (h.set a (ms_ca (l.set j (vp_nar .char x)))) Q)) := by
  unfold ms_chr
  split
  · rename_i l hh
    rw [wX_some]
    exact wp_opt (S' := fun j => S) (h' := fun j => h.set a (ms_ca (l.set j (vp_nar .char x)))) hd rfl (fun e9 K CA => by simp only [ms_step, hh, e9]) (fun v9 e9 K CA => by simp only [ms_step, hh, e9]; rfl)
  · rename_i hh
    refine wp_no hd rfl (fun K CA => ?_)
    simp only [ms_step]
    first | done | (split <;> first | rfl | (rename_i l hl; exact absurd hl (hh l)))
theorem wp_aald {i : Int32} {a : Nat} (hd : decode (ms_B y) pc = .ok (.aaload, 1)) : WP sc y pc L (.int i :: .ref a :: S) h Q ↔ wX (ms_row h a) (fun l => wX (ms_iat i l.length) (fun j => wX (l.getD j none) (fun q => WP sc y (pc + 1) L (.ref q :: S) h Q))) := by
  unfold ms_row
  split
  · rename_i l hh
    rw [wX_some]
    cases hj : ms_iat i l.length with
    | none => rw [wX_none]; exact wp_no hd rfl (fun K CA => by simp only [ms_step, hh, hj])
    | some j =>
      rw [wX_some]
      exact wp_opt (S' := fun q => .ref q :: S) (h' := fun _ => h) hd rfl (fun e9 K CA => by simp only [ms_step, hh, hj, e9]) (fun v9 e9 K CA => by simp only [ms_step, hh, hj, e9])
  · rename_i hh
    refine wp_no hd rfl (fun K CA => ?_)
    simp only [ms_step]
    first | done | (split <;> first | rfl | (rename_i l hl; exact absurd hl (hh l)))
theorem wp_aast {i : Int32} {a q : Nat} (hd : decode (ms_B y) pc = .ok (.aastore, 1)) : WP sc y pc L (.ref q :: .int i :: .ref a :: S) h Q ↔ wX (ms_row h a) (fun l => wX (ms_is h q 4) (fun _ => wX (ms_iat i l.length) (fun j => WP sc y (pc + 1) L S (h.set a (ms_ra (l.set j (some q)))) Q))) := by
  unfold ms_row
  split
  · rename_i l hh
    rw [wX_some]
    unfold ms_is
    split
    · rename_i cj fs hq
      split
      · rename_i hc
        subst hc
        rw [wX_some]
        exact wp_opt (S' := fun j => S) (h' := fun j => h.set a (ms_ra (l.set j (some q)))) hd rfl (fun e9 K CA => by simp only [ms_step, hh, hq, e9]) (fun v9 e9 K CA => by simp only [ms_step, hh, hq, e9]; rfl)
      · rename_i hc
        rw [wX_none]
        refine wp_no hd rfl (fun K CA => ?_)
        simp only [ms_step]
        first | done | (split <;> first | rfl | (rename_i l2 fs2 h1 h2; rw [hq] at h2; cases h2; exact absurd rfl hc))
    · rename_i hq
      rw [wX_none]
      refine wp_no hd rfl (fun K CA => ?_)
      simp only [ms_step]
      first | done | (split <;> first | rfl | (rename_i l2 fs2 h1 h2; exact absurd h2 (hq _ _)))
  · rename_i hh
    refine wp_no hd rfl (fun K CA => ?_)
    simp only [ms_step]
    first | done | (split <;> first | rfl | (rename_i l2 fs2 h1 h2; exact absurd h1 (hh _)))
theorem wp_alenR {a : Nat} (l : List (Option Nat)) (hl : ms_row h a = some l) (hd : decode (ms_B y) pc = .ok (.arraylength, 1)) : WP sc y pc L (.ref a :: S) h Q ↔ WP sc y (pc + 1) L (.int (nI l.length) :: S) h Q := by
  unfold ms_row at hl
  split at hl
  · rename_i l' hh
    cases hl
    exact wp_on hd rfl (fun K CA => by simp only [ms_step, hh]; rfl)
  · cases hl
theorem wp_alenC {a : Nat} (l : List Int32) (hl : ms_chr h a = some l) (hd : decode (ms_B y) pc = .ok (.arraylength, 1)) : WP sc y pc L (.ref a :: S) h Q ↔ WP sc y (pc + 1) L (.int (nI l.length) :: S) h Q := by
  unfold ms_chr at hl
  split at hl
  · rename_i l' hh
    cases hl
    exact wp_on hd rfl (fun K CA => by simp only [ms_step, hh]; rfl)
  · cases hl
theorem wp_slen {u : UInt32} (hd : decode (ms_B y) pc = .ok (.arraylength, 1)) : WP sc y pc L (.float u :: S) h Q ↔ WP sc y (pc + 1) L (.int (nI sc.length) :: S) h Q :=
  wp_on hd rfl (fun K CA => by simp only [ms_step]; rfl)
theorem ms_callq {kind z : Nat} {K : ms_KT} {CA : ms_CT} {vs rest : List Value} (hS : S = vs.reverse ++ rest) (hn : vs.length = ms_A z) (hf : ms_F z + 1 ≤ ms_F y) (hw : 8 + (ms_L z + 11) + ms_W z ≤ ms_W y) (hc : (rest.map fun v => v.category).sum ≤ 8) (ha : (ms_args vs).length ≤ ms_L z) (hd : vs.all ms_nd = true) : ms_call y pc K CA kind z L S h = ms_aft (CA z (ms_init vs (ms_L z)) h) (fun r h' => K (pc + 3) L (r.toList ++ rest) h') := by
  subst hS
  have hlen : vs.reverse.length = ms_A z := by simpa using hn
  have ht : (vs.reverse ++ rest).take (ms_A z) = vs.reverse := by rw [← hlen, List.take_left]
  have hdr : (vs.reverse ++ rest).drop (ms_A z) = rest := by rw [← hlen, List.drop_left]
  unfold ms_call
  rw [ht, hdr, List.reverse_reverse, if_neg]
  · cases CA z (ms_init vs (ms_L z)) h <;> rfl
  rintro (q | q | q | q | q | q)
  · simp only [List.length_append, hlen] at q; omega
  · omega
  · omega
  · omega
  · omega
  · rw [List.all_reverse, hd] at q; cases q
theorem wp_stat {i z : Nat} {vs rest : List Value} (hd : decode (ms_B y) pc = .ok (.invokestatic i, 3)) (hz : ms_c (ms_O y) i = some (z, 1) ∨ ms_c (ms_O y) i = some (z, 3)) (hS : S = vs.reverse ++ rest) (hn : vs.length = ms_A z) (hf : ms_F z + 1 ≤ ms_F y) (hw : 8 + (ms_L z + 11) + ms_W z ≤ ms_W y) (hc : (rest.map fun v => v.category).sum ≤ 8) (ha : (ms_args vs).length ≤ ms_L z) (hnd : vs.all ms_nd = true) : WP sc y pc L S h Q ↔ WP sc z 0 (ms_init vs (ms_L z)) [] h (fun r h1 => WP sc y (pc + 3) L (r.toList ++ rest) h1 Q) :=
  wp_call hd rfl (fun K CA => by
    simp only [ms_step]
    rcases hz with hz | hz <;> rw [hz] <;> exact ms_callq hS hn hf hw hc ha hnd)
theorem wp_virt {i z a : Nat} {fs vs rest : List Value} (hcell : ms_is h a (ms_O z) = some fs) (hd : decode (ms_B y) pc = .ok (.invokevirtual i, 3)) (hz : ms_c (ms_O y) i = some (z, 0)) (hv : vs.head? = some (.ref a)) (hS : S = vs.reverse ++ rest) (hn : vs.length = ms_A z) (hf : ms_F z + 1 ≤ ms_F y) (hw : 8 + (ms_L z + 11) + ms_W z ≤ ms_W y) (hc : (rest.map fun v => v.category).sum ≤ 8) (ha : (ms_args vs).length ≤ ms_L z) (hnd : vs.all ms_nd = true) : WP sc y pc L S h Q ↔ WP sc z 0 (ms_init vs (ms_L z)) [] h (fun r h1 => WP sc y (pc + 3) L (r.toList ++ rest) h1 Q) :=
  wp_call hd rfl (fun K CA => by
    have h0 : S[ms_A z - 1]? = some (.ref a) := by
      subst hS
      cases vs with
      | nil => cases hv
      | cons v t =>
        cases hv
        simp only [List.length_cons] at hn
        rw [← hn]
        simp
    have h1 : ∃ fs', h[a]? = some (.inl (ms_O z, fs')) := by
      unfold ms_is at hcell
      split at hcell
      · rename_i cj fs' hh
        split at hcell
        · rename_i hq
          subst hq
          exact ⟨_, hh⟩
        · cases hcell
      · cases hcell
    obtain ⟨fs', h1⟩ := h1
    simp only [ms_step, hz, h0, h1, if_pos]
    exact ms_callq hS hn hf hw hc ha hnd)
theorem wp_spec {i z a : Nat} {vs rest : List Value} (hd : decode (ms_B y) pc = .ok (.invokespecial i, 3)) (hz : ms_c (ms_O y) i = some (z, 2)) (hv : vs.head? = some (.ref a)) (hS : S = vs.reverse ++ rest) (hn : vs.length = ms_A z) (hf : ms_F z + 1 ≤ ms_F y) (hw : 8 + (ms_L z + 11) + ms_W z ≤ ms_W y) (hc : (rest.map fun v => v.category).sum ≤ 8) (ha : (ms_args vs).length ≤ ms_L z) (hnd : vs.all ms_nd = true) : WP sc y pc L S h Q ↔ WP sc z 0 (ms_init vs (ms_L z)) [] h (fun r h1 => WP sc y (pc + 3) L (r.toList ++ rest) h1 Q) :=
  wp_call hd rfl (fun K CA => by
    have h0 : S[ms_A z - 1]? = some (.ref a) := by
      subst hS
      cases vs with
      | nil => cases hv
      | cons v t =>
        cases hv
        simp only [List.length_cons] at hn
        rw [← hn]
        simp
    simp only [ms_step, hz, h0]
    exact ms_callq hS hn hf hw hc ha hnd)
theorem wp_ldc2 {i : Nat} {v : Int64} (hd : decode (ms_B y) pc = .ok (.ldc2_w i, 3)) (hv : ms_g (ms_O y) i = some v) : WP sc y pc L S h Q ↔ WP sc y (pc + 3) L (.long v :: S) h Q :=
  wp_on hd rfl (fun K CA => by simp only [ms_step, hv])
theorem wp_ldcw {i : Nat} {v : Int32} (hd : decode (ms_B y) pc = .ok (.ldc_w i, 3)) (hv : ms_i (ms_O y) i = some v) : WP sc y pc L S h Q ↔ WP sc y (pc + 3) L (.int v :: S) h Q :=
  wp_on hd rfl (fun K CA => by simp only [ms_step, hv])
theorem wp_div {a b : Int32} (hd : decode (ms_B y) pc = .ok (.idiv, 1)) (hb : ¬ b = 0) : WP sc y pc L (.int b :: .int a :: S) h Q ↔ WP sc y (pc + 1) L (.int (a / b) :: S) h Q :=
  wp_on hd rfl (fun K CA => by simp only [ms_step, ms_bin, if_neg hb])
theorem wp_rem {a b : Int32} (hd : decode (ms_B y) pc = .ok (.irem, 1)) (hb : ¬ b = 0) : WP sc y pc L (.int b :: .int a :: S) h Q ↔ WP sc y (pc + 1) L (.int (a - a / b * b) :: S) h Q :=
  wp_on hd rfl (fun K CA => by simp only [ms_step, ms_bin, if_neg hb])
theorem wp_ldv {a b : Int64} (hd : decode (ms_B y) pc = .ok (.ldiv, 1)) (hb : ¬ b = 0) : WP sc y pc L (.long b :: .long a :: S) h Q ↔ WP sc y (pc + 1) L (.long (a / b) :: S) h Q :=
  wp_on hd rfl (fun K CA => by simp only [ms_step, if_neg hb])
theorem wp_lrm {a b : Int64} (hd : decode (ms_B y) pc = .ok (.lrem, 1)) (hb : ¬ b = 0) : WP sc y pc L (.long b :: .long a :: S) h Q ↔ WP sc y (pc + 1) L (.long (a - a / b * b) :: S) h Q :=
  wp_on hd rfl (fun K CA => by simp only [ms_step, if_neg hb])
theorem wp_set {ins : Instr} {len k pc' : Nat} {v : Value} {L' : List (Option Value)} {S' : List Value} (hd : decode (ms_B y) pc = .ok (ins, len)) (hl : ms_lenok ins len = true) (hs : ∀ (K : ms_KT) (CA : ms_CT), ms_step sc y pc K CA ins L S h = match ms_set L k v with
    | some L => K pc' L S' h
    | none => none) (he : ms_set L k v = some L') : WP sc y pc L S h Q ↔ WP sc y pc' L' S' h Q :=
  wp_on hd hl (fun K CA => by rw [hs, he])
theorem wp_set2 {ins : Instr} {len k pc' : Nat} {v : Value} {L' : List (Option Value)} {S' : List Value} (hd : decode (ms_B y) pc = .ok (ins, len)) (hl : ms_lenok ins len = true) (hs : ∀ (K : ms_KT) (CA : ms_CT), ms_step sc y pc K CA ins L S h = match ms_set2 L k v with
    | some L => K pc' L S' h
    | none => none) (he : ms_set2 L k v = some L') : WP sc y pc L S h Q ↔ WP sc y pc' L' S' h Q :=
  wp_on hd hl (fun K CA => by rw [hs, he])
theorem wp_max {i u : Nat} {a b : Int32} (hd : decode (ms_B y) pc = .ok (.invokestatic i, 3)) (hz : ms_c (ms_O y) i = some (u, 5)) (hf : 1 ≤ ms_F y) (hw : (S.map fun v => v.category).sum + 13 ≤ ms_W y) : WP sc y pc L (.int b :: .int a :: S) h Q ↔ WP sc y (pc + 3) L (.int (if a < b then b else a) :: S) h Q :=
  wp_on hd rfl (fun K CA => by simp only [ms_step, hz]; rw [if_pos ⟨hf, hw⟩])
theorem wp_min {i u : Nat} {a b : Int32} (hd : decode (ms_B y) pc = .ok (.invokestatic i, 3)) (hz : ms_c (ms_O y) i = some (u, 6)) (hf : 1 ≤ ms_F y) (hw : (S.map fun v => v.category).sum + 13 ≤ ms_W y) : WP sc y pc L (.int b :: .int a :: S) h Q ↔ WP sc y (pc + 3) L (.int (if b < a then b else a) :: S) h Q :=
  wp_on hd rfl (fun K CA => by simp only [ms_step, hz]; rw [if_pos ⟨hf, hw⟩])
theorem wp_iret {x : Int32} (hd : decode (ms_B y) pc = .ok (.ireturn, 1)) (hr : ms_R y = some .int) : WP sc y pc L [.int x] h Q ↔ Q (some (.int x)) h := by
  rw [wp_step hd rfl]
  simp only [ms_step, hr]
  simp
theorem wp_zret {x : Int32} (hd : decode (ms_B y) pc = .ok (.ireturn, 1)) (hr : ms_R y = some .boolean) : WP sc y pc L [.int x] h Q ↔ (x = 0 ∨ x = 1) ∧ Q (some (.int x)) h := by
  rw [wp_step hd rfl]
  simp only [ms_step, hr]
  by_cases hx : x = 0 ∨ x = 1
  · simp [hx]
  · simp [hx]
theorem wp_ret (hd : decode (ms_B y) pc = .ok (.return_, 1)) (hr : ms_R y = none) : WP sc y pc L [] h Q ↔ Q none h := by
  rw [wp_step hd rfl]
  simp only [ms_step, hr]
  simp
theorem wp_tabT {d lo hi off : Int} {os : Array Int} {len t : Nat} {x : Int32} (hd : decode (ms_B y) pc = .ok (.tableswitch d lo hi os, len)) (hx : ¬ (x.toInt < lo ∨ hi < x.toInt)) (ho : os[(x.toInt - lo).toNat]? = some off) (ht : (pc : Int) + off = (t : Int)) : WP sc y pc L (.int x :: S) h Q ↔ WP sc y t L S h Q := by
  refine wp_on hd rfl (fun K CA => ?_)
  simp only [ms_step, ms_go, if_neg hx, ho, ht]
theorem wp_tabD {d lo hi : Int} {os : Array Int} {len t : Nat} {x : Int32} (hd : decode (ms_B y) pc = .ok (.tableswitch d lo hi os, len)) (hx : x.toInt < lo ∨ hi < x.toInt) (ht : (pc : Int) + d = (t : Int)) : WP sc y pc L (.int x :: S) h Q ↔ WP sc y t L S h Q := by
  refine wp_on hd rfl (fun K CA => ?_)
  simp only [ms_step, ms_go, if_pos hx, ht]
theorem wp_lkp {d off : Int} {ps : Array (Int × Int)} {len t : Nat} {x : Int32} (hd : decode (ms_B y) pc = .ok (.lookupswitch d ps, len)) (hs : (ps.toList.zip (ps.toList.drop 1)).all (fun (a, next) => a.1 < next.1) = true) (ho : Op.lookupswitch.offset ps.toList d x.toInt = off) (ht : (pc : Int) + off = (t : Int)) : WP sc y pc L (.int x :: S) h Q ↔ WP sc y t L S h Q := by
  refine wp_on hd rfl (fun K CA => ?_)
  simp only [ms_step, ms_go]
  rw [if_pos hs, ho, ht]
theorem wp_virt' {i z a : Nat} {vs rest : List Value} (hcell : (ms_is h a (ms_O z)).isSome = true) (hd : decode (ms_B y) pc = .ok (.invokevirtual i, 3)) (hz : ms_c (ms_O y) i = some (z, 0)) (hv : vs.head? = some (.ref a)) (hS : S = vs.reverse ++ rest) (hn : vs.length = ms_A z) (hf : ms_F z + 1 ≤ ms_F y) (hw : 8 + (ms_L z + 11) + ms_W z ≤ ms_W y) (hc : (rest.map fun v => v.category).sum ≤ 8) (ha : (ms_args vs).length ≤ ms_L z) (hnd : vs.all ms_nd = true) : WP sc y pc L S h Q ↔ WP sc z 0 (ms_init vs (ms_L z)) [] h (fun r h1 => WP sc y (pc + 3) L (r.toList ++ rest) h1 Q) := by
  obtain ⟨fs, hfs⟩ := Option.isSome_iff_exists.mp hcell
  exact wp_virt hfs hd hz hv hS hn hf hw hc ha hnd
end WPR
def wn_ok (o : Option Value) : Bool := match o with
  | some (.long _) => false
  | some (.double _) => false
  | _ => true
theorem wn_i {x : Int32} : wn_ok (some (.int x)) = true := rfl
theorem wn_r {x : Nat} : wn_ok (some (.ref x)) = true := rfl
theorem wn_n : wn_ok none = true := rfl
theorem wn_f {x : UInt32} : wn_ok (some (.float x)) = true := rfl
theorem ms_set_ok {A B : List (Option Value)} {o p : Option Value} {v : Value} (h : wn_ok o = true) : ms_set (A ++ o :: p :: B) (A.length + 1) v = some (A ++ o :: some v :: B) := by
  unfold ms_set
  rw [if_pos (by simp)]
  have h1 : (A ++ o :: p :: B)[A.length]? = some o := by simp
  dsimp only
  rw [h1]
  have h2 : (A ++ o :: p :: B).set (A.length + 1) (some v) = A ++ o :: some v :: B := by
    rw [List.set_append_right _ _ (by omega)]
    simp
  rw [h2]
  cases o with
  | none => rfl
  | some w => cases w with
    | long x => cases h
    | double x => cases h
    | _ => rfl
theorem ms_set2_ok {A B : List (Option Value)} {o p p' : Option Value} {v : Value} (h : wn_ok o = true) : ms_set2 (A ++ o :: p :: p' :: B) (A.length + 1) v = some (A ++ o :: some v :: none :: B) := by
  unfold ms_set2
  rw [if_pos (by simp; omega)]
  have h1 : (A ++ o :: p :: p' :: B)[A.length]? = some o := by simp
  dsimp only
  rw [h1]
  have h2 : ((A ++ o :: p :: p' :: B).set (A.length + 1) (some v)).set (A.length + 2) none = A ++ o :: some v :: none :: B := by
    rw [List.set_append_right _ _ (by omega), List.set_append_right _ _ (by omega)]
    simp
  rw [h2]
  cases o with
  | none => rfl
  | some w => cases w with
    | long x => cases h
    | double x => cases h
    | _ => rfl
theorem ms_tout {x : Int32} {lo hi : Int} (h : ∀ k : Int, lo ≤ k → k ≤ hi → ¬ x.toInt = k) : x.toInt < lo ∨ hi < x.toInt := by
  have := h x.toInt
  omega
theorem ms_eqI {x y : Int32} (h : ¬ x = y) {k : Int} (hk : y.toInt = k) : ¬ x.toInt = k := fun q => h (Int32.toInt_inj.mp (q.trans hk.symm))

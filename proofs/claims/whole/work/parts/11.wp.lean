-- what a run of the small machine comes to: WP, and its rows
def WP (sc : List Int32) (y pc : Nat) (L : List (Option Value)) (S : List Value) (h : List ms_C) (Q : Option Value → List ms_C → Prop) : Prop := ∃ (f : Nat) (r : Option Value) (h' : List ms_C), ms_run sc f y pc L S h = some (r, h') ∧ Q r h'
def wX {α : Type} (o : Option α) (F : α → Prop) : Prop := match o with
  | some x => F x
  | none => False
theorem wX_some {α : Type} {x : α} {F : α → Prop} : wX (some x) F ↔ F x := Iff.rfl
theorem wX_none {α : Type} {F : α → Prop} : wX none F ↔ False := Iff.rfl
def ms_arr (h : List ms_C) (a : Nat) : Option (List Int32) := match h[a]? with
  | some (.inr (.inl (false, l))) => some l
  | _ => none
def ms_chr (h : List ms_C) (a : Nat) : Option (List Int32) := match h[a]? with
  | some (.inr (.inl (true, l))) => some l
  | _ => none
def ms_row (h : List ms_C) (a : Nat) : Option (List (Option Nat)) := match h[a]? with
  | some (.inr (.inr l)) => some l
  | _ => none
def ms_is (h : List ms_C) (a ci : Nat) : Option (List Value) := match h[a]? with
  | some (.inl (cj, fs)) => if cj = ci then some fs else none
  | _ => none
section MORE
variable {sc : List Int32} {y pc : Nat} {L : List (Option Value)} {S : List Value} {h : List ms_C} {K K' : ms_KT} {CA CA' : ms_CT} {z : ms_Rs}
theorem ms_go_up {off : Int} {k k' : Nat → Option ms_Rs} (hk : ∀ t, k t = some z → k' t = some z) (e : ms_go pc off k = some z) : ms_go pc off k' = some z := by
  unfold ms_go at e ⊢
  split at e
  · exact hk _ e
  · cases e
theorem ms_bin_up {f f' : Int32 → Int32 → Option (List Value → Option ms_Rs)} (hk : ∀ a b g S, f a b = some g → g S = some z → ∃ g', f' a b = some g' ∧ g' S = some z) (e : ms_bin S f = some z) : ms_bin S f' = some z := by
  obtain ⟨x, y, S1, g, rfl, h1, h2⟩ := ms_bin_some e
  obtain ⟨g', h3, h4⟩ := hk _ _ _ _ h1 h2
  simp only [ms_bin, h3, h4]
theorem ms_call_up (hK : ∀ pc L S h, K pc L S h = some z → K' pc L S h = some z) (hC : ∀ q L h w, CA q L h = some w → CA' q L h = some w) {k q : Nat} (e : ms_call y pc K CA k q L S h = some z) : ms_call y pc K' CA' k q L S h = some z := by
  unfold ms_call at e ⊢
  split at e
  · cases e
  · rename_i hn
    rw [if_neg hn]
    split at e
    · rename_i r1 h1 hc
      rw [hC _ _ _ _ hc]
      exact hK _ _ _ _ e
    · cases e
set_option maxHeartbeats 4000000 in
theorem ms_step_up (hK : ∀ pc L S h, K pc L S h = some z → K' pc L S h = some z) (hC : ∀ q L h w, CA q L h = some w → CA' q L h = some w) {ins : Instr} (e : ms_step sc y pc K CA ins L S h = some z) : ms_step sc y pc K' CA' ins L S h = some z := by
  cases ins
  case idiv =>
    simp only [ms_step] at e ⊢
    refine ms_bin_up (fun a b g S h1 h2 => ?_) e
    split at h1
    · cases h1
    · rename_i hn
      cases h1
      exact ⟨_, by rw [if_neg hn], hK _ _ _ _ h2⟩
  case irem =>
    simp only [ms_step] at e ⊢
    refine ms_bin_up (fun a b g S h1 h2 => ?_) e
    split at h1
    · cases h1
    · rename_i hn
      cases h1
      exact ⟨_, by rw [if_neg hn], hK _ _ _ _ h2⟩
  case goto o => exact ms_go_up (fun t ht => hK _ _ _ _ ht) e
  case ifCond q o =>
    simp only [ms_step] at e ⊢
    split at e
    · refine ms_go_up (fun t ht => ?_) e
      split at ht <;> exact hK _ _ _ _ ht
    · cases e
  case if_icmp q o =>
    simp only [ms_step] at e ⊢
    split at e
    · refine ms_go_up (fun t ht => ?_) e
      split at ht <;> exact hK _ _ _ _ ht
    · cases e
  case tableswitch d lo hi os =>
    simp only [ms_step] at e ⊢
    split at e
    · split at e
      · rename_i hc
        rw [if_pos hc]
        exact ms_go_up (fun t ht => hK _ _ _ _ ht) e
      · rename_i hc
        rw [if_neg hc]
        split at e
        · exact ms_go_up (fun t ht => hK _ _ _ _ ht) e
        · cases e
    · cases e
  case lookupswitch d ps =>
    simp only [ms_step] at e ⊢
    split at e
    · split at e
      · rename_i hc
        rw [if_pos hc]
        exact ms_go_up (fun t ht => hK _ _ _ _ ht) e
      · cases e
    · cases e
  case invokevirtual i =>
    simp only [ms_step] at e ⊢
    split at e
    · split at e
      · split at e
        · split at e
          · rename_i hc
            rw [if_pos hc]
            exact ms_call_up hK hC e
          · cases e
        · cases e
      · cases e
    · cases e
  case invokestatic i =>
    simp only [ms_step] at e ⊢
    split at e
    · exact ms_call_up hK hC e
    · exact ms_call_up hK hC e
    · split at e
      · split at e
        · rename_i hc; rw [if_pos hc]; exact hK _ _ _ _ e
        · cases e
      · cases e
    · split at e
      · split at e
        · rename_i hc; rw [if_pos hc]; exact hK _ _ _ _ e
        · cases e
      · cases e
    · cases e
  case invokespecial i =>
    simp only [ms_step] at e ⊢
    split at e
    · split at e
      · split at e
        · rename_i hc; rw [if_pos hc]; exact hK _ _ _ _ e
        · cases e
      · cases e
    · split at e
      · exact ms_call_up hK hC e
      · cases e
    · cases e
  all_goals first
    | exact hK _ _ _ _ e
    | exact e
    | (simp only [ms_step] at e ⊢; exact ms_bin_up (fun a b g S h1 h2 => by cases h1; exact ⟨_, rfl, hK _ _ _ _ h2⟩) e)
    | (simp only [ms_step] at e ⊢; repeat' split at e
       all_goals first
         | (cases e; done)
         | exact hK _ _ _ _ e
         | (simp only [*, if_pos, if_neg, not_false_eq_true] at *; first | exact hK _ _ _ _ e | exact e)
         | (simp_all; first | exact hK _ _ _ _ e | done))
end MORE

-- the start: the constructors' runs, the script left aside
def sb_step (y pc : Nat) (K : ms_KT) (CA : ms_CT) (ins : ClassFile.Instr) (L : List (Option Value)) (S : List Value) (h : List ms_C) : Option ms_Rs := match ins with
  | .iaload => match S with
    | .int i :: .ref a :: S => ms_step [] y pc K CA .iaload L (.int i :: .ref a :: S) h
    | _ => none
  | .arraylength => match S with
    | .ref a :: S => ms_step [] y pc K CA .arraylength L (.ref a :: S) h
    | _ => none
  | ins => ms_step [] y pc K CA ins L S h
def sb_run : Nat → Nat → Nat → List (Option Value) → List Value → List ms_C → Option ms_Rs
  | 0, _, _, _, _, _ => none
  | f + 1, y, pc, L, S, h => match decode (ms_B y) pc with
    | .ok (ins, len) => if ms_lenok ins len = true then sb_step y pc (fun pc L S h => sb_run f y pc L S h) (fun z L h => sb_run f z 0 L [] h) ins L S h else none
    | .error _ => none
theorem sb_step_ok {sc : List Int32} {y pc : Nat} {K : ms_KT} {CA : ms_CT} {ins : ClassFile.Instr} {L : List (Option Value)} {S : List Value} {h : List ms_C} {z : ms_Rs} (e : sb_step y pc K CA ins L S h = some z) : ms_step sc y pc K CA ins L S h = some z := by
  unfold sb_step at e
  split at e
  · split at e
    · exact e
    · cases e
  · split at e
    · exact e
    · cases e
  · rename_i n1 n2
    cases ins
    case iaload => exact absurd rfl n1
    case arraylength => exact absurd rfl n2
    all_goals exact e
theorem sb_ok {sc : List Int32} : ∀ (f y pc : Nat) (L : List (Option Value)) (S : List Value) (h : List ms_C) (z : ms_Rs), sb_run f y pc L S h = some z → ms_run sc f y pc L S h = some z := by
  intro f
  induction f with
  | zero => intro y pc L S h z e; cases e
  | succ f ih =>
    intro y pc L S h z e
    cases hd : decode (ms_B y) pc with
    | error w => simp only [sb_run, hd] at e; cases e
    | ok q =>
      obtain ⟨ins, len⟩ := q
      simp only [sb_run, hd] at e
      simp only [ms_run, hd]
      split at e
      · rename_i hl
        rw [if_pos hl]
        exact ms_step_up (fun pc L S h e => ih y pc L S h z e) (fun q L h w e => ih q 0 L [] h w e) (sb_step_ok e)
      · cases e
/-- the town at first -/
def A0 : AS := fun c i => match c with
  | 0 => [20, 8, 14, 10, 0].getD i 0
  | 3 => [9, 4, 15].getD i 0
  | 5 => [0, 1, 2, 3, 0].getD i 0
  | 6 => [2, 1, 3, 1, 0].getD i 0
  | 7 => [5, 3].getD i 0
  | _ => 0
def twE (a : Nat) : List ms_C := [ms_obj 4 (TO a emA), ms_ia [0, 0, 0, 0, 0, 0], ms_ia [0, 0, 0, 0, 0, 0], ms_ia [0, 0, 0, 0, 0, 0], ms_ia [0, 0, 0, 0, 0, 0], ms_ia [0, 0, 0, 0, 0, 0], ms_ia [0, 0, 0, 0, 0, 0]]
def twA (a : Nat) : List ms_C := [ms_obj 4 (TO a A0), ms_ia [0, 1, 2, 3, 0, 0], ms_ia [20, 8, 14, 10, 0, 0], ms_ia [2, 1, 3, 1, 0, 0], ms_ia [0, 0, 0, 0, 0, 0], ms_ia [0, 0, 0, 0, 0, 0], ms_ia [9, 4, 15, 0, 0, 0]]
def twP (p K : Nat) : List ms_C := [ms_obj 1 [.ref (p + 1), .int 0], ms_ra ((List.range K).map fun j => some (pad p j))] ++ ((List.range K).map fun j => twE (pad p j)).flatten
/-- the class's cells at first -/
def H0 : List ms_C := [ms_obj 5 MC0, ms_obj 2 [.ref 2, .int 0, .int 0], ms_ca (List.replicate 200 0)] ++ twA 3 ++ twE 10 ++ twP 17 8 ++ twP 75 2 ++ [ms_obj 3 [.ref 92, .ref 93, .int 0], ms_ia [0, 0, 0, 0, 0, 0], ms_ia [0, 0, 0, 0, 0, 0], ms_obj 0 [.ref 95, .ref 96], ms_ia [0, 0, 0, 0, 0, 0], ms_ia [0, 0, 0, 0, 0, 0]]
def rd0 : List Int32 := [5, 3, 0, 1, 2, 3, 0, 0, 2, 1, 3, 1, 0, 0]
def rr0 : List Int32 := [20, 8, 14, 10, 0, 0, 0, 0, 0, 0, 0, 0, 0, 0, 0, 0, 0, 0, 9, 4, 15, 0, 0, 0, 0, -4, 0]
/-- the model's cells at first -/
def H1 : List ms_C := [ms_obj 6 (MO 0 0 0 0 0 (-4) 0 (-4) 0), ms_ia (List.replicate 200 0), ms_ia rd0, ms_ia rd0, ms_ia rr0, ms_ia rr0, ms_ia (List.replicate 27 0), ms_ia (List.replicate 216 0), ms_ia (List.replicate 54 0), ms_ia (List.replicate 12 0), ms_ia [0, 0, 0], ms_ia [0, 0, 0, 0, 0, 0], ms_ia [0, 0, 0, 0, 0, 0]]
def eqC : DecidableEq ms_C := inferInstance
def eqR (x : Option ms_Rs) (g : List ms_C) : Bool := match x with
  | some (none, h) => @decide (h = g) (@List.hasDecEq ms_C eqC h g)
  | _ => false
theorem eqR_ok {x : Option ms_Rs} {g : List ms_C} (e : eqR x g = true) : x = some (none, g) := by
  unfold eqR at e
  split at e
  · rw [@of_decide_eq_true _ (_) e]
  · cases e
set_option maxRecDepth 1000000 in
set_option maxHeartbeats 4000000 in
theorem ctor_class : eqR (sb_run 4000 42 0 [some (.ref 0)] [] [.inl (5, ms_d 5)]) H0 = true := by decide +kernel
set_option maxRecDepth 1000000 in
set_option maxHeartbeats 4000000 in
theorem ctor_model : eqR (sb_run 4000 75 0 [some (.ref 97)] [] (H0 ++ [.inl (6, ms_d 6)])) (H0 ++ H1) = true := by decide +kernel

-- the small machine: its cells, its step, its runs
abbrev ms_C : Type := (Nat × List Value) ⊕ (Bool × List Int32) ⊕ List (Option Nat)
abbrev ms_Rs : Type := Option Value × List ms_C
def ms_obj (ci : Nat) (fs : List Value) : ms_C := .inl (ci, fs)
def ms_ia (l : List Int32) : ms_C := .inr (.inl (false, l))
def ms_ca (l : List Int32) : ms_C := .inr (.inl (true, l))
def ms_ra (l : List (Option Nat)) : ms_C := .inr (.inr l)
/-- the locals with a value of one slot put in place i -/
def ms_set (L : List (Option Value)) (i : Nat) (v : Value) : Option (List (Option Value)) :=
  if i < L.length then
    match i with
    | 0 => some (L.set 0 (some v))
    | j + 1 => match L[j]? with
      | some (some (.long _)) => none
      | some (some (.double _)) => none
      | _ => some (L.set (j + 1) (some v))
  else none
def ms_set2 (L : List (Option Value)) (i : Nat) (v : Value) : Option (List (Option Value)) :=
  if i + 1 < L.length then
    match i with
    | 0 => some ((L.set 0 (some v)).set 1 none)
    | j + 1 => match L[j]? with
      | some (some (.long _)) => none
      | some (some (.double _)) => none
      | _ => some ((L.set (j + 1) (some v)).set (j + 2) none)
  else none
def ms_args : List Value → List (Option Value)
  | [] => []
  | .long x :: vs => some (.long x) :: none :: ms_args vs
  | v :: vs => some v :: ms_args vs
def ms_init (vs : List Value) (n : Nat) : List (Option Value) := ms_args vs ++ List.replicate (n - (ms_args vs).length) none
def ms_cmp (c : ClassFile.Cond) (x y : Int32) : Prop := match c with
  | .eq => x = y
  | .ne => ¬ x = y
  | .lt => x < y
  | .ge => y ≤ x
  | .gt => y < x
  | .le => x ≤ y
def ms_cmpD (c : ClassFile.Cond) (x y : Int32) : Decidable (ms_cmp c x y) := match c with
  | .eq => inferInstanceAs (Decidable (x = y))
  | .ne => inferInstanceAs (Decidable (¬ x = y))
  | .lt => inferInstanceAs (Decidable (x < y))
  | .ge => inferInstanceAs (Decidable (y ≤ x))
  | .gt => inferInstanceAs (Decidable (y < x))
  | .le => inferInstanceAs (Decidable (x ≤ y))
def ms_go (pc : Nat) (off : Int) (K : Nat → Option ms_Rs) : Option ms_Rs := match (pc : Int) + off with
  | .ofNat t => K t
  | _ => none
/-- does a value fit a field of that descriptor -/
def ms_fit (d : String) (v : Value) : Bool := match v with
  | .int _ => d == "I"
  | .ref _ => d != "I"
  | _ => false
def ms_one (v : Value) : Bool := match v with
  | .long _ => false
  | .double _ => false
  | _ => true
def ms_get (h : List ms_C) (a : Nat) (ci k : Nat) : Option Value := match h[a]? with
  | some (.inl (cj, fs)) => if cj = ci then fs[k]? else none
  | _ => none
def ms_iat (i : Int32) (n : Nat) : Option Nat := if i < 0 ∨ n ≤ i.toNatClampNeg then none else some i.toNatClampNeg
def ms_lens : Instr → Nat
  | .bipush _ | .ldc _ | .iload _ | .lload _ | .aload _ | .istore _ | .lstore _ | .astore _ | .newarray _ => 2
  | .sipush _ | .ldc2_w _ | .ldc_w _ | .iinc _ _ | .goto _ | .ifCond _ _ | .if_icmp _ _ | .getfield _ | .putfield _ | .invokevirtual _ | .invokespecial _ | .invokestatic _ | .new _ | .anewarray _ => 3
  | _ => 1
def ms_nd (v : Value) : Bool := match v with
  | .double _ => false
  | _ => true
def ms_call (y pc : Nat) (K : Nat → List (Option Value) → List Value → List ms_C → Option ms_Rs) (CA : Nat → List (Option Value) → List ms_C → Option ms_Rs) (kind z : Nat) (L : List (Option Value)) (S : List Value) (h : List ms_C) : Option ms_Rs :=
  if S.length < ms_A z ∨ ms_F y < ms_F z + 1 ∨ ms_W y < 8 + (ms_L z + 11) + ms_W z ∨ 8 < ((S.drop (ms_A z)).map fun v => v.category).sum ∨ ms_L z < (ms_args (S.take (ms_A z)).reverse).length ∨ (S.take (ms_A z)).all ms_nd = false then none
  else match CA z (ms_init (S.take (ms_A z)).reverse (ms_L z)) h with
    | some (r, h') => K (pc + 3) L (r.toList ++ S.drop (ms_A z)) h'
    | none => none
def ms_bin (S : List Value) (f : Int32 → Int32 → Option (List Value → Option ms_Rs)) : Option ms_Rs := match S with
  | .int y :: .int x :: S => match f x y with
    | some g => g S
    | none => none
  | _ => none
def ms_step (sc : List Int32) (y pc : Nat) (K : Nat → List (Option Value) → List Value → List ms_C → Option ms_Rs) (CA : Nat → List (Option Value) → List ms_C → Option ms_Rs) (ins : Instr) (L : List (Option Value)) (S : List Value) (h : List ms_C) : Option ms_Rs :=
  match ins with
  | .iconst n => K (pc + 1) L (.int (Int32.ofInt n) :: S) h
  | .lconst n => K (pc + 1) L (.long (Int64.ofNat (n : Nat)) :: S) h
  | .bipush n => K (pc + 2) L (.int (Int8.ofInt n).toInt32 :: S) h
  | .sipush n => K (pc + 3) L (.int (Int16.ofInt n).toInt32 :: S) h
  | .ldc_w i => match ms_i (ms_O y) i with
    | some v => K (pc + 3) L (.int v :: S) h
    | none => none
  | .ldc2_w i => match ms_g (ms_O y) i with
    | some v => K (pc + 3) L (.long v :: S) h
    | none => none
  | .iload_n k => match L[(k : Nat)]? with
    | some (some (.int x)) => K (pc + 1) L (.int x :: S) h
    | _ => none
  | .iload k => match L[k]? with
    | some (some (.int x)) => K (pc + 2) L (.int x :: S) h
    | _ => none
  | .lload_n k => match L[(k : Nat)]? with
    | some (some (.long x)) => K (pc + 1) L (.long x :: S) h
    | _ => none
  | .lload k => match L[k]? with
    | some (some (.long x)) => K (pc + 2) L (.long x :: S) h
    | _ => none
  | .aload_n k => match L[(k : Nat)]? with
    | some (some (.ref x)) => K (pc + 1) L (.ref x :: S) h
    | some (some (.float x)) => K (pc + 1) L (.float x :: S) h
    | _ => none
  | .aload k => match L[k]? with
    | some (some (.ref x)) => K (pc + 2) L (.ref x :: S) h
    | some (some (.float x)) => K (pc + 2) L (.float x :: S) h
    | _ => none
  | .istore_n k => match S with
    | .int x :: S => match ms_set L (k : Nat) (.int x) with
      | some L => K (pc + 1) L S h
      | none => none
    | _ => none
  | .istore k => match S with
    | .int x :: S => match ms_set L k (.int x) with
      | some L => K (pc + 2) L S h
      | none => none
    | _ => none
  | .astore_n k => match S with
    | .ref x :: S => match ms_set L (k : Nat) (.ref x) with
      | some L => K (pc + 1) L S h
      | none => none
    | _ => none
  | .lstore_n k => match S with
    | .long x :: S => match ms_set2 L (k : Nat) (.long x) with
      | some L => K (pc + 1) L S h
      | none => none
    | _ => none
  | .lstore k => match S with
    | .long x :: S => match ms_set2 L k (.long x) with
      | some L => K (pc + 2) L S h
      | none => none
    | _ => none
  | .iinc k n => match L[k]? with
    | some (some (.int x)) => match ms_set L k (.int (x + Int32.ofInt n)) with
      | some L => K (pc + 3) L S h
      | none => none
    | _ => none
  | .iadd => ms_bin S fun a b => some fun S => K (pc + 1) L (.int (a + b) :: S) h
  | .isub => ms_bin S fun a b => some fun S => K (pc + 1) L (.int (a - b) :: S) h
  | .imul => ms_bin S fun a b => some fun S => K (pc + 1) L (.int (a * b) :: S) h
  | .idiv => ms_bin S fun a b => if b = 0 then none else some fun S => K (pc + 1) L (.int (a / b) :: S) h
  | .irem => ms_bin S fun a b => if b = 0 then none else some fun S => K (pc + 1) L (.int (a - a / b * b) :: S) h
  | .iand => ms_bin S fun a b => some fun S => K (pc + 1) L (.int (a &&& b) :: S) h
  | .ior => ms_bin S fun a b => some fun S => K (pc + 1) L (.int (a ||| b) :: S) h
  | .ishl => ms_bin S fun a b => some fun S => K (pc + 1) L (.int (a <<< (b &&& 31)) :: S) h
  | .ishr => ms_bin S fun a b => some fun S => K (pc + 1) L (.int (a >>> (b &&& 31)) :: S) h
  | .iushr => ms_bin S fun a b => some fun S => K (pc + 1) L (.int (a.toUInt32 >>> (b.toUInt32 &&& Int32.toUInt32 31)).toInt32 :: S) h
  | .ladd => match S with
    | .long b :: .long a :: S => K (pc + 1) L (.long (a + b) :: S) h
    | _ => none
  | .lmul => match S with
    | .long b :: .long a :: S => K (pc + 1) L (.long (a * b) :: S) h
    | _ => none
  | .ldiv => match S with
    | .long b :: .long a :: S => if b = 0 then none else K (pc + 1) L (.long (a / b) :: S) h
    | _ => none
  | .lrem => match S with
    | .long b :: .long a :: S => if b = 0 then none else K (pc + 1) L (.long (a - a / b * b) :: S) h
    | _ => none
  | .lcmp => match S with
    | .long b :: .long a :: S => K (pc + 1) L (.int (lg_cmp a b) :: S) h
    | _ => none
  | .i2l => match S with
    | .int a :: S => K (pc + 1) L (.long a.toInt64 :: S) h
    | _ => none
  | .l2i => match S with
    | .long a :: S => K (pc + 1) L (.int a.toInt32 :: S) h
    | _ => none
  | .i2c => match S with
    | .int a :: S => K (pc + 1) L (.int (a.toUInt32 % 65536).toInt32 :: S) h
    | _ => none
  | .dup => match S with
    | a :: S => if ms_one a then K (pc + 1) L (a :: a :: S) h else none
    | _ => none
  | .dup2 => match S with
    | a :: b :: S => if ms_one a && ms_one b then K (pc + 1) L (a :: b :: a :: b :: S) h else none
    | _ => none
  | .pop => match S with
    | a :: S => if ms_one a then K (pc + 1) L S h else none
    | _ => none
  | .goto o => ms_go pc o fun t => K t L S h
  | .ifCond c o => match S with
    | .int x :: S => ms_go pc o fun t => match ms_cmpD c x 0 with
      | .isTrue _ => K t L S h
      | .isFalse _ => K (pc + 3) L S h
    | _ => none
  | .if_icmp c o => match S with
    | .int b :: .int a :: S => ms_go pc o fun t => match ms_cmpD c a b with
      | .isTrue _ => K t L S h
      | .isFalse _ => K (pc + 3) L S h
    | _ => none
  | .tableswitch d lo hi os => match S with
    | .int x :: S => if x.toInt < lo ∨ hi < x.toInt then ms_go pc d fun t => K t L S h
      else match os[(x.toInt - lo).toNat]? with
        | some o => ms_go pc o fun t => K t L S h
        | none => none
    | _ => none
  | .lookupswitch d ps => match S with
    | .int x :: S => if (ps.toList.zip (ps.toList.drop 1)).all (fun (a, next) => a.1 < next.1) = true then ms_go pc (Op.lookupswitch.offset ps.toList d x.toInt) fun t => K t L S h else none
    | _ => none
  | .getfield i => match S with
    | .ref a :: S => match ms_f (ms_O y) i with
      | some (ci, k) => match ms_get h a ci k with
        | some v => K (pc + 3) L (v :: S) h
        | none => none
      | none => none
    | _ => none
  | .putfield i => match S with
    | v :: .ref a :: S => match ms_f (ms_O y) i with
      | some (ci, k) => match vwCl[ci]?, h[a]? with
        | some (C, T, N), some (.inl (cj, fs)) => if cj = ci ∧ k < N ∧ k < fs.length ∧ ms_fit (T k).2.2.1 v = true ∧ ((T k).2.2.2 = false ∨ ((ms_Y y).name = "<init>" ∧ (T k).1 = ms_cn (ms_O y))) then K (pc + 3) L S (h.set a (.inl (ci, fs.set k v))) else none
        | _, _ => none
      | none => none
    | _ => none
  | .iaload => match S with
    | .int i :: .ref a :: S => match h[a]? with
      | some (.inr (.inl (false, l))) => match ms_iat i l.length with
        | some j => K (pc + 1) L (.int (l.getD j 0) :: S) h
        | none => none
      | _ => none
    | .int i :: .float _ :: S => match ms_iat i sc.length with
      | some j => K (pc + 1) L (.int (sc.getD j 0) :: S) h
      | none => none
    | _ => none
  | .caload => match S with
    | .int i :: .ref a :: S => match h[a]? with
      | some (.inr (.inl (true, l))) => match ms_iat i l.length with
        | some j => K (pc + 1) L (.int (l.getD j 0) :: S) h
        | none => none
      | _ => none
    | _ => none
  | .iastore => match S with
    | .int x :: .int i :: .ref a :: S => match h[a]? with
      | some (.inr (.inl (false, l))) => match ms_iat i l.length with
        | some j => K (pc + 1) L S (h.set a (.inr (.inl (false, l.set j x))))
        | none => none
      | _ => none
    | _ => none
  | .castore => match S with
    | .int x :: .int i :: .ref a :: S => match h[a]? with
      | some (.inr (.inl (true, l))) => match ms_iat i l.length with
        | some j => K (pc + 1) L S (h.set a (.inr (.inl (true, l.set j (vp_nar .char x)))))
        | none => none
      | _ => none
    | _ => none
  | .aaload => match S with
    | .int i :: .ref a :: S => match h[a]? with
      | some (.inr (.inr l)) => match ms_iat i l.length with
        | some j => match l.getD j none with
          | some q => K (pc + 1) L (.ref q :: S) h
          | none => none
        | none => none
      | _ => none
    | _ => none
  | .aastore => match S with
    | .ref q :: .int i :: .ref a :: S => match h[a]?, h[q]? with
      | some (.inr (.inr l)), some (.inl (4, _)) => match ms_iat i l.length with
        | some j => K (pc + 1) L S (h.set a (.inr (.inr (l.set j (some q)))))
        | none => none
      | _, _ => none
    | _ => none
  | .arraylength => match S with
    | .ref a :: S => match h[a]? with
      | some (.inr (.inl (_, l))) => K (pc + 1) L (.int (Int32.ofNat l.length) :: S) h
      | some (.inr (.inr l)) => K (pc + 1) L (.int (Int32.ofNat l.length) :: S) h
      | _ => none
    | .float _ :: S => K (pc + 1) L (.int (Int32.ofNat sc.length) :: S) h
    | _ => none
  | .newarray t => match S with
    | .int n :: S => if n < 0 ∨ 1000 < n.toNatClampNeg then none else match t with
      | .int => K (pc + 2) L (.ref h.length :: S) (h ++ [.inr (.inl (false, List.replicate n.toNatClampNeg 0))])
      | .char => K (pc + 2) L (.ref h.length :: S) (h ++ [.inr (.inl (true, List.replicate n.toNatClampNeg 0))])
      | _ => none
    | _ => none
  | .anewarray i => match S with
    | .int n :: S => if n < 0 ∨ 1000 < n.toNatClampNeg ∨ ms_n (ms_O y) i ≠ some 4 then none
      else K (pc + 3) L (.ref h.length :: S) (h ++ [.inr (.inr (List.replicate n.toNatClampNeg none))])
    | _ => none
  | .new i => match ms_n (ms_O y) i with
    | some ci => K (pc + 3) L (.ref h.length :: S) (h ++ [.inl (ci, ms_d ci)])
    | none => none
  | .invokevirtual i => match ms_c (ms_O y) i with
    | some (z, 0) => match S[ms_A z - 1]? with
      | some (.ref a) => match h[a]? with
        | some (.inl (ci, _)) => if ci = ms_O z then ms_call y pc K CA 0 z L S h else none
        | _ => none
      | _ => none
    | _ => none
  | .invokestatic i => match ms_c (ms_O y) i with
    | some (z, 1) => ms_call y pc K CA 1 z L S h
    | some (z, 3) => ms_call y pc K CA 3 z L S h
    | some (_, 5) => match S with
      | .int b :: .int a :: S => if 1 ≤ ms_F y ∧ (S.map fun v => v.category).sum + 13 ≤ ms_W y then K (pc + 3) L (.int (if a < b then b else a) :: S) h else none
      | _ => none
    | some (_, 6) => match S with
      | .int b :: .int a :: S => if 1 ≤ ms_F y ∧ (S.map fun v => v.category).sum + 13 ≤ ms_W y then K (pc + 3) L (.int (if b < a then b else a) :: S) h else none
      | _ => none
    | _ => none
  | .invokespecial i => match ms_c (ms_O y) i with
    | some (_, 4) => match S with
      | [.ref _] => if 1 ≤ ms_F y ∧ 12 ≤ ms_W y then K (pc + 3) L [] h else none
      | _ => none
    | some (z, 2) => match S[ms_A z - 1]? with
      | some (.ref _) => ms_call y pc K CA 2 z L S h
      | _ => none
    | _ => none
  | .ireturn => match S with
    | [.int x] => if ms_R y = some .int ∨ (ms_R y = some .boolean ∧ (x = 0 ∨ x = 1)) then some (some (.int x), h) else none
    | _ => none
  | .return_ => match S with
    | [] => if ms_R y = none then some (none, h) else none
    | _ => none
  | _ => none
def ms_lenok (ins : Instr) (len : Nat) : Bool := match ins with
  | .tableswitch .. => true
  | .lookupswitch .. => true
  | _ => len == ms_lens ins
def ms_run (sc : List Int32) : Nat → Nat → Nat → List (Option Value) → List Value → List ms_C → Option ms_Rs
  | 0, _, _, _, _, _ => none
  | f + 1, y, pc, L, S, h => match decode (ms_B y) pc with
    | .ok (ins, len) => if ms_lenok ins len = true then ms_step sc y pc (fun pc L S h => ms_run sc f y pc L S h) (fun z L h => ms_run sc f z 0 L [] h) ins L S h else none
    | .error _ => none
